/-! THE LOOP, AND THE END OF LAYER 3 -/
theorem law_loop {xs : Nat → Int32} {L : Nat} (hL : L ≤ 4096) : ∀ (m c n : Nat) (h : sh_H), c + m = 520 → m < n → St c h h → (∀ j, h.1 17 0 j = xs j) → h.2.2.2.2 = L → 8 * c ≤ L → sh_ok (f_law_l18 NF n (nI (8 * c)) h) (fun q => q.1 = 1) := by
  intro m
  induction m with
  | zero => intro c n h e1 e2 hS hx hl hcl; omega
  | succ m ih =>
    intro c n h e1 e2 hS hx hl hcl
    obtain ⟨n, rfl⟩ : ∃ k, n = k + 1 := ⟨n - 1, by omega⟩
    show sh_ok (f_law_c18 NF (f_law_l18 NF n) (nI (8 * c)) h) (fun q => q.1 = 1)
    by_cases hin : 8 * c + 8 ≤ L
    · exact law_body hL (fun h2 s x l => ih (c + 1) n h2 (by omega) (by omega) s x l (by omega)) hS hx hl hin
    · unfold f_law_c18
      refine law_i ?_ rfl
      rw [hl, q_len, show (8 : Int32) = nI 8 from rfl]
      by_cases h8 : 8 ≤ L
      · rw [q_sub h8]
        exact nI_lt (by omega) (by omega)
      · exact q_lt0 (pk_sneg (by omega) (by omega)) _ (by omega)
/-- the law's loop over the shallow heap: every answer is the model's -/
theorem whole_main (L : Nat) (xs : Nat → Int32) (hL : L ≤ 4096) : sh_ok (f_law NF (sh_0 L xs)) (fun q => q.1 = 1) := by
  unfold f_law
  exact law_loop hL 520 0 NF (sh_0 L xs) rfl (Nat.lt_of_lt_of_le (by omega : 520 < 521) (Nat.le_of_ble_eq_true rfl)) (St_0 L xs) (h0_x L xs) rfl (by omega)
