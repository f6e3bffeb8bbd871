/-! PAIRS: burn -/
theorem burn_loop {c b : Nat} (hb : b < 6) (hc5 : c ≤ 512) : ∀ (k w n : Nat) (x : Int32) (hc hm : sh_H), w + k = 4 → k < n → St c hc hm → ∃ r hc' hm', f_CB_burn_l27 NF n (nI b) x (nI w) hc = some (r, hc') ∧ f_M_burn_l24 NF n (nI b) x (nI w) hm = some (r, hm') ∧ St c hc' hm' ∧ mEq hc' hc ∧ cEq hm' hm ∧ xEq hm' hm := by
  intro k
  induction k with
  | zero =>
    intro w n x hc hm e1 e2 h
    obtain ⟨n, rfl⟩ : ∃ m, n = m + 1 := ⟨n - 1, by omega⟩
    obtain rfl : w = 4 := by omega
    refine ⟨x, hc, hm, ?_, ?_, h, mEq.rf _, cEq.rf _, xEq.rf _⟩
    · show f_CB_burn_c27 NF (f_CB_burn_l27 NF n) (nI b) x (nI 4) hc = _
      unfold f_CB_burn_c27
      rw [if_neg (show ¬ nI 4 < 4 by decide)]
    · show f_M_burn_c24 NF (f_M_burn_l24 NF n) (nI b) x (nI 4) hm = _
      unfold f_M_burn_c24
      rw [if_neg (show ¬ nI 4 < 4 by decide)]
  | succ k ih =>
    intro w n x hc hm e1 e2 h
    obtain ⟨n, rfl⟩ : ∃ m, n = m + 1 := ⟨n - 1, by omega⟩
    have hp := (rSt_0 h).1
    obtain ⟨g, g1, g2⟩ := St_g h
    have hw : w < 4 := by omega
    have l4 : nI w < (4 : Int32) := nI_lt (b := 4) hw (by omega)
    have hq : (6 * 0 + b) * 4 + w < 120 := by omega
    have eg : f_Pieces_get 0 (0 : Int32) (nI b) (nI w) hc = _ := pcs_get (s := 0) (p := 0) (k := b) (w := w) h.1 (by omega) hp (by omega) (by omega) hw
    have em : ∀ h, f_M_cell (0 : Int32) (nI b) (nI w) h = _ := fun h => M_cell (h := h) (p := 0) (k := b) (w := w)
    have ea : ∀ v, f_Pieces_add 0 (0 : Int32) (nI b) (nI w) v hc = _ := fun v => pcs_add (s := 0) (p := 0) (k := b) (w := w) (v := v) h.1 (by omega) hp (by omega) (by omega) hw
    generalize hQ : (6 * 0 + b) * 4 + w = Q at *
    have gq := g1 Q hq
    have gq2 : hm.1 13 46 (800 + Q) = nI (g Q) := gq
    have ecl : (nI (800 + Q)).toNatClampNeg = 800 + Q := q_cl (by omega)
    have ein : ai_in (nI (800 + Q)) 8000 := q_in (by omega) (by omega)
    have l := sumN_le (g := g) hq
    have S := St_put (c' := c) (Nat.le_refl c) h g1 (a := Q) (v := 0) hq (by omega)
    obtain ⟨r, H, G, i1, i2, i3, i4, i5, i6⟩ := ih (w + 1) n (x + nI (g Q)) _ _ (by omega) (by omega) S
    refine ⟨r, H, G, ?_, ?_, i3, i4.tr (mEq_pI (by decide) (mEq.rf _)), i5.tr (cEq_pI (by decide) (cEq.rf _)), i6.tr (xEq_pI (by decide) (xEq.rf _))⟩
    · show f_CB_burn_c27 NF (f_CB_burn_l27 NF n) (nI b) x (nI w) hc = _
      unfold f_CB_burn_c27
      rw [if_pos l4, eg]
      simp only [Option.bind_some]
      rw [ea, Nat.zero_add, gq, nI_1, show nI (g Q) + -nI (g Q) = nI 0 from Int32.add_right_neg _]
      exact i1
    · show f_M_burn_c24 NF (f_M_burn_l24 NF n) (nI b) x (nI w) hm = _
      unfold f_M_burn_c24
      rw [if_pos l4]
      simp only [em, Option.bind_some, if_pos ein, ecl, sh_let, gq2, nI_1]
      exact i2
theorem P_burn (a1 a2 : Int32) : Pair (f_CB_burn NF a1 a2) (f_M_burn NF a1 a2) := by
  intro c hc hm hc5 h
  obtain ⟨m, k1, k2, k3, -⟩ := St_n h 0 (by omega)
  have hk : m ≤ 6 := k1
  unfold f_CB_burn f_M_burn
  rw [Text_isKind, M_isKind, CB_within, M_isIn, k2, k3]
  simp only [Option.bind_some]
  refine pick2 (fun _ => same h) (fun c2 => ?_)
  refine pick2 (fun _ => same h) (fun c4 => ?_)
  obtain ⟨b, hb, rfl⟩ := q_kind_in (by omega) c2
  obtain ⟨w, -, hx, rfl⟩ := q_within_in (a := 0) (b := 3) (by omega) (by omega) c4
  exact burn_loop (by omega) (by omega) (4 - w) w NF 0 hc hm (by omega) (Nat.lt_of_lt_of_le (by omega : 4 - w < 5) (Nat.le_of_ble_eq_true rfl)) (St_up h)
