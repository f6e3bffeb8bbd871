/-! PAIRS: the easy ones -/
theorem St_tx {c : Nat} {hc hm : sh_H} (h : St c hc hm) : hc.2.2.1 < 2 := by rcases h.2.1 with q | q <;> omega
theorem St_n {c : Nat} {hc hm : sh_H} (h : St c hc hm) (j : Nat) (hj : j < 7) : ∃ n, n ≤ sh_m j ∧ hc.1 6 (7 * hc.2.2.1 + j) 3 = nI n ∧ mS hm j = nI n ∧ ∀ r, r < n → ∀ c, c < 5 → tb_c j c < 9 → cC hc (7 * hc.2.2.1 + j) r c = mS hm (tb_b j + tb_s j * r + tb_c j c) := by
  obtain ⟨n, h1, h2, h3, h4⟩ := h.2.2.2.2.1.1 j hj
  rw [(rc_tx _ (St_tx h) j hj).2.1] at h1
  rw [Nat.zero_add] at h3
  refine ⟨n, h1, h2, h3, fun r hr c hc5 h9 => ?_⟩
  have := h4 r hr c hc5 h9
  rw [Nat.zero_add] at this
  exact this
theorem P_place : PairR (f_CB_place) (f_M_place) := by
  intro c hc hm _ h
  exact ⟨_, rfl, congrArg some h.2.2.2.1.symm⟩
theorem mS_q {h : sh_H} {n : Nat} (hn : n < 8000) : (if ai_in (nI n) 8000 then some (h.1 13 46 (nI n).toNatClampNeg) else none) = some (mS h n) := by
  rw [q_gd hn (by omega), q_cl (by omega)]
theorem P_kind (a1 a2 : Int32) : PairR (f_CB_kind a1 a2) (f_M_kind a1 a2) := by
  intro c hc hm _ h
  obtain ⟨n, h1, h2, h3, h4⟩ := St_n h 0 (by omega)
  have ht := St_tx h
  have hn : n ≤ 6 := h1
  unfold f_CB_kind f_M_kind f_CB_kind_b24
  rw [Text_isKind, M_isKind, h2, h3, CB_within, M_isIn]
  simp only [Option.bind_some]
  by_cases c1 : q_kind a1 (nI n) = 0
  · rw [if_pos c1, if_pos c1]
    exact ⟨-1, rfl, rfl⟩
  · rw [if_neg c1, if_neg c1]
    obtain ⟨a, ha, rfl⟩ := q_kind_in (by omega) c1
    by_cases c2 : q_within a2 0 2 = 0
    · rw [if_pos c2, if_pos c2]
      exact ⟨-1, rfl, rfl⟩
    · rw [if_neg c2, if_neg c2]
      obtain ⟨b, -, hb, rfl⟩ := q_within_in (a := 0) (b := 2) (by omega) (by omega) c2
      refine ⟨mS hm (20 + 3 * a + b), ?_, ?_⟩
      · unfold f_CB_kind_b25
        rw [if_neg q_10, rows_get h.1 (by omega) h2 (by rw [(rc_tx _ ht 0 (by omega)).2.1]; exact h1) (by omega) (by omega), if_pos ⟨ha, by rw [(rc_tx _ ht 0 (by omega)).2.2]; show b < 3; omega⟩, Option.bind_some]
        have hb9 : tb_c 0 b < 9 ∧ tb_c 0 b = b := (by decide +kernel : ∀ b, b < 3 → tb_c 0 b < 9 ∧ tb_c 0 b = b) b (by omega)
        have e := h4 a ha b (by omega) hb9.1
        rw [hb9.2] at e
        exact congrArg some e
      · rw [show (20 : Int32) = nI 20 from rfl, show (3 : Int32) = nI 3 from rfl, q_mul, nI_add, nI_add]
        exact mS_q (by omega)
