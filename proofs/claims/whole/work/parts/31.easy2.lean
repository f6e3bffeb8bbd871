/-! PAIRS: islands, lacks, done, spent, back -/
theorem q_pos1 (x : Int32) : 0 < x ↔ ¬ x < 1 := by
  rw [Int32.lt_iff_toInt_lt, Int32.lt_iff_toInt_lt, show (0 : Int32).toInt = 0 from rfl, show (1 : Int32).toInt = 1 from rfl]
  omega
theorem M_isIsland {h : sh_H} {p : Int32} : f_M_isIsland p h = some (q_isl p (mS h 1)) := by
  unfold f_M_isIsland q_isl
  by_cases c : p < 1
  · rw [if_pos c, if_neg (fun q => (q_pos1 p).mp q c)]
    rfl
  · rw [if_neg c, if_pos ((q_pos1 p).mpr c), if_pos (show ai_in 1 8000 from q_in (k := 1) (n := 8000) (by omega) (by omega))]
    show (if mS h 1 < p then _ else _) = _
    split <;> rfl
theorem q_isl_in {p : Int32} {n : Nat} (hn : n < 2 ^ 31) (h : ¬ q_isl p (nI n) = 0) : ∃ a, a < n ∧ p = nI (a + 1) := by
  unfold q_isl at h
  by_cases h1 : p < 1
  · rw [if_pos h1] at h; exact absurd rfl h
  · rw [if_neg h1] at h
    have h0 : ¬ p < 0 := fun q => h1 (Int32.lt_trans q (by decide))
    obtain ⟨a, ha, rfl⟩ := nI_of h0
    rw [show (1 : Int32) = nI 1 from rfl, nI_ltI ha (by omega)] at h1
    by_cases h2 : nI n < nI a
    · rw [if_pos h2] at h; exact absurd rfl h
    · rw [nI_ltI hn ha] at h2
      exact ⟨a - 1, by omega, by rw [Nat.sub_add_cancel (by omega)]⟩
theorem P_island (a1 a2 : Int32) : PairR (f_CB_island a1 a2) (f_M_island a1 a2) := by
  intro c hc hm _ h
  obtain ⟨n, h1, h2, h3, h4⟩ := St_n h 1 (by omega)
  have ht := St_tx h
  have hn : n ≤ 4 := h1
  unfold f_CB_island f_M_island f_CB_island_b24
  rw [Text_isIsland, M_isIsland, h2, h3, CB_within, M_isIn]
  simp only [Option.bind_some]
  by_cases c1 : q_isl a1 (nI n) = 0
  · rw [if_pos c1, if_pos c1]
    exact ⟨-1, rfl, rfl⟩
  · rw [if_neg c1, if_neg c1]
    obtain ⟨a, ha, rfl⟩ := q_isl_in (by omega) c1
    by_cases c2 : q_within a2 0 1 = 0
    · rw [if_pos c2, if_pos c2]
      exact ⟨-1, rfl, rfl⟩
    · rw [if_neg c2, if_neg c2]
      obtain ⟨b, -, hb, rfl⟩ := q_within_in (a := 0) (b := 1) (by omega) (by omega) c2
      refine ⟨mS hm (40 + 2 * a + b), ?_, ?_⟩
      · unfold f_CB_island_b25
        rw [if_neg q_10, nI_pred, rows_get h.1 (by omega) h2 (by rw [(rc_tx _ ht 1 (by omega)).2.1]; exact h1) (by omega) (by omega), if_pos ⟨ha, by rw [(rc_tx _ ht 1 (by omega)).2.2]; show b < 2; omega⟩, Option.bind_some]
        have hb9 : tb_c 1 b < 9 ∧ tb_c 1 b = b := (by decide +kernel : ∀ b, b < 2 → tb_c 1 b < 9 ∧ tb_c 1 b = b) b (by omega)
        have e := h4 a ha b (by omega) hb9.1
        rw [hb9.2] at e
        exact congrArg some e
      · rw [nI_pred, show (40 : Int32) = nI 40 from rfl, show (2 : Int32) = nI 2 from rfl, q_mul, nI_add, nI_add]
        exact mS_q (by omega)
theorem CB_isOf {h : sh_H} {p k : Int32} : f_CB_isOf p k h = some (if q_isl p (h.1 6 (7 * h.2.2.1 + 1) 3) = 0 then 0 else if q_kind k (h.1 6 (7 * h.2.2.1 + 0) 3) = 0 then 0 else 1) := by
  unfold f_CB_isOf f_CB_isOf_b26
  rw [Text_isIsland, Text_isKind, q_nar0, q_nar1]
  simp only [Option.bind_some]
  split
  · rfl
  · split <;> rfl
theorem P_lacks (a1 a2 : Int32) : PairR (f_CB_lacks a1 a2) (f_M_lacks a1 a2) := by
  intro c hc hm _ h
  obtain ⟨n, h1, h2, h3, -⟩ := St_n h 1 (by omega)
  obtain ⟨m, k1, k2, k3, -⟩ := St_n h 0 (by omega)
  have hn : n ≤ 4 := h1
  have hk : m ≤ 6 := k1
  unfold f_CB_lacks f_M_lacks
  rw [CB_isOf, M_isIsland, M_isKind, h2, h3, k2, k3]
  simp only [Option.bind_some]
  by_cases c1 : q_isl a1 (nI n) = 0
  · rw [if_pos c1, if_pos c1, if_pos rfl]
    exact ⟨-1, rfl, rfl⟩
  · rw [if_neg c1, if_neg c1]
    obtain ⟨a, ha, rfl⟩ := q_isl_in (by omega) c1
    by_cases c2 : q_kind a2 (nI m) = 0
    · rw [if_pos c2, if_pos c2, if_pos rfl]
      exact ⟨-1, rfl, rfl⟩
    · rw [if_neg c2, if_neg c2, if_neg q_10]
      obtain ⟨b, hb, rfl⟩ := q_kind_in (by omega) c2
      obtain ⟨l1, l2⟩ := h.2.2.2.2.2.1.2.1
      refine ⟨mS hm (926 + (a * 6 + b)), ?_, ?_⟩
      · rw [nI_pred, rows_get (s := 4) h.1 (by omega) l1 (by decide) (by omega) (by omega), if_pos ⟨by omega, by show b < 6; omega⟩, Option.bind_some]
        have e := l2 (a * 6 + b) (by omega)
        rw [Nat.zero_add] at e
        exact congrArg some e
      · rw [show (920 : Int32) = nI 920 from rfl, show (6 : Int32) = nI 6 from rfl, q_mul, nI_add, nI_add, show 920 + 6 * (a + 1) + b = 926 + (a * 6 + b) by omega]
        exact mS_q (by omega)
theorem P_back (a1 : Int32) : Pair (f_CB_back a1) (f_M_back a1) := by
  intro c hc hm _ h
  obtain ⟨n, t1, t2, t3, t4⟩ := h.2.2.1
  unfold f_CB_back f_M_back
  rw [t2, t3]
  by_cases c1 : a1 < 0
  · rw [if_pos c1, if_pos c1]
    exact ⟨_, hc, hm, rfl, rfl, St_up h, mEq.rf _, cEq.rf _, xEq.rf _⟩
  · rw [if_neg c1, if_neg c1]
    obtain ⟨a, ha, rfl⟩ := nI_of c1
    by_cases c2 : nI n < nI a
    · rw [if_pos c2, if_pos c2]
      exact ⟨_, hc, hm, rfl, rfl, St_up h, mEq.rf _, cEq.rf _, xEq.rf _⟩
    · rw [if_neg c2, if_neg c2]
      rw [nI_ltI (by omega) ha] at c2
      rw [q_sub (by omega)]
      refine ⟨nI (n - a), sh_pI hc 11 0 1 (nI (n - a)), sh_pI hm 12 0 0 (nI (n - a)), rfl, rfl, ?_, mEq_pI (by decide) (mEq.rf _), cEq_pI (by decide) (cEq.rf _), xEq_pI (by decide) (xEq.rf _)⟩
      obtain ⟨g1, g2, g3, g4, g5, g6, g7, g8, g9, g10⟩ := St_up h
      exact ⟨g1, g2, ⟨n - a, by omega, rfl, rfl, fun i hi => t4 i (by omega)⟩, g4, g5, g6, g7, g8, g9, g10⟩
