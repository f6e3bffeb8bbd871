/-! PAIRS: spent, done -/
theorem q_within_eq {x : Int32} {a b : Nat} (ha : a < 2 ^ 31) (hb : b < 2 ^ 31) (k : Nat) (hk : k < 2 ^ 31) : q_within (nI k) (nI a) (nI b) = if a ≤ k ∧ k ≤ b then 1 else 0 := by
  unfold q_within
  simp only [nI_ltI hk ha, nI_ltI hb hk]
  by_cases h1 : k < a
  · rw [if_pos h1, if_neg (by omega)]
  · rw [if_neg h1]
    by_cases h2 : b < k
    · rw [if_pos h2, if_neg (by omega)]
    · rw [if_neg h2, if_pos (by omega)]
theorem P_spent (a1 : Int32) : PairR (f_CB_spent a1) (f_M_spent a1) := by
  intro c hc hm _ h
  obtain ⟨-, t1, t2, t3⟩ := h.2.2.2.2.2.1.2.2.2.2
  unfold f_CB_spent f_M_spent
  rw [M_isIn, t1, t2, t3]
  simp only [Option.bind_some]
  by_cases c2 : q_within a1 0 3 = 0
  · rw [if_pos c2]
    refine ⟨-1, ?_, rfl⟩
    have hne : ∀ k, k < 4 → ¬ a1 = nI k := by
      intro k hk e
      subst e
      rw [show (0 : Int32) = nI 0 from rfl, show (3 : Int32) = nI 3 from rfl, q_within_eq (x := 0) (by omega) (by omega) k (by omega), if_pos (by omega)] at c2
      exact absurd c2 (by decide)
    have e0 : ¬ a1 = 0 := hne 0 (by omega)
    have e1 : ¬ a1 = 1 := hne 1 (by omega)
    have e2 : ¬ a1 = 2 := hne 2 (by omega)
    have e3 : ¬ a1 = 3 := hne 3 (by omega)
    rw [if_neg e0, if_neg e1, if_neg e2, if_neg e3]
  · rw [if_neg c2]
    obtain ⟨b, -, hb, rfl⟩ := q_within_in (a := 0) (b := 3) (by omega) (by omega) c2
    rcases (show b = 0 ∨ b = 1 ∨ b = 2 ∨ b = 3 by omega) with rfl | rfl | rfl | rfl
    · exact ⟨_, rfl, rfl⟩
    · exact ⟨_, rfl, rfl⟩
    · exact ⟨_, rfl, rfl⟩
    · exact ⟨_, rfl, rfl⟩
theorem q_m1 {n : Nat} (hn : n < 2 ^ 31) (k : Nat) (hk : k < 2 ^ 31) : nI n - 1 < nI k ↔ n ≤ k := by
  rw [show (1 : Int32) = nI 1 from rfl]
  by_cases h : 1 ≤ n
  · rw [q_sub h, nI_ltI (by omega) hk]; omega
  · have : n = 0 := by omega
    subst this
    constructor
    · intro _; omega
    · intro _; exact q_lt0 (by decide) k hk
theorem q_wm1 {a n : Nat} (ha : a < 2 ^ 31) (hn : n < 2 ^ 31) : q_within (nI a) 0 (nI n - 1) = if a < n then 1 else 0 := by
  unfold q_within
  rw [if_neg (nI_pos ha)]
  by_cases h : a < n
  · rw [if_pos h, if_neg (fun q => by have := (q_m1 hn a ha).mp q; omega)]
  · rw [if_neg h, if_pos ((q_m1 hn a ha).mpr (by omega))]
theorem P_done (a1 : Int32) : PairR (f_CB_done a1) (f_M_done a1) := by
  intro c hc hm _ h
  obtain ⟨n, n1, n2, n3, n4⟩ := h.2.2.2.2.2.1.2.2.1
  unfold f_CB_done f_M_done f_CB_done_b22 f_CB_done_b23 f_Rows_size
  rw [show (7 : Int32) = nI 7 from rfl, if_pos (q_in (by omega) (by omega)), q_cl (by omega), M_isIn]
  rw [Nat.zero_add] at n3
  have n2' : hc.1 6 (4 * 0 + 15) 3 = nI n := n2
  have n3' : hm.1 13 46 7 = nI n := n3
  rw [n2', n3']
  simp only [Option.bind_some]
  by_cases c1 : a1 < 0
  · rw [if_pos c1, if_pos trivial]
    refine ⟨-1, rfl, ?_⟩
    unfold q_within
    rw [if_pos c1, if_pos rfl]
  · rw [if_neg c1]
    obtain ⟨a, ha, rfl⟩ := nI_of c1
    by_cases c2 : a < n
    · rw [if_pos (nI_lt c2 (by omega)), if_neg q_10, show (5 : Int32) = nI 5 from rfl, rows_get h.1 (by omega) n2' (by show n ≤ 40; exact n1) ha (by omega), if_pos ⟨c2, by decide⟩]
      have e := n4 a c2 5 (by omega)
      refine ⟨_, rfl, ?_⟩
      rw [q_wm1 ha (by omega), if_pos c2, if_neg q_10]
      rw [show (310 : Int32) = nI 310 from rfl, show (6 : Int32) = nI 6 from rfl, q_mul, nI_add, nI_add, q_gd (by omega) (by omega), q_cl (by omega)]
      rw [Nat.zero_add] at e
      exact congrArg some e.symm
    · rw [if_neg (fun q => c2 ((nI_ltI ha (by omega)).mp q)), if_pos trivial]
      refine ⟨-1, rfl, ?_⟩
      rw [q_wm1 ha (by omega), if_neg c2, if_pos rfl]
