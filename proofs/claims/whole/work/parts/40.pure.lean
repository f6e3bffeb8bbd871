/-! PAIRS: sort, trickle, trickled, burnAt -/
theorem q_nar1w (x a b : Int32) : ai_nar 1 (q_within x a b) = q_within x a b := by
  unfold q_within
  split
  · rfl
  · split <;> rfl
theorem M_isCost (x : Int32) (h : sh_H) : f_M_isCost x h = some (q_within x 0 9999) := by
  unfold f_M_isCost
  rw [M_isIn, Option.bind_some, q_nar1w]
theorem P_sort (a1 a2 a3 a4 a5 a6 a7 : Int32) : PairR (f_CB_sort a1 a2 a3 a4 a5 a6 a7) (f_M_sort a1 a2 a3 a4 a5 a6 a7) := by
  intro c hc hm _ h
  unfold f_CB_sort f_M_sort
  simp only [CB_within, M_isIn, M_isCost, Option.bind_some]
  by_cases c1 : q_within a1 0 9999 = 0
  · exact ⟨-1, by simp only [c1, if_true], by simp only [c1, if_true]⟩
  by_cases c6 : q_within a6 0 9999 = 0
  · exact ⟨-1, by simp only [c6, if_true, ite_self], by simp only [c6, if_true, ite_self]⟩
  by_cases c7 : q_within a7 0 9999 = 0
  · exact ⟨-1, by simp only [c7, if_true, ite_self], by simp only [c7, if_true, ite_self]⟩
  by_cases c2 : q_within a2 0 9999 = 0
  · exact ⟨-1, by simp only [c2, if_true, ite_self], by simp only [c2, if_true, ite_self]⟩
  by_cases c4 : q_within a4 0 9999 = 0
  · exact ⟨-1, by simp only [c4, if_true, ite_self], by simp only [c4, if_true, ite_self]⟩
  by_cases c3 : q_within a3 0 100 = 0
  · exact ⟨-1, by simp only [c3, if_true, ite_self], by simp only [c3, if_true, ite_self]⟩
  by_cases c5 : q_within a5 0 100 = 0
  · exact ⟨-1, by simp only [c5, if_true, ite_self], by simp only [c5, if_true, ite_self]⟩
  simp only [if_neg c1, if_neg c2, if_neg c3, if_neg c4, if_neg c5, if_neg c6, if_neg c7]
  obtain ⟨x1, -, h1, rfl⟩ := q_within_in (a := 0) (b := 9999) (by omega) (by omega) c1
  obtain ⟨x2, -, h2, rfl⟩ := q_within_in (a := 0) (b := 9999) (by omega) (by omega) c2
  obtain ⟨x3, -, h3, rfl⟩ := q_within_in (a := 0) (b := 100) (by omega) (by omega) c3
  obtain ⟨x4, -, h4, rfl⟩ := q_within_in (a := 0) (b := 9999) (by omega) (by omega) c4
  obtain ⟨x5, -, h5, rfl⟩ := q_within_in (a := 0) (b := 100) (by omega) (by omega) c5
  obtain ⟨x6, -, h6, rfl⟩ := q_within_in (a := 0) (b := 9999) (by omega) (by omega) c6
  obtain ⟨x7, -, h7, rfl⟩ := q_within_in (a := 0) (b := 9999) (by omega) (by omega) c7
  have p1 : x5 * x6 ≤ 100 * 9999 := Nat.mul_le_mul h5 h6
  have p2 : x3 * x6 ≤ 100 * 9999 := Nat.mul_le_mul h3 h6
  rw [show (100 : Int32) = nI 100 from rfl, show (100 : Int64) = lN 100 from rfl]
  simp only [q_mul, nI_add]
  rw [nI_l (n := x1) (by omega), nI_l (n := 100 * x4 + x5 * x6) (by omega), nI_l (n := 100 * x7) (by omega), nI_l (n := 100 * x2 + x3 * x6) (by omega), nI_l (n := x2) (by omega), nI_l (n := x3) (by omega), nI_l (n := x4) (by omega), nI_l (n := x5) (by omega), nI_l (n := x6) (by omega), nI_l (n := x7) (by omega)]
  simp only [lN_mul, lN_add]
  exact pick (fun _ => ⟨1, rfl, rfl⟩) (fun _ => ⟨0, rfl, rfl⟩)
theorem CB_comesBack (x a : Int32) (h : sh_H) : f_CB_comesBack x a h = some ((x * a + 9) / 10) := by
  unfold f_CB_comesBack
  rw [if_pos (show ¬ (10 : Int32) = 0 by decide)]
theorem CB_stillOut (x a : Int32) (h : sh_H) : f_CB_stillOut x a h = some (x - x * a / 10) := by
  unfold f_CB_stillOut
  rw [if_pos (show ¬ (10 : Int32) = 0 by decide)]
theorem isTrickle_eq (x y z : Int32) (h g : sh_H) : ∃ b, f_CB_isTrickle x y z h = some b ∧ f_M_isTrickle x y z g = some b := by
  unfold f_CB_isTrickle f_M_isTrickle f_CB_isTrickle_b35 f_M_isTrickle_b35
  simp only [CB_within, M_isIn, Option.bind_some]
  exact pick (fun _ => ⟨_, rfl, rfl⟩) (fun _ => pick (fun _ => ⟨_, rfl, rfl⟩) (fun _ => pick (fun _ => ⟨_, rfl, rfl⟩) (fun _ => ⟨_, rfl, rfl⟩)))
theorem trickle_loop (l2 l3 : Int32) (m : Nat) (hm60 : m ≤ 60) (h g : sh_H) : ∀ (k i n : Nat) (l5 l6 : Int32), i + k = m → k < n → ∃ r, f_CB_trickle_l31 NF n l2 l3 (nI m) l5 l6 (nI i) h = some r ∧ f_M_trickle_l31 NF n l2 l3 (nI m) l5 l6 (nI i) g = some r := by
  intro k
  induction k with
  | zero =>
    intro i n l5 l6 e1 e2
    obtain ⟨n, rfl⟩ : ∃ m, n = m + 1 := ⟨n - 1, by omega⟩
    refine ⟨l6, ?_, ?_⟩
    · show f_CB_trickle_c31 NF (f_CB_trickle_l31 NF n) l2 l3 (nI m) l5 l6 (nI i) h = _
      unfold f_CB_trickle_c31
      rw [if_neg (nI_nlt (by omega) (by omega))]
    · show f_M_trickle_c31 NF (f_M_trickle_l31 NF n) l2 l3 (nI m) l5 l6 (nI i) g = _
      unfold f_M_trickle_c31
      rw [if_neg (nI_nlt (by omega) (by omega))]
  | succ k ih =>
    intro i n l5 l6 e1 e2
    obtain ⟨n, rfl⟩ : ∃ m, n = m + 1 := ⟨n - 1, by omega⟩
    obtain ⟨r, r1, r2⟩ := ih (i + 1) n ((l5 - (l5 * l2 + 9) / 10) - (l5 - (l5 * l2 + 9) / 10) * l3 / 10) (l6 + (l5 * l2 + 9) / 10) (by omega) (by omega)
    refine ⟨r, ?_, ?_⟩
    · show f_CB_trickle_c31 NF (f_CB_trickle_l31 NF n) l2 l3 (nI m) l5 l6 (nI i) h = _
      unfold f_CB_trickle_c31
      rw [if_pos (nI_lt (by omega) (by omega)), CB_comesBack, Option.bind_some, CB_stillOut, Option.bind_some, nI_1]
      exact r1
    · show f_M_trickle_c31 NF (f_M_trickle_l31 NF n) l2 l3 (nI m) l5 l6 (nI i) g = _
      unfold f_M_trickle_c31
      rw [if_pos (nI_lt (by omega) (by omega)), if_pos (show ¬ (10 : Int32) = 0 by decide), if_pos (show ¬ (10 : Int32) = 0 by decide), nI_1]
      exact r2
theorem NF_gt {n : Nat} (h : n ≤ 999999) : n < NF := Nat.lt_of_lt_of_le (Nat.lt_succ_of_le h) (Nat.le_of_ble_eq_true rfl)
theorem P_trickle (a1 a2 a3 a4 : Int32) : PairR (f_CB_trickle NF a1 a2 a3 a4) (f_M_trickle NF a1 a2 a3 a4) := by
  intro c hc hm _ h
  unfold f_CB_trickle f_M_trickle
  obtain ⟨b, b1, b2⟩ := isTrickle_eq a1 a2 a3 hc hm
  rw [b1, b2, CB_within, M_isIn]
  simp only [Option.bind_some]
  refine pick (fun _ => ⟨-1, rfl, rfl⟩) (fun _ => pick (fun _ => ⟨-1, rfl, rfl⟩) (fun c4 => ?_))
  obtain ⟨x4, -, h4, rfl⟩ := q_within_in (a := 0) (b := 60) (by omega) (by omega) c4
  exact trickle_loop a2 a3 x4 h4 hc hm x4 0 NF a1 0 (by omega) (NF_gt (by omega))
theorem trickled_loop (l2 l3 l4 : Int32) (h g : sh_H) : ∀ (k i n : Nat) (l5 : Int32), i + k = 241 → k < n → ∃ r, f_CB_trickled_l29 NF n l2 l3 l4 l5 (nI i) h = some r ∧ f_M_trickled_l29 NF n l2 l3 l4 l5 (nI i) g = some r := by
  intro k
  induction k with
  | zero =>
    intro i n l5 e1 e2
    obtain ⟨n, rfl⟩ : ∃ m, n = m + 1 := ⟨n - 1, by omega⟩
    refine ⟨-2, ?_, ?_⟩
    · show f_CB_trickled_c29 NF (f_CB_trickled_l29 NF n) l2 l3 l4 l5 (nI i) h = _
      unfold f_CB_trickled_c29
      rw [if_pos (show (240 : Int32) < nI i from nI_lt (a := 240) (by omega) (by omega))]
    · show f_M_trickled_c29 NF (f_M_trickled_l29 NF n) l2 l3 l4 l5 (nI i) g = _
      unfold f_M_trickled_c29
      rw [if_pos (show (240 : Int32) < nI i from nI_lt (a := 240) (by omega) (by omega))]
  | succ k ih =>
    intro i n l5 e1 e2
    obtain ⟨n, rfl⟩ : ∃ m, n = m + 1 := ⟨n - 1, by omega⟩
    obtain ⟨r, r1, r2⟩ := ih (i + 1) n ((l5 - (l5 * l2 + 9) / 10) - (l5 - (l5 * l2 + 9) / 10) * l3 / 10) (by omega) (by omega)
    have e : ¬ (240 : Int32) < nI i := nI_nlt (b := i) (a := 240) (by omega) (by omega)
    show ∃ r, f_CB_trickled_c29 NF (f_CB_trickled_l29 NF n) l2 l3 l4 l5 (nI i) h = some r ∧ f_M_trickled_c29 NF (f_M_trickled_l29 NF n) l2 l3 l4 l5 (nI i) g = some r
    unfold f_CB_trickled_c29 f_M_trickled_c29
    rw [if_neg e, if_neg e]
    refine pick (fun _ => ⟨r, ?_, ?_⟩) (fun _ => ⟨_, rfl, rfl⟩)
    · rw [CB_comesBack, Option.bind_some, CB_stillOut, Option.bind_some, nI_1]
      exact r1
    · rw [if_pos (show ¬ (10 : Int32) = 0 by decide), if_pos (show ¬ (10 : Int32) = 0 by decide), nI_1]
      exact r2
theorem P_trickled (a1 a2 a3 a4 : Int32) : PairR (f_CB_trickled NF a1 a2 a3 a4) (f_M_trickled NF a1 a2 a3 a4) := by
  intro c hc hm _ h
  unfold f_CB_trickled f_M_trickled
  obtain ⟨b, b1, b2⟩ := isTrickle_eq a1 a2 a3 hc hm
  rw [b1, b2, CB_within, M_isIn]
  simp only [Option.bind_some]
  refine pick (fun _ => ⟨-1, rfl, rfl⟩) (fun _ => pick (fun _ => ⟨-1, rfl, rfl⟩) (fun c4 => ?_))
  exact trickled_loop a2 a3 a4 hc hm 241 0 NF a1 (by omega) (NF_gt (by omega))
theorem burnAt_loop (l2 l3 : Int32) (h g : sh_H) : ∀ (k i n : Nat) (l4 l5 l6 : Int32), i + k = 5 → k < n → ∃ r, f_CB_burnAt_l57 NF n l2 l3 l4 l5 l6 (nI i) h = some r ∧ f_M_burnAt_l55 NF n l2 l3 l5 l4 l6 (nI i) g = some r := by
  intro k
  induction k with
  | zero =>
    intro i n l4 l5 l6 e1 e2
    obtain ⟨n, rfl⟩ : ∃ m, n = m + 1 := ⟨n - 1, by omega⟩
    obtain rfl : i = 5 := by omega
    refine ⟨l5, ?_, ?_⟩
    · show f_CB_burnAt_c57 NF (f_CB_burnAt_l57 NF n) l2 l3 l4 l5 l6 (nI 5) h = _
      unfold f_CB_burnAt_c57
      rw [if_pos (show (4 : Int32) < nI 5 by decide)]
    · show f_M_burnAt_c55 NF (f_M_burnAt_l55 NF n) l2 l3 l5 l4 l6 (nI 5) g = _
      unfold f_M_burnAt_c55
      rw [if_neg (show ¬ nI 5 < (5 : Int32) by decide)]
  | succ k ih =>
    intro i n l4 l5 l6 e1 e2
    obtain ⟨n, rfl⟩ : ∃ m, n = m + 1 := ⟨n - 1, by omega⟩
    have e : ¬ (4 : Int32) < nI i := nI_nlt (b := i) (a := 4) (by omega) (by omega)
    have e' : nI i < (5 : Int32) := nI_lt (b := 5) (by omega) (by omega)
    show ∃ r, f_CB_burnAt_c57 NF (f_CB_burnAt_l57 NF n) l2 l3 l4 l5 l6 (nI i) h = some r ∧ f_M_burnAt_c55 NF (f_M_burnAt_l55 NF n) l2 l3 l5 l4 l6 (nI i) g = some r
    unfold f_CB_burnAt_c57 f_M_burnAt_c55 f_CB_burnAt_b102 f_M_burnAt_b103
    rw [if_neg e, if_pos e', nI_1]
    have ex : l3 * (nI i - 1) * (nI i - 1) * l2 = (nI i - 1) * (nI i - 1) * l2 * l3 := by
      generalize nI i - 1 = x
      rw [Int32.mul_comm ((x * x) * l2) l3, ← Int32.mul_assoc, ← Int32.mul_assoc]
    rw [ex]
    exact pick (fun _ => ih (i + 1) n _ _ _ (by omega) (by omega)) (fun _ => ih (i + 1) n _ _ _ (by omega) (by omega))
theorem P_burnAt (a1 a2 a3 : Int32) : PairR (f_CB_burnAt NF a1 a2 a3) (f_M_burnAt NF a1 a2 a3) := by
  intro c hc hm _ h
  obtain ⟨n, k1, k2, k3, -⟩ := St_n h 0 (by omega)
  have hk : n ≤ 6 := k1
  unfold f_CB_burnAt f_M_burnAt
  rw [Text_isKind, M_isKind, CB_within, M_isIn, CB_within, M_isIn, k2, k3]
  simp only [Option.bind_some]
  refine pick (fun _ => ⟨-1, rfl, rfl⟩) (fun c1 => pick (fun _ => ⟨-1, rfl, rfl⟩) (fun _ => pick (fun _ => ⟨-1, rfl, rfl⟩) (fun _ => ?_)))
  obtain ⟨a, ha, rfl⟩ := q_kind_in (by omega) c1
  have e1 : f_Rows_get (7 * hc.2.2.1 + 0) (nI a) 2 hc = some (mS hm (20 + 3 * a + 2)) := tx_get h (j := 0) (r := a) (q := 2) (by omega) k3 (by omega) ha (by omega) (by decide) (by decide)
  rw [e1, Option.bind_some, show (20 : Int32) + 3 * nI a + 2 = nI (20 + 3 * a + 2) by rw [show (20 : Int32) = nI 20 from rfl, show (3 : Int32) = nI 3 from rfl, show (2 : Int32) = nI 2 from rfl, q_mul, nI_add, nI_add], if_pos (q_in (by omega) (by omega)), q_cl (by omega)]
  exact burnAt_loop a2 a3 hc hm 3 2 NF _ _ _ (by omega) (NF_gt (by omega))
