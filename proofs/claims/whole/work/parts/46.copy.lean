/-! PAIRS: hold, restore -/
theorem Math_min {a b : Nat} (ha : a < 2 ^ 31) (hb : b < 2 ^ 31) (h : sh_H) : f_Math_min (nI a) (nI b) h = some (nI (min a b)) := by
  unfold f_Math_min
  by_cases c : b < a
  · rw [if_pos (nI_lt c ha), Nat.min_eq_right (by omega)]
  · rw [if_neg (nI_nlt (by omega) hb), Nat.min_eq_left (by omega)]
/-- the first n of one array, then the other -/
def cpy (F G : Nat → Int32) (n : Nat) : Nat → Int32 := fun j => if j < n then F j else G j
theorem cpy_s (F G : Nat → Int32) (n : Nat) : up1 (cpy F G n) n (F n) = cpy F G (n + 1) := by
  funext j
  unfold up1 cpy
  by_cases h : j = n
  · rw [if_pos h, if_pos (by omega), h]
  · rw [if_neg h]
    by_cases h2 : j < n
    · rw [if_pos h2, if_pos (by omega)]
    · rw [if_neg h2, if_neg (by omega)]
theorem cpy_0 (F G : Nat → Int32) : cpy F G 0 = G := by
  funext j
  exact if_neg (by omega)
/-- rows of one build, copied -/
theorem rows_copy {h : sh_H} {r r' n : Nat} (hc : RC h) (hr : r < 33) (hr' : r' < 33) (hne : sh_rc r ≠ sh_rc r') (hm : sh_m r' = sh_m r) (hw : sh_w r' = sh_w r) (hn : h.1 6 r' 3 = nI n) (hn2 : n ≤ sh_m r) : f_Rows_copy NF r r' h = some (hR h r n (cpy (fun j => h.1 13 (sh_rc r') j) (fun j => h.1 13 (sh_rc r) j) (sh_m r * sh_w r))) := by
  obtain ⟨e1, e2, e3, e4⟩ := sh_mw r hr
  obtain ⟨e1', -, -, -⟩ := sh_mw r' hr'
  have hmw : sh_m r * sh_w r ≤ 360 := Nat.mul_le_mul e2 e3
  rw [hm, hw] at e1'
  unfold f_Rows_copy
  rw [hn, (hc r hr).1, Math_min (by omega) (by omega), Option.bind_some, Nat.min_eq_left hn2]
  have lp : ∀ (k i u : Nat), i + k = sh_m r * sh_w r → k < u → f_Rows_copy_l17 NF u r r' (nI i) (hR h r n (cpy (fun j => h.1 13 (sh_rc r') j) (fun j => h.1 13 (sh_rc r) j) i)) = some (hR h r n (cpy (fun j => h.1 13 (sh_rc r') j) (fun j => h.1 13 (sh_rc r) j) (sh_m r * sh_w r))) := by
    intro k
    induction k with
    | zero =>
      intro i u e5 e6
      obtain ⟨u, rfl⟩ : ∃ m, u = m + 1 := ⟨u - 1, by omega⟩
      obtain rfl : i = sh_m r * sh_w r := by omega
      show f_Rows_copy_c17 NF (f_Rows_copy_l17 NF u) r r' (nI (sh_m r * sh_w r)) _ = _
      unfold f_Rows_copy_c17
      rw [e1, q_len, if_neg (nI_nlt (by omega) (by omega))]
    | succ k ih =>
      intro i u e5 e6
      obtain ⟨u, rfl⟩ : ∃ m, u = m + 1 := ⟨u - 1, by omega⟩
      show f_Rows_copy_c17 NF (f_Rows_copy_l17 NF u) r r' (nI i) _ = _
      unfold f_Rows_copy_c17
      have ecl : (nI i).toNatClampNeg = i := q_cl (by omega)
      have ein : ai_in (nI i) (sh_m r * sh_w r) := q_in (by omega) (by omega)
      have el : nI i < nI (sh_m r * sh_w r) := nI_lt (by omega) (by omega)
      have eh : ∀ F, (hR h r n F).1 13 (sh_rc r') i = h.1 13 (sh_rc r') i := fun F => hR_ne (fun q => hne q.2.symm) (by omega)
      simp only [e1, e1', q_len, if_pos el, if_pos ein, ecl, sh_let, eh, hR_pI, nI_1]
      rw [cpy_s (fun j => h.1 13 (sh_rc r') j) (fun j => h.1 13 (sh_rc r) j) i]
      exact ih (i + 1) u (by omega) (by omega)
  have e : sh_pI h 6 r 3 (nI n) = hR h r n (cpy (fun j => h.1 13 (sh_rc r') j) (fun j => h.1 13 (sh_rc r) j) 0) := by
    rw [cpy_0]
    refine Prod.ext ?_ rfl
    funext c i j
    rw [pI_1, hR_1]
    by_cases q : c = 13 ∧ i = sh_rc r
    · rw [if_neg (by omega), if_pos q, q.1, q.2]
    · rw [if_neg q]
  rw [sh_let, e]
  exact lp (sh_m r * sh_w r) 0 NF (by omega) (NF_gt (by omega))
theorem rc_st : ∀ s, s < 3 → ∀ d, d < 4 → sh_rc (14 + 4 * s + d) = 20 + 4 * s + d ∧ sh_m (14 + 4 * s + d) = sh_m (14 + d) ∧ sh_w (14 + 4 * s + d) = sh_w (14 + d) ∧ sh_m (14 + d) * sh_w (14 + d) ≤ 300 := by decide +kernel
/-- one copy, by its cells -/
theorem copy1 {h : sh_H} {s s' d n : Nat} (hC : RC h) (hs : s < 3) (hs' : s' < 3) (hd : d < 4) (hne : s ≠ s') (hn : h.1 6 (14 + 4 * s' + d) 3 = nI n) (hn2 : n ≤ sh_m (14 + d)) : ∃ H, f_Rows_copy NF (14 + 4 * s + d) (14 + 4 * s' + d) h = some H ∧ H.1 6 (14 + 4 * s + d) 3 = h.1 6 (14 + 4 * s' + d) 3 ∧ (∀ j, j < sh_m (14 + d) * sh_w (14 + d) → H.1 13 (20 + 4 * s + d) j = h.1 13 (20 + 4 * s' + d) j) ∧ (∀ c i j, ¬ (c = 6 ∧ i = 14 + 4 * s + d ∧ j = 3) → ¬ (c = 13 ∧ i = 20 + 4 * s + d) → H.1 c i j = h.1 c i j) ∧ H.2 = h.2 := by
  obtain ⟨a1, a2, a3, a4⟩ := rc_st s hs d hd
  obtain ⟨b1, b2, b3, b4⟩ := rc_st s' hs' d hd
  refine ⟨_, rows_copy hC (by omega) (by omega) (by rw [a1, b1]; omega) (by rw [a2, b2]) (by rw [a3, b3]) hn (by rw [a2]; exact hn2), ?_, fun j hj => ?_, fun c i j q1 q2 => ?_, rfl⟩
  · rw [hR_sz]; exact hn.symm
  · have := hR_at h (14 + 4 * s + d) n (cpy (fun j => h.1 13 (sh_rc (14 + 4 * s' + d)) j) (fun j => h.1 13 (sh_rc (14 + 4 * s + d)) j) (sh_m (14 + 4 * s + d) * sh_w (14 + 4 * s + d))) j
    rw [a1] at this ⊢
    rw [this]
    unfold cpy
    rw [a2, a3, if_pos hj, b1]
  · exact hR_ne (by rw [a1]; exact q2) q1
/-- what copying a state does to the class's heap -/
def cpS (H h : sh_H) (s s' : Nat) : Prop := (∀ d, d < 4 → H.1 6 (14 + 4 * s + d) 3 = h.1 6 (14 + 4 * s' + d) 3) ∧ (∀ d, d < 4 → ∀ j, j < sh_m (14 + d) * sh_w (14 + d) → H.1 13 (20 + 4 * s + d) j = h.1 13 (20 + 4 * s' + d) j) ∧ H.1 7 s 4 = h.1 7 s' 4 ∧ (∀ j, 5 ≤ j → j < 8 → H.2.1 7 s j = h.2.1 7 s' j) ∧ (∀ c i j, ¬ (c = 6 ∧ 14 + 4 * s ≤ i ∧ i < 18 + 4 * s ∧ j = 3) → ¬ (c = 13 ∧ 20 + 4 * s ≤ i ∧ i < 24 + 4 * s) → ¬ (c = 7 ∧ i = s ∧ j = 4) → H.1 c i j = h.1 c i j) ∧ (∀ c i j, ¬ (c = 7 ∧ i = s) → H.2.1 c i j = h.2.1 c i j) ∧ H.2.2 = h.2.2
theorem RC_of {h H : sh_H} (hC : RC h) (e : ∀ r j, r < 33 → j < 2 → H.1 6 r j = h.1 6 r j) : RC H := fun r hr => by
  rw [e r 0 hr (by omega), e r 1 hr (by omega)]
  exact hC r hr
theorem pJ_ne {h : sh_H} {c i j : Nat} {v : Int64} {c' i' j' : Nat} (q : ¬ (c' = c ∧ i' = i ∧ j' = j)) : (sh_pJ h c i j v).2.1 c' i' j' = h.2.1 c' i' j' := if_neg q
theorem pJ_at (h : sh_H) (c i j : Nat) (v : Int64) : (sh_pJ h c i j v).2.1 c i j = v := if_pos ⟨rfl, rfl, rfl⟩
theorem State_copy {h : sh_H} {s s' : Nat} (hC : RC h) (hs : s < 3) (hs' : s' < 3) (hne : s ≠ s') (hz : ∀ d, d < 4 → ∃ n, n ≤ sh_m (14 + d) ∧ h.1 6 (14 + 4 * s' + d) 3 = nI n) : ∃ H, f_State_copy NF s s' h = some H ∧ cpS H h s s' := by
  obtain ⟨n0, y0, z0⟩ := hz 0 (by omega)
  obtain ⟨n1, y1, z1⟩ := hz 1 (by omega)
  obtain ⟨n2, y2, z2⟩ := hz 2 (by omega)
  obtain ⟨n3, y3, z3⟩ := hz 3 (by omega)
  obtain ⟨H0, a0, b0, c0, d0, e0⟩ := copy1 hC hs hs' (d := 0) (by omega) hne z0 y0
  have C0 : RC H0 := RC_of hC (fun r j hr hj => d0 6 r j (by omega) (by omega))
  obtain ⟨H1, a1, b1, c1, d1, e1⟩ := copy1 C0 hs hs' (d := 1) (by omega) hne (by rw [d0 _ _ _ (by omega) (by omega)]; exact z1) y1
  have C1 : RC H1 := RC_of C0 (fun r j hr hj => d1 6 r j (by omega) (by omega))
  obtain ⟨H2, a2, b2, c2, d2, e2⟩ := copy1 C1 hs hs' (d := 2) (by omega) hne (by rw [d1 _ _ _ (by omega) (by omega), d0 _ _ _ (by omega) (by omega)]; exact z2) y2
  have C2 : RC H2 := RC_of C1 (fun r j hr hj => d2 6 r j (by omega) (by omega))
  obtain ⟨H3, a3, b3, c3, d3, e3⟩ := copy1 C2 hs hs' (d := 3) (by omega) hne (by rw [d2 _ _ _ (by omega) (by omega), d1 _ _ _ (by omega) (by omega), d0 _ _ _ (by omega) (by omega)]; exact z3) y3
  obtain ⟨p1, -, -, -⟩ := pr_rc s hs
  obtain ⟨p2, -, -, -⟩ := pr_rc s' hs'
  have E : H3.2 = h.2 := e3.trans (e2.trans (e1.trans e0))
  refine ⟨sh_pJ (sh_pJ (sh_pJ (sh_pI H3 7 s 4 (H3.1 7 s' 4)) 7 s 5 (H3.2.1 7 s' 5)) 7 s 6 (H3.2.1 7 s' 6)) 7 s 7 (H3.2.1 7 s' 7), ?_, ?_⟩
  · unfold f_State_copy f_Pieces_copy
    rw [p1, p2]
    rw [show 14 + 4 * s + 0 = 14 + 4 * s from rfl, show 14 + 4 * s' + 0 = 14 + 4 * s' from rfl] at a0
    rw [show 14 + 4 * s + 1 = 4 * s + 15 by omega, show 14 + 4 * s' + 1 = 4 * s' + 15 by omega] at a1
    rw [show 14 + 4 * s + 2 = 4 * s + 16 by omega, show 14 + 4 * s' + 2 = 4 * s' + 16 by omega] at a2
    rw [show 14 + 4 * s + 3 = 4 * s + 17 by omega, show 14 + 4 * s' + 3 = 4 * s' + 17 by omega] at a3
    rw [a0, Option.bind_some, Option.bind_some, a1, Option.bind_some, a2, Option.bind_some, a3, Option.bind_some]
    simp only [sh_let, pJ_1, pI_2]
    rw [pJ_ne (by omega), pJ_ne (by omega), pJ_ne (by omega)]
    rfl
  · have keep : ∀ c i j, ¬ (c = 6 ∧ 14 + 4 * s ≤ i ∧ i < 18 + 4 * s ∧ j = 3) → ¬ (c = 13 ∧ 20 + 4 * s ≤ i ∧ i < 24 + 4 * s) → H3.1 c i j = h.1 c i j := fun c i j q1 q2 => by
      rw [d3 _ _ _ (by omega) (by omega), d2 _ _ _ (by omega) (by omega), d1 _ _ _ (by omega) (by omega), d0 _ _ _ (by omega) (by omega)]
    have sz : ∀ d, d < 4 → H3.1 6 (14 + 4 * s + d) 3 = h.1 6 (14 + 4 * s' + d) 3 := fun d hd => by
      rcases (show d = 0 ∨ d = 1 ∨ d = 2 ∨ d = 3 by omega) with rfl | rfl | rfl | rfl
      · rw [d3 _ _ _ (by omega) (by omega), d2 _ _ _ (by omega) (by omega), d1 _ _ _ (by omega) (by omega), b0]
      · rw [d3 _ _ _ (by omega) (by omega), d2 _ _ _ (by omega) (by omega), b1, d0 _ _ _ (by omega) (by omega)]
      · rw [d3 _ _ _ (by omega) (by omega), b2, d1 _ _ _ (by omega) (by omega), d0 _ _ _ (by omega) (by omega)]
      · rw [b3, d2 _ _ _ (by omega) (by omega), d1 _ _ _ (by omega) (by omega), d0 _ _ _ (by omega) (by omega)]
    have cl : ∀ d, d < 4 → ∀ j, j < sh_m (14 + d) * sh_w (14 + d) → H3.1 13 (20 + 4 * s + d) j = h.1 13 (20 + 4 * s' + d) j := fun d hd j hj => by
      rcases (show d = 0 ∨ d = 1 ∨ d = 2 ∨ d = 3 by omega) with rfl | rfl | rfl | rfl
      · rw [d3 _ _ _ (by omega) (by omega), d2 _ _ _ (by omega) (by omega), d1 _ _ _ (by omega) (by omega), c0 j hj]
      · rw [d3 _ _ _ (by omega) (by omega), d2 _ _ _ (by omega) (by omega), c1 j hj, d0 _ _ _ (by omega) (by omega)]
      · rw [d3 _ _ _ (by omega) (by omega), c2 j hj, d1 _ _ _ (by omega) (by omega), d0 _ _ _ (by omega) (by omega)]
      · rw [c3 j hj, d2 _ _ _ (by omega) (by omega), d1 _ _ _ (by omega) (by omega), d0 _ _ _ (by omega) (by omega)]
    refine ⟨fun d hd => ?_, fun d hd j hj => ?_, ?_, fun j h5 h8 => ?_, fun c i j q1 q2 q3 => ?_, fun c i j q => ?_, ?_⟩
    · simp only [pJ_1]
      rw [pI_ne (by omega)]
      exact sz d hd
    · simp only [pJ_1]
      rw [pI_ne (by omega)]
      exact cl d hd j hj
    · simp only [pJ_1]
      rw [pI_at]
      exact keep _ _ _ (by omega) (by omega)
    · rw [← E]
      rcases (show j = 5 ∨ j = 6 ∨ j = 7 by omega) with rfl | rfl | rfl
      · rw [pJ_ne (by omega), pJ_ne (by omega), pJ_at]
      · rw [pJ_ne (by omega), pJ_at]
      · rw [pJ_at]
    · simp only [pJ_1]
      rw [pI_ne (by omega)]
      exact keep c i j q1 q2
    · rw [pJ_ne (by omega), pJ_ne (by omega), pJ_ne (by omega)]
      show H3.2.1 c i j = _
      rw [E]
    · show H3.2.2 = _
      rw [E]
