/-! PAIRS: hold, restore -/
theorem Math_min {a b : Nat} (ha : a < 2 ^ 31) (hb : b < 2 ^ 31) (h : sh_H) : f_Math_min (nI a) (nI b) h = some (nI (min a b)) := by
  unfold f_Math_min
  by_cases c : b < a
  · rw [if_pos (nI_lt c ha), Nat.min_eq_right (by omega)]
  · rw [if_neg (nI_nlt (by omega) hb), Nat.min_eq_left (by omega)]
/-- the first n of one array, then the other -/
def cpy (F G : Nat → Int32) (n : Nat) : Nat → Int32 := fun j => if j < n then F j else G j
theorem cpy_s (F G : Nat → Int32) (n : Nat) : up1 (cpy F G n) n (F n) = cpy F G (n + 1) := by
  funext j
  unfold up1 cpy
  by_cases h : j = n
  · rw [if_pos h, if_pos (by omega), h]
  · rw [if_neg h]
    by_cases h2 : j < n
    · rw [if_pos h2, if_pos (by omega)]
    · rw [if_neg h2, if_neg (by omega)]
theorem cpy_0 (F G : Nat → Int32) : cpy F G 0 = G := by
  funext j
  exact if_neg (by omega)
/-- rows of one build, copied -/
theorem rows_copy {h : sh_H} {r r' n : Nat} (hc : RC h) (hr : r < 33) (hr' : r' < 33) (hne : sh_rc r ≠ sh_rc r') (hm : sh_m r' = sh_m r) (hw : sh_w r' = sh_w r) (hn : h.1 6 r' 3 = nI n) (hn2 : n ≤ sh_m r) : f_Rows_copy NF r r' h = some (hR h r n (cpy (fun j => h.1 13 (sh_rc r') j) (fun j => h.1 13 (sh_rc r) j) (sh_m r * sh_w r))) := by
  obtain ⟨e1, e2, e3, e4⟩ := sh_mw r hr
  obtain ⟨e1', -, -, -⟩ := sh_mw r' hr'
  have hmw : sh_m r * sh_w r ≤ 360 := Nat.mul_le_mul e2 e3
  rw [hm, hw] at e1'
  unfold f_Rows_copy
  rw [hn, (hc r hr).1, Math_min (by omega) (by omega), Option.bind_some, Nat.min_eq_left hn2]
  have lp : ∀ (k i u : Nat), i + k = sh_m r * sh_w r → k < u → f_Rows_copy_l17 NF u r r' (nI i) (hR h r n (cpy (fun j => h.1 13 (sh_rc r') j) (fun j => h.1 13 (sh_rc r) j) i)) = some (hR h r n (cpy (fun j => h.1 13 (sh_rc r') j) (fun j => h.1 13 (sh_rc r) j) (sh_m r * sh_w r))) := by
    intro k
    induction k with
    | zero =>
      intro i u e5 e6
      obtain ⟨u, rfl⟩ : ∃ m, u = m + 1 := ⟨u - 1, by omega⟩
      obtain rfl : i = sh_m r * sh_w r := by omega
      show f_Rows_copy_c17 NF (f_Rows_copy_l17 NF u) r r' (nI (sh_m r * sh_w r)) _ = _
      unfold f_Rows_copy_c17
      rw [e1, q_len, if_neg (nI_nlt (by omega) (by omega))]
    | succ k ih =>
      intro i u e5 e6
      obtain ⟨u, rfl⟩ : ∃ m, u = m + 1 := ⟨u - 1, by omega⟩
      show f_Rows_copy_c17 NF (f_Rows_copy_l17 NF u) r r' (nI i) _ = _
      unfold f_Rows_copy_c17
      have ecl : (nI i).toNatClampNeg = i := q_cl (by omega)
      have ein : ai_in (nI i) (sh_m r * sh_w r) := q_in (by omega) (by omega)
      have el : nI i < nI (sh_m r * sh_w r) := nI_lt (by omega) (by omega)
      have eh : ∀ F, (hR h r n F).1 13 (sh_rc r') i = h.1 13 (sh_rc r') i := fun F => hR_ne (fun q => hne q.2.symm) (by omega)
      simp only [e1, e1', q_len, if_pos el, if_pos ein, ecl, sh_let, eh, hR_pI, nI_1]
      rw [cpy_s (fun j => h.1 13 (sh_rc r') j) (fun j => h.1 13 (sh_rc r) j) i]
      exact ih (i + 1) u (by omega) (by omega)
  have e : sh_pI h 6 r 3 (nI n) = hR h r n (cpy (fun j => h.1 13 (sh_rc r') j) (fun j => h.1 13 (sh_rc r) j) 0) := by
    rw [cpy_0]
    refine Prod.ext ?_ rfl
    funext c i j
    rw [pI_1, hR_1]
    by_cases q : c = 13 ∧ i = sh_rc r
    · rw [if_neg (by omega), if_pos q, q.1, q.2]
    · rw [if_neg q]
  rw [sh_let, e]
  exact lp (sh_m r * sh_w r) 0 NF (by omega) (NF_gt (by omega))
/-- what copying a state does to the class's heap -/
def cpS (H h : sh_H) (s s' : Nat) : Prop := (∀ d, d < 4 → H.1 6 (14 + 4 * s + d) 3 = h.1 6 (14 + 4 * s' + d) 3) ∧ (∀ d, d < 4 → ∀ j, j < 300 → H.1 13 (20 + 4 * s + d) j = h.1 13 (20 + 4 * s' + d) j) ∧ H.1 7 s 4 = h.1 7 s' 4 ∧ (∀ j, 5 ≤ j → j < 8 → H.2.1 7 s j = h.2.1 7 s' j) ∧ (∀ c i j, ¬ (c = 6 ∧ 14 + 4 * s ≤ i ∧ i < 18 + 4 * s ∧ j = 3) → ¬ (c = 13 ∧ 20 + 4 * s ≤ i ∧ i < 24 + 4 * s) → ¬ (c = 7 ∧ i = s ∧ j = 4) → H.1 c i j = h.1 c i j) ∧ (∀ c i j, ¬ (c = 7 ∧ i = s) → H.2.1 c i j = h.2.1 c i j) ∧ H.2.2 = h.2.2
theorem rc_st : ∀ s, s < 3 → ∀ d, d < 4 → sh_rc (14 + 4 * s + d) = 20 + 4 * s + d ∧ sh_m (14 + 4 * s + d) = sh_m (14 + d) ∧ sh_w (14 + 4 * s + d) = sh_w (14 + d) ∧ sh_m (14 + d) * sh_w (14 + d) ≤ 300 := by decide +kernel
