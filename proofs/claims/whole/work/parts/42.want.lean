/-! FORMULAS: class and model give the pure value -/
theorem sh_b2_some {α β γ : Type} (a : α) (b : β) (f : α → β → Option γ) : sh_b2 (some (a, b)) f = f a b := rfl
theorem tx_code {c : Nat} {hc hm : sh_H} (h : St c hc hm) {n k : Nat} (hn : mS hm 10 = nI n) (hn4 : n ≤ 400) (hk : k < n) : ∃ a v, a < 8 ∧ v ≤ 9999 ∧ (a = 1 → v < 4) ∧ mS hm (1000 + k) = nI a ∧ mS hm (1500 + k) = nI v ∧ hc.1 13 (9 * hc.2.2.1 + 7) k = nI (cst a v) := by
  obtain ⟨-, ⟨m, h1, h2, h3, h4⟩, -⟩ := h.2.2.2.2.1
  rw [Nat.zero_add] at h3
  have : m = n := (nI_eq (by omega) (by omega)).mp (h3.symm.trans hn)
  subst this
  obtain ⟨a, v, e1, e2, e3, e4, e5, e6⟩ := h4 k hk
  rw [Nat.zero_add] at e4 e5
  exact ⟨a, v, e1, e2, e3, e4, e5, e6⟩
theorem fsg_ne : ∀ o, o < 8 → 2 ≤ o → ¬ nI (fsg o) = 0 ∧ ¬ nI (fsg o) = 1 ∧ ¬ nI (fsg o) = 2 ∧ ¬ nI (fsg o) = 3 ∧ ¬ nI (fsg o) = 4 := by decide +kernel
theorem C_val1 {c : Nat} {hc hm : sh_H} (h : St c hc hm) {b n0 : Nat} (hn : mS hm 10 = nI n0) (hn4 : n0 ≤ 400) (hb : b ≤ n0) (d : Nat → Nat) (db : d b = 1) (m a w z : Int32) : ∀ (n k : Nat), k + n = b → (∀ i, k ≤ i → i < b → fst1 (mS hm) d i) → (∀ i, k ≤ i → i ≤ b → d i ≤ 32) → ∀ (u : Nat) (H : sh_H), n < u → fC H hc → H.1 2 hc.2.2.1 3 = nI (d k) → H.1 2 hc.2.2.1 4 = 1 → oFC (f_Formulas_value_l17 NF (f_Formulas_value_b168 NF) u hc.2.2.1 (nI b) m a w z (nI k) H) 0 hc := by
  have ht := St_tx h
  intro n
  induction n with
  | zero =>
    intro k e1 e2 e7 u H e3 e4 e5 e6
    obtain ⟨u, rfl⟩ : ∃ m, u = m + 1 := ⟨u - 1, by omega⟩
    obtain rfl : k = b := by omega
    show oFC (f_Formulas_value_c17 NF (f_Formulas_value_b168 NF) (f_Formulas_value_l17 NF (f_Formulas_value_b168 NF) u) hc.2.2.1 (nI k) m a w z (nI k) H) 0 hc
    unfold f_Formulas_value_c17
    rw [if_neg (nI_nlt (by omega) (by omega))]
    unfold f_Formulas_value_b168
    rw [C_pop (e := 0) ht (by rw [e5, db]) (by omega), sh_b2_some, pI_ne (by omega), e6, if_neg q_10]
    exact ⟨_, rfl, fC.pI (by unfold fcC; omega) e4⟩
  | succ n ih =>
    intro k e1 e2 e7 u H e3 e4 e5 e6
    obtain ⟨u, rfl⟩ : ∃ m, u = m + 1 := ⟨u - 1, by omega⟩
    obtain ⟨o, v, o1, o2, o3, o4, o5, o6⟩ := tx_code h hn hn4 (k := k) (by omega)
    have o6' : H.1 13 (9 * hc.2.2.1 + 7) k = nI (cst o v) := by rw [e4.1 13 _ k (by unfold fcC; omega)]; exact o6
    have e2' : ∀ i, k + 1 ≤ i → i < b → fst1 (mS hm) d i := fun i h1 h2 => e2 i (by omega) h2
    have e7' : ∀ i, k + 1 ≤ i → i ≤ b → d i ≤ 32 := fun i h1 h2 => e7 i (by omega) h2
    have fk := e2 k (Nat.le_refl k) (by omega)
    have dk := e7 k (Nat.le_refl k) (by omega)
    show oFC (f_Formulas_value_c17 NF (f_Formulas_value_b168 NF) (f_Formulas_value_l17 NF (f_Formulas_value_b168 NF) u) hc.2.2.1 (nI b) m a w z (nI k) H) 0 hc
    unfold f_Formulas_value_c17 f_Formulas_value_b162
    have ein : ai_in (nI k) 400 := q_in (by omega) (by omega)
    have ecl : (nI k).toNatClampNeg = k := q_cl (by omega)
    rw [if_pos (nI_lt (by omega) (by omega)), (l13_s _ ht).2, q_len, if_pos (nI_lt (by omega) (by omega))]
    simp only [if_pos ein, ecl, o6', nI_1]
    have psh : ∀ x, d k < 32 → d (k + 1) = d k + 1 → oFC (Option.bind (f_Formulas_push hc.2.2.1 x H) (fun h1 => f_Formulas_value_l17 NF (f_Formulas_value_b168 NF) u hc.2.2.1 (nI b) m a w z (nI (k + 1)) h1)) 0 hc := by
      intro x h1 h2
      rw [C_push ht x e5 h1, Option.bind_some]
      refine ih (k + 1) (by omega) e2' e7' u _ (by omega) (fC.pI (by unfold fcC; omega) (fC.pI (by unfold fcC; omega) e4)) ?_ ?_
      · rw [pI_at, h2]
      · rw [pI_ne (by omega), pI_ne (by omega)]; exact e6
    by_cases h0 : o = 0
    · subst h0
      rw [if_pos (cst_lo o2).1]
      rcases fk with ⟨o', v', -, -, -, -, -, f6, f7⟩ | ⟨o', f1, f2, f3, f4⟩
      · exact psh _ f6 f7
      · have := (nI_eq (by omega) (by omega)).mp (f3.symm.trans o4)
        omega
    · by_cases h1 : o = 1
      · subst h1
        have hv := o3 rfl
        rw [cst_var v hv]
        rcases fk with ⟨o', v', -, -, -, -, -, f6, f7⟩ | ⟨o', f1, f2, f3, f4⟩
        · have p := fun x => psh x f6 f7
          rcases (show v = 0 ∨ v = 1 ∨ v = 2 ∨ v = 3 by omega) with rfl | rfl | rfl | rfl
          · exact p _
          · exact p _
          · exact p _
          · exact p _
        · have := (nI_eq (by omega) (by omega)).mp (f3.symm.trans o4)
          omega
      · have c2 := cst_op o o1 (by omega)
        rw [← cst_ov (v := v) (by omega)] at c2
        rw [c2]
        obtain ⟨s0, s1, s2, s3, s4⟩ := fsg_ne o o1 (by omega)
        rw [if_neg s0, if_neg s1, if_neg s2, if_neg s3, if_neg s4]
        rcases fk with ⟨o', v', f1, -, -, f3, -⟩ | ⟨o', f1, f2, f3, f4, f5⟩
        · have := (nI_eq (by omega) (by omega)).mp (f3.symm.trans o4)
          omega
        · obtain ⟨e, he⟩ : ∃ e, d k = e + 2 := ⟨d k - 2, by omega⟩
          rw [C_pop (e := e + 1) ht (by rw [e5, he]) (by omega), sh_b2_some, C_pop (e := e) ht (pI_at _ _ _ _ _) (by omega), sh_b2_some]
          have o7 : (sh_pI (sh_pI H 2 hc.2.2.1 3 (nI (e + 1))) 2 hc.2.2.1 3 (nI e)).1 13 (9 * hc.2.2.1 + 7) k = nI (cst o v) := by
            rw [pI_ne (by omega), pI_ne (by omega)]; exact o6'
          rw [o7, c2, C_join (by omega) o1]
          have s5 : fC (sh_pI (sh_pI H 2 hc.2.2.1 3 (nI (e + 1))) 2 hc.2.2.1 3 (nI e)) hc := fC.pI (by unfold fcC; omega) (fC.pI (by unfold fcC; omega) e4)
          have p : ∀ x (G : sh_H), fC G hc → G.1 2 hc.2.2.1 3 = nI e → G.1 2 hc.2.2.1 4 = 1 → oFC (Option.bind (f_Formulas_push hc.2.2.1 x G) (fun h1 => f_Formulas_value_l17 NF (f_Formulas_value_b168 NF) u hc.2.2.1 (nI b) m a w z (nI (k + 1)) h1)) 0 hc := by
            intro x G g1 g2 g3
            rw [C_push ht x g2 (by omega), Option.bind_some]
            refine ih (k + 1) (by omega) e2' e7' u _ (by omega) (fC.pI (by unfold fcC; omega) (fC.pI (by unfold fcC; omega) g1)) ?_ ?_
            · rw [pI_at, show e + 1 = d (k + 1) by omega]
            · rw [pI_ne (by omega), pI_ne (by omega)]; exact g3
          split
          · rw [sh_b2_some]
            refine p _ _ (fC.pI (by unfold fcC; omega) s5) ?_ (pI_at _ _ _ _ _)
            rw [pI_ne (by omega), pI_at]
          · rw [sh_b2_some]
            refine p _ _ s5 (pI_at _ _ _ _ _) ?_
            rw [pI_ne (by omega), pI_ne (by omega)]
            exact e6
theorem C_val0 {c : Nat} {hc hm : sh_H} (h : St c hc hm) {b n0 : Nat} (hn : mS hm 10 = nI n0) (hn4 : n0 ≤ 400) (hb : b ≤ n0) (d : Nat → Nat) (db : d b = 1) (m a w z : Int32) : ∀ (n k : Nat), k + n = b → (∀ i, k ≤ i → i < b → fst1 (mS hm) d i) → (∀ i, k ≤ i → i ≤ b → d i ≤ 32) → ∀ (u : Nat) (H : sh_H) (s : Nat → Int32), n < u → fC H hc → H.1 2 hc.2.2.1 3 = nI (d k) → H.1 2 hc.2.2.1 4 = 0 → (∀ j, j < d k → H.1 13 (9 * hc.2.2.1 + 8) j = s j) → oFC (f_Formulas_value_l17 NF (f_Formulas_value_b168 NF) u hc.2.2.1 (nI b) m a w z (nI k) H) (fgo (mS hm) (fq m a w z) n k s (d k)) hc := by
  have ht := St_tx h
  intro n
  induction n with
  | zero =>
    intro k e1 e2 e7 u H s e3 e4 e5 e6 e8
    obtain ⟨u, rfl⟩ : ∃ m, u = m + 1 := ⟨u - 1, by omega⟩
    obtain rfl : k = b := by omega
    show oFC (f_Formulas_value_c17 NF (f_Formulas_value_b168 NF) (f_Formulas_value_l17 NF (f_Formulas_value_b168 NF) u) hc.2.2.1 (nI k) m a w z (nI k) H) (s 0) hc
    unfold f_Formulas_value_c17
    rw [if_neg (nI_nlt (by omega) (by omega))]
    unfold f_Formulas_value_b168
    rw [C_pop (e := 0) ht (by rw [e5, db]) (by omega), sh_b2_some, pI_ne (by omega), e6, if_pos rfl, e8 0 (by omega)]
    exact ⟨_, rfl, fC.pI (by unfold fcC; omega) e4⟩
  | succ n ih =>
    intro k e1 e2 e7 u H s e3 e4 e5 e6 e8
    obtain ⟨u, rfl⟩ : ∃ m, u = m + 1 := ⟨u - 1, by omega⟩
    obtain ⟨o, v, o1, o2, o3, o4, o5, o6⟩ := tx_code h hn hn4 (k := k) (by omega)
    have o6' : H.1 13 (9 * hc.2.2.1 + 7) k = nI (cst o v) := by rw [e4.1 13 _ k (by unfold fcC; omega)]; exact o6
    have e2' : ∀ i, k + 1 ≤ i → i < b → fst1 (mS hm) d i := fun i h1 h2 => e2 i (by omega) h2
    have e7' : ∀ i, k + 1 ≤ i → i ≤ b → d i ≤ 32 := fun i h1 h2 => e7 i (by omega) h2
    have fk := e2 k (Nat.le_refl k) (by omega)
    have dk := e7 k (Nat.le_refl k) (by omega)
    have no : nv (mS hm) (1000 + k) = o := nv_of o4 (by omega)
    have n5 : nv (mS hm) (1500 + k) = v := nv_of o5 (by omega)
    show oFC (f_Formulas_value_c17 NF (f_Formulas_value_b168 NF) (f_Formulas_value_l17 NF (f_Formulas_value_b168 NF) u) hc.2.2.1 (nI b) m a w z (nI k) H) _ hc
    unfold f_Formulas_value_c17 f_Formulas_value_b162 fgo
    rw [no, n5, o5]
    have ein : ai_in (nI k) 400 := q_in (by omega) (by omega)
    have ecl : (nI k).toNatClampNeg = k := q_cl (by omega)
    rw [if_pos (nI_lt (by omega) (by omega)), (l13_s _ ht).2, q_len, if_pos (nI_lt (by omega) (by omega))]
    simp only [if_pos ein, ecl, o6', nI_1]
    have psh : ∀ x, d k < 32 → d (k + 1) = d k + 1 → oFC (Option.bind (f_Formulas_push hc.2.2.1 x H) (fun h1 => f_Formulas_value_l17 NF (f_Formulas_value_b168 NF) u hc.2.2.1 (nI b) m a w z (nI (k + 1)) h1)) (fgo (mS hm) (fq m a w z) n (k + 1) (up1 s (d k) x) (d k + 1)) hc := by
      intro x h1 h2
      rw [C_push ht x e5 h1, Option.bind_some, ← h2]
      refine ih (k + 1) (by omega) e2' e7' u _ _ (by omega) (fC.pI (by unfold fcC; omega) (fC.pI (by unfold fcC; omega) e4)) ?_ ?_ (fun j hj => ?_)
      · rw [pI_at]
      · rw [pI_ne (by omega), pI_ne (by omega)]; exact e6
      · rw [pI_ne (by omega), pI_1]
        unfold up1
        by_cases q : j = d k
        · rw [if_pos ⟨rfl, rfl, q⟩, if_pos q]
        · rw [if_neg (fun z => q z.2.2), if_neg q]
          exact e8 j (by omega)
    by_cases h0 : o = 0
    · subst h0
      rw [if_pos (cst_lo o2).1, (cst_lo o2).2, if_pos rfl]
      rcases fk with ⟨o', v', -, -, -, -, -, f6, f7⟩ | ⟨o', f1, f2, f3, f4⟩
      · exact psh _ f6 f7
      · have := (nI_eq (by omega) (by omega)).mp (f3.symm.trans o4)
        omega
    · rw [if_neg h0]
      by_cases h1 : o = 1
      · subst h1
        have hv := o3 rfl
        rw [cst_var v hv, if_pos rfl]
        rcases fk with ⟨o', v', -, -, -, -, -, f6, f7⟩ | ⟨o', f1, f2, f3, f4⟩
        · have p := fun x => psh x f6 f7
          rcases (show v = 0 ∨ v = 1 ∨ v = 2 ∨ v = 3 by omega) with rfl | rfl | rfl | rfl
          · exact p m
          · exact p a
          · exact p w
          · exact p z
        · have := (nI_eq (by omega) (by omega)).mp (f3.symm.trans o4)
          omega
      · rw [if_neg h1]
        have c2 := cst_op o o1 (by omega)
        rw [← cst_ov (v := v) (by omega)] at c2
        rw [c2]
        obtain ⟨s0, s1, s2, s3, s4⟩ := fsg_ne o o1 (by omega)
        rw [if_neg s0, if_neg s1, if_neg s2, if_neg s3, if_neg s4]
        rcases fk with ⟨o', v', f1, -, -, f3, -⟩ | ⟨o', f1, f2, f3, f4, f5⟩
        · have := (nI_eq (by omega) (by omega)).mp (f3.symm.trans o4)
          omega
        · obtain ⟨e, he⟩ : ∃ e, d k = e + 2 := ⟨d k - 2, by omega⟩
          rw [C_pop (e := e + 1) ht (by rw [e5, he]) (by omega), sh_b2_some, C_pop (e := e) ht (pI_at _ _ _ _ _) (by omega), sh_b2_some]
          have o7 : (sh_pI (sh_pI H 2 hc.2.2.1 3 (nI (e + 1))) 2 hc.2.2.1 3 (nI e)).1 13 (9 * hc.2.2.1 + 7) k = nI (cst o v) := by
            rw [pI_ne (by omega), pI_ne (by omega)]; exact o6'
          have e8a : H.1 13 (9 * hc.2.2.1 + 8) (e + 1) = s (d k - 1) := by rw [e8 _ (by omega), he]; rfl
          have e8b : (sh_pI H 2 hc.2.2.1 3 (nI (e + 1))).1 13 (9 * hc.2.2.1 + 8) e = s (d k - 2) := by rw [pI_ne (by omega), e8 _ (by omega), he]; rfl
          rw [o7, c2, C_join (by omega) o1, e8a, e8b]
          have s5 : fC (sh_pI (sh_pI H 2 hc.2.2.1 3 (nI (e + 1))) 2 hc.2.2.1 3 (nI e)) hc := fC.pI (by unfold fcC; omega) (fC.pI (by unfold fcC; omega) e4)
          by_cases z5 : o = 5 ∧ s (d k - 1) = 0
          · rw [if_pos z5, if_pos z5, sh_b2_some, C_push (e := e) ht 0 (by rw [pI_ne (by omega), pI_at]) (by omega), Option.bind_some]
            refine C_val1 h hn hn4 hb d db m a w z n (k + 1) (by omega) e2' e7' u _ (by omega) (fC.pI (by unfold fcC; omega) (fC.pI (by unfold fcC; omega) (fC.pI (by unfold fcC; omega) s5))) ?_ ?_
            · rw [pI_at, show e + 1 = d (k + 1) by omega]
            · rw [pI_ne (by omega), pI_ne (by omega), pI_at]
          · rw [if_neg z5, if_neg z5, sh_b2_some, C_push (e := e) ht _ (pI_at _ _ _ _ _) (by omega), Option.bind_some, show d k - 1 = d (k + 1) by omega]
            refine ih (k + 1) (by omega) e2' e7' u _ _ (by omega) (fC.pI (by unfold fcC; omega) (fC.pI (by unfold fcC; omega) s5)) ?_ ?_ (fun j hj => ?_)
            · rw [pI_at, show e + 1 = d (k + 1) by omega]
            · rw [pI_ne (by omega), pI_ne (by omega), pI_ne (by omega), pI_ne (by omega)]; exact e6
            · rw [pI_ne (by omega), pI_1]
              unfold up1
              by_cases q : j = e
              · rw [if_pos ⟨rfl, rfl, q⟩, if_pos (by omega)]
              · rw [if_neg (fun z => q z.2.2), if_neg (by omega), pI_ne (by omega), pI_ne (by omega)]
                exact e8 j (by omega)
theorem FE_d {f : Nat → Int32} {d : Nat → Nat} {a b : Nat} (hd : d a = 0) (h : ∀ k, a ≤ k → k < b → fst1 f d k) : ∀ i, a ≤ i → i ≤ b → d i ≤ 32 := by
  have : ∀ n i, a + n = i → i ≤ b → d i ≤ 32 := by
    intro n
    induction n with
    | zero => intro i h1 h2; obtain rfl : a = i := by omega
              omega
    | succ n ih =>
      intro i h1 h2
      obtain ⟨j, rfl⟩ : ∃ j, i = j + 1 := ⟨i - 1, by omega⟩
      have := ih j (by omega) (by omega)
      rcases h j (by omega) (by omega) with ⟨o, v, -, -, -, -, -, q1, q2⟩ | ⟨o, -, -, -, q1, q2⟩
      · omega
      · omega
  exact fun i h1 h2 => this (i - a) i (by omega) h2
theorem Math_max0 {n : Nat} (hn : n < 2 ^ 31) (h : sh_H) : f_Math_max 0 (nI n) h = some (nI n) := by
  unfold f_Math_max
  by_cases c : 0 < n
  · rw [if_pos (show (0 : Int32) < nI n from nI_lt (a := 0) c hn)]
  · obtain rfl : n = 0 := by omega
    rfl
theorem Math_maxneg {x : Int32} (hx : x < 0) (h : sh_H) : f_Math_max 0 x h = some 0 := by
  unfold f_Math_max
  rw [if_neg (Int32.not_lt.mpr (Int32.le_of_lt hx))]
/-- the formula in cells x, x + 1 -/
theorem C_valueF {c : Nat} {hc hm : sh_H} (h : St c hc hm) {x : Nat} (he : FE (mS hm) x) (m a w z : Int32) : oFC (f_Formulas_value NF hc.2.2.1 (mS hm x) (mS hm (x + 1)) m a w z hc) (fval (mS hm) (fq m a w z) x) hc := by
  obtain ⟨A, b, n0, h1, h2, h3, h4, h5, h6, d, d1, d2, d3⟩ := he
  unfold f_Formulas_value fval
  rw [nv_of h5 (by omega), nv_of h6 (by omega), h5, h6]
  simp only [sh_let]
  rw [Math_max0 (by omega), Option.bind_some]
  have := C_val0 h h4 h3 h2 d d2 m a w z (b - A) A (by omega) d3 (FE_d d1 d3) NF (sh_pI (sh_pI hc 2 hc.2.2.1 3 0) 2 hc.2.2.1 4 0) (fun _ => 0) (NF_gt (by omega)) (fC.pI (by unfold fcC; omega) (fC.pI (by unfold fcC; omega) (fC.rf hc))) (by rw [pI_ne (by omega), pI_at, d1]; rfl) (pI_at _ _ _ _ _) (fun j hj => by omega)
  rw [d1] at this
  exact this
theorem M_sum_loop {hm : sh_H} {x b n0 : Nat} (hx : x < 7000) (h4 : mS hm 10 = nI n0) (h3 : n0 ≤ 400) (h2 : b ≤ n0) (h6 : mS hm (x + 1) = nI b) (q : Nat → Int32) (d : Nat → Nat) (db : d b = 1) : ∀ (n k : Nat), k + n = b → (∀ i, k ≤ i → i < b → fst1 (mS hm) d i) → (∀ i, k ≤ i → i ≤ b → d i ≤ 32) → ∀ (u : Nat) (H : sh_H) (s : Nat → Int32), n < u → fM H hm → (∀ j, j < 4 → H.1 13 50 j = q j) → (∀ j, j < d k → H.1 13 51 j = s j) → oFM (f_M_sum_l9 NF (f_M_sum_b143 NF) u (nI x) (nI (d k)) (nI k) H) (fgo (mS hm) q n k s (d k)) hm := by
  intro n
  induction n with
  | zero =>
    intro k e1 e2 e7 u H s e3 e4 e6 e8
    obtain ⟨u, rfl⟩ : ∃ m, u = m + 1 := ⟨u - 1, by omega⟩
    obtain rfl : k = b := by omega
    show oFM (f_M_sum_c9 NF (f_M_sum_b143 NF) (f_M_sum_l9 NF (f_M_sum_b143 NF) u) (nI x) (nI (d k)) (nI k) H) (s 0) hm
    unfold f_M_sum_c9 f_M_sum_b143
    have b1 : H.1 13 46 (x + 1) = nI k := (e4.mS _).trans h6
    have ein : ai_in (nI (x + 1)) 8000 := q_in (by omega) (by omega)
    have ecl : (nI (x + 1)).toNatClampNeg = x + 1 := q_cl (by omega)
    simp only [nI_1, if_pos ein, ecl, b1]
    rw [if_neg (nI_nlt (by omega) (by omega)), if_pos (show ai_in 0 500 from q_in (k := 0) (n := 500) (by omega) (by omega))]
    exact ⟨H, by rw [← e8 0 (by omega)]; rfl, e4⟩
  | succ n ih =>
    intro k e1 e2 e7 u H s e3 e4 e6 e8
    obtain ⟨u, rfl⟩ : ∃ m, u = m + 1 := ⟨u - 1, by omega⟩
    have e2' : ∀ i, k + 1 ≤ i → i < b → fst1 (mS hm) d i := fun i h1 h2 => e2 i (by omega) h2
    have e7' : ∀ i, k + 1 ≤ i → i ≤ b → d i ≤ 32 := fun i h1 h2 => e7 i (by omega) h2
    have fk := e2 k (Nat.le_refl k) (by omega)
    have dk := e7 k (Nat.le_refl k) (by omega)
    have dk1 := e7 (k + 1) (by omega) (by omega)
    show oFM (f_M_sum_c9 NF (f_M_sum_b143 NF) (f_M_sum_l9 NF (f_M_sum_b143 NF) u) (nI x) (nI (d k)) (nI k) H) _ hm
    unfold f_M_sum_c9 f_M_sum_b77 f_M_sum_b137 fgo
    have b1 : H.1 13 46 (x + 1) = nI b := (e4.mS _).trans h6
    have ein : ai_in (nI (x + 1)) 8000 := q_in (by omega) (by omega)
    have ecl : (nI (x + 1)).toNatClampNeg = x + 1 := q_cl (by omega)
    have ein1 : ai_in (nI (1000 + k)) 8000 := q_in (by omega) (by omega)
    have ecl1 : (nI (1000 + k)).toNatClampNeg = 1000 + k := q_cl (by omega)
    have ein2 : ai_in (nI (1500 + k)) 8000 := q_in (by omega) (by omega)
    have ecl2 : (nI (1500 + k)).toNatClampNeg = 1500 + k := q_cl (by omega)
    have a1 : (1000 : Int32) + nI k = nI (1000 + k) := nI_add 1000 k
    have a2 : (1500 : Int32) + nI k = nI (1500 + k) := nI_add 1500 k
    have b2 : H.1 13 46 (1000 + k) = mS hm (1000 + k) := e4.mS _
    have b3 : H.1 13 46 (1500 + k) = mS hm (1500 + k) := e4.mS _
    simp only [nI_1, if_pos ein, ecl, b1, a1, a2, if_pos ein1, ecl1, if_pos ein2, ecl2, b2, b3]
    rw [if_pos (nI_lt (by omega) (by omega))]
    rcases fk with ⟨o, v, f1, f2, f3, f4, f5, f6, f7⟩ | ⟨o, f1, f2, f3, f4, f5⟩
    · have psh : ∀ y, oFM (if ai_in (nI (d k)) (sh_l13 51) then sh_let (sh_pI H 13 51 (nI (d k)).toNatClampNeg y) (fun h1 => f_M_sum_l9 NF (f_M_sum_b143 NF) u (nI x) (nI (d k + 1)) (nI (k + 1)) h1) else none) (fgo (mS hm) q n (k + 1) (up1 s (d k) y) (d k + 1)) hm := by
        intro y
        rw [if_pos (show ai_in (nI (d k)) (sh_l13 51) from q_in (k := d k) (n := 500) (by omega) (by omega)), q_cl (by omega), ← f7]
        refine ih (k + 1) (by omega) e2' e7' u _ _ (by omega) (fM.pI (by unfold fcM; omega) e4) (fun j hj => ?_) (fun j hj => ?_)
        · rw [pI_ne (by omega)]; exact e6 j hj
        · rw [pI_1]
          unfold up1
          by_cases z : j = d k
          · rw [if_pos ⟨rfl, rfl, z⟩, if_pos z]
          · rw [if_neg (fun z' => z z'.2.2), if_neg z]
            exact e8 j (by omega)
      have no : nv (mS hm) (1000 + k) = o := nv_of f4 (by omega)
      have n5 : nv (mS hm) (1500 + k) = v := nv_of f5 (by omega)
      rw [f4, f5, no, n5, if_pos (show nI o < (2 : Int32) from nI_lt (b := 2) f1 (by omega))]
      by_cases h0 : o = 0
      · subst h0
        rw [if_pos (show nI 0 = 0 from rfl), if_pos rfl]
        exact psh (nI v)
      · obtain rfl : o = 1 := by omega
        have hv := f3 rfl
        rw [if_neg (show ¬ nI 1 = 0 by decide), if_neg (show ¬ (1 : Nat) = 0 by omega), if_pos rfl, if_pos (q_in hv (by omega)), show H.1 13 50 (nI v).toNatClampNeg = q v from by rw [q_cl (by omega)]; exact e6 v hv]
        exact psh _
    · have no : nv (mS hm) (1000 + k) = o := nv_of f3 (by omega)
      obtain ⟨e, he⟩ : ∃ e, d k = e + 2 := ⟨d k - 2, by omega⟩
      have m2 : nI (d k) - 2 = nI e := by rw [show (2 : Int32) = nI 2 from rfl, q_sub (by omega), he]; rfl
      have m1 : nI (d k) - 1 = nI (e + 1) := by rw [he]; exact nI_pred (e + 1)
      have m3 : nI (d k) + (-1) = nI (e + 1) := by rw [he]; exact pk_m1 (e + 1)
      have m4 : nI (e + 1) - 1 = nI e := nI_pred e
      have i1 : ai_in (nI (e + 1)) 500 := q_in (by omega) (by omega)
      have i2 : ai_in (nI e) 500 := q_in (by omega) (by omega)
      have c1 : (nI (e + 1)).toNatClampNeg = e + 1 := q_cl (by omega)
      have c2 : (nI e).toNatClampNeg = e := q_cl (by omega)
      have v1 : H.1 13 51 (e + 1) = s (d k - 1) := by rw [e8 _ (by omega), he]; rfl
      have v2 : H.1 13 51 e = s (d k - 2) := by rw [e8 _ (by omega), he]; rfl
      have jn : ¬ (o = 5 ∧ s (d k - 1) = 0) → oFM (f_M_sum_b120 NF (f_M_sum_l9 NF (f_M_sum_b143 NF) u) (nI x) (nI (e + 1)) (nI k) (nI o) (s (d k - 1)) (s (d k - 2)) H) (fgo (mS hm) q n (k + 1) (up1 s (d k - 2) (fop o (s (d k - 2)) (s (d k - 1)))) (d k - 1)) hm := by
        intro z5
        unfold f_M_sum_b120 f_M_sum_b137
        rw [M_join f1 f2 _ _ z5, Option.bind_some]
        simp only [m4, if_pos i2, c2, nI_1, sh_let]
        rw [show d k - 1 = d (k + 1) by omega, show nI (e + 1) = nI (d (k + 1)) by rw [show e + 1 = d (k + 1) by omega]]
        refine ih (k + 1) (by omega) e2' e7' u _ _ (by omega) (fM.pI (by unfold fcM; omega) e4) (fun j hj => ?_) (fun j hj => ?_)
        · rw [pI_ne (by omega)]; exact e6 j hj
        · rw [pI_1]
          unfold up1
          by_cases z : j = e
          · rw [if_pos ⟨rfl, rfl, z⟩, if_pos (by omega)]
          · rw [if_neg (fun z' => z z'.2.2), if_neg (by omega)]
            exact e8 j (by omega)
      rw [f3, no, if_neg (show ¬ nI o < (2 : Int32) from nI_nlt (b := 2) (a := o) f1 (by omega)), if_neg (show ¬ o = 0 by omega), if_neg (show ¬ o = 1 by omega)]
      simp only [m1, m2, m3, if_pos i1, if_pos i2, c1, c2, v1, v2]
      by_cases h5 : o = 5
      · subst h5
        rw [if_pos (show nI 5 = (5 : Int32) from rfl)]
        by_cases z5 : s (d k - 1) = 0
        · rw [if_pos z5, if_pos ⟨rfl, z5⟩]
          exact ⟨H, rfl, e4⟩
        · rw [if_neg z5, if_neg (fun z => z5 z.2)]
          exact jn (fun z => z5 z.2)
      · rw [if_neg (show ¬ nI o = (5 : Int32) from fun z => h5 ((nI_eq (by omega) (by omega)).mp z)), if_neg (fun z => h5 z.1)]
        exact jn (fun z => h5 z.1)
theorem M_sumF {hm H : sh_H} {x : Nat} (hx : x < 7000) (he : FE (mS hm) x) (hs : fM H hm) (m a w z : Int32) (hq : ∀ j, j < 4 → H.1 13 50 j = fq m a w z j) : oFM (f_M_sum NF (nI x) H) (fval (mS hm) (fq m a w z) x) hm := by
  obtain ⟨A, b, n0, h1, h2, h3, h4, h5, h6, d, d1, d2, d3⟩ := he
  unfold f_M_sum fval
  rw [nv_of h5 (by omega), nv_of h6 (by omega), if_pos (q_in (by omega) (by omega)), q_cl (by omega)]
  have b1 : H.1 13 46 x = nI A := (hs.mS _).trans h5
  rw [b1]
  have := M_sum_loop hx h4 h3 h2 h6 (fq m a w z) d d2 (b - A) A (by omega) d3 (FE_d d1 d3) NF H (fun _ => 0) (NF_gt (by omega)) hs hq (fun j hj => by omega)
  rw [d1] at this
  exact this
theorem M_askF (m a w z : Int32) (H : sh_H) : ∃ H', f_M_ask m a w z H = some H' ∧ fM H' H ∧ (∀ j, j < 4 → H'.1 13 50 j = fq m a w z j) := by
  refine ⟨sh_pI (sh_pI (sh_pI (sh_pI H 13 50 0 m) 13 50 1 a) 13 50 2 w) 13 50 3 z, rfl, ?_, fun j hj => ?_⟩
  · exact fM.pI (by unfold fcM; omega) (fM.pI (by unfold fcM; omega) (fM.pI (by unfold fcM; omega) (fM.pI (by unfold fcM; omega) (fM.rf H))))
  · rcases (show j = 0 ∨ j = 1 ∨ j = 2 ∨ j = 3 by omega) with rfl | rfl | rfl | rfl
    · rfl
    · rfl
    · rfl
    · rfl
/-- ask, then sum -/
theorem M_asumF {hm H : sh_H} {α : Type} {x : Nat} {r : α} {f : Int32 → sh_H → Option (α × sh_H)} (hx : x < 7000) (he : FE (mS hm) x) (hs : fM H hm) (m a w z : Int32) (k : ∀ H', fM H' hm → oFM (f (fval (mS hm) (fq m a w z) x) H') r hm) : oFM (Option.bind (f_M_ask m a w z H) (fun h1 => sh_b2 (f_M_sum NF (nI x) h1) f)) r hm := by
  obtain ⟨H1, a1, a2, a3⟩ := M_askF m a w z H
  rw [a1, Option.bind_some]
  obtain ⟨H2, b1, b2⟩ := M_sumF hx he (a2.tr hs) m a w z a3
  rw [b1, sh_b2_some]
  exact k H2 b2
/-! clamped -/
def clN (x : Int32) (m : Nat) : Nat := if x < 0 then 0 else if m < x.toNatClampNeg then m else x.toNatClampNeg
theorem clN_le (x : Int32) (m : Nat) : clN x m ≤ m := by
  unfold clN
  split
  · omega
  · split <;> omega
theorem CB_limit {x : Int32} {m : Nat} (hm : m < 2 ^ 31) (h : sh_H) : f_CB_limit x (nI m) h = some (nI (clN x m)) := by
  unfold f_CB_limit f_Math_min clN
  by_cases c : x < 0
  · rw [if_neg (Int32.not_lt.mpr (Int32.le_of_lt (q_lt0 c m hm))), Option.bind_some, Math_maxneg c, if_pos c, Option.bind_some]
    rfl
  · obtain ⟨k, hk, rfl⟩ := nI_of c
    rw [if_neg c, q_cl hk]
    by_cases l : m < k
    · rw [if_pos (nI_lt l hk), if_pos l, Option.bind_some, Math_max0 hm, Option.bind_some]
    · rw [if_neg (nI_nlt (by omega) hm), if_neg l, Option.bind_some, Math_max0 hk, Option.bind_some]
theorem M_within {x : Int32} {m : Nat} (hm : m < 2 ^ 31) (h : sh_H) : f_M_within x 0 (nI m) h = some (nI (clN x m)) := by
  unfold f_M_within clN
  by_cases c : x < 0
  · rw [if_pos c, if_pos c]
    rfl
  · obtain ⟨k, hk, rfl⟩ := nI_of c
    rw [if_neg c, if_neg c, q_cl hk]
    by_cases l : m < k
    · rw [if_pos (nI_lt l hk), if_pos l]
    · rw [if_neg (nI_nlt (by omega) hm), if_neg l]
/-! the last row of a place and a kind -/
def lro (f : Nat → Int32) (b : Nat) (p k : Int32) : Nat → Option Nat
  | 0 => none
  | n + 1 => if f (b + 4 * n) = p ∧ f (b + 4 * n + 1) = k then some n else lro f b p k n
theorem lro_some {f : Nat → Int32} {b : Nat} {p k : Int32} : ∀ {n r : Nat}, lro f b p k n = some r → r < n ∧ f (b + 4 * r) = p ∧ f (b + 4 * r + 1) = k := by
  intro n
  induction n with
  | zero => intro r h; cases h
  | succ n ih =>
    intro r h
    unfold lro at h
    by_cases c : f (b + 4 * n) = p ∧ f (b + 4 * n + 1) = k
    · rw [if_pos c] at h
      cases h
      exact ⟨by omega, c.1, c.2⟩
    · rw [if_neg c] at h
      obtain ⟨h1, h2⟩ := ih h
      exact ⟨by omega, h2⟩
theorem C_lastOf {c : Nat} {hc hm : sh_H} (h : St c hc hm) {j : Nat} (hj : j = 2 ∨ j = 3) {n0 : Nat} (hn : mS hm j = nI n0) (hn2 : n0 ≤ 12) (p k : Int32) : f_Text_lastOf NF (7 * hc.2.2.1 + j) p k hc = some (oI2 (lro (mS hm) (tb_b j) p k n0) (-1)) := by
  have z : hc.1 6 (7 * hc.2.2.1 + j) 3 = nI n0 := (St_z h j (by omega)).trans hn
  have st : tb_s j = 4 ∧ tb_c j 0 = 0 ∧ tb_c j 1 = 1 ∧ 2 ≤ sh_w j := by rcases hj with rfl | rfl <;> decide
  have lp : ∀ (n u : Nat), n ≤ n0 → n < u → f_Text_lastOf_l7 NF u (7 * hc.2.2.1 + j) p k (nI n - 1) hc = some (oI2 (lro (mS hm) (tb_b j) p k n) (-1)) := by
    intro n
    induction n with
    | zero =>
      intro u e1 e2
      obtain ⟨u, rfl⟩ : ∃ m, u = m + 1 := ⟨u - 1, by omega⟩
      rfl
    | succ n ih =>
      intro u e1 e2
      obtain ⟨u, rfl⟩ : ∃ m, u = m + 1 := ⟨u - 1, by omega⟩
      have g0 : f_Rows_get (7 * hc.2.2.1 + j) (nI n) 0 hc = some (mS hm (tb_b j + 4 * n)) := (tx_get h (j := j) (r := n) (q := 0) (by omega) hn (by omega) (by omega) (by omega) (by omega) (by omega)).trans (by rw [st.1, st.2.1]; rfl)
      have g1 : f_Rows_get (7 * hc.2.2.1 + j) (nI n) 1 hc = some (mS hm (tb_b j + 4 * n + 1)) := (tx_get h (j := j) (r := n) (q := 1) (by omega) hn (by omega) (by omega) (by omega) (by omega) (by omega)).trans (by rw [st.1, st.2.2.1])
      show f_Text_lastOf_c7 NF (f_Text_lastOf_l7 NF u) (7 * hc.2.2.1 + j) p k (nI (n + 1) - 1) hc = _
      unfold f_Text_lastOf_c7 f_Text_lastOf_b33 lro
      rw [nI_pred, if_neg (nI_pos (by omega)), g0, Option.bind_some, g1, Option.bind_some]
      have i2 := ih u (by omega) (by omega)
      rw [show nI n - 1 = nI n + (-1) from Int32.sub_eq_add_neg _ _] at i2
      rw [i2]
      by_cases c1 : mS hm (tb_b j + 4 * n) = p
      · rw [if_pos c1]
        by_cases c2 : mS hm (tb_b j + 4 * n + 1) = k
        · rw [if_pos c2, if_pos ⟨c1, c2⟩]
          rfl
        · rw [if_neg c2, if_neg (fun q => c2 q.2)]
      · rw [if_neg c1, if_neg (fun q => c1 q.1)]
  unfold f_Text_lastOf f_Rows_size
  rw [z, Option.bind_some]
  exact lp n0 NF (Nat.le_refl _) (NF_gt (by omega))
/-- the wanted of a place, a kind and a month -/
def wnt (f : Nat → Int32) (p k m : Int32) : Nat := match lro f 50 p k (nv f 2) with | none => 0 | some r => clN (fval f (fq m 0 0 0) (52 + 4 * r)) 9999
theorem wnt_le (f : Nat → Int32) (p k m : Int32) : wnt f p k m ≤ 9999 := by
  unfold wnt
  split
  · omega
  · exact clN_le _ _
theorem C_wantedF {c : Nat} {hc hm : sh_H} (h : St c hc hm) (p k m : Int32) : oFC (f_Text_wanted NF hc.2.2.1 p k m hc) (nI (wnt (mS hm) p k m)) hc := by
  obtain ⟨n, n1, n2, n3⟩ := (St_T h).2.2.1
  unfold f_Text_wanted wnt
  have e0 := C_lastOf h (Or.inl rfl) n2 n1 p k
  rw [show tb_b 2 = 50 from rfl] at e0
  rw [e0, nv_of n2 (by omega), Option.bind_some]
  cases e : lro (mS hm) 50 p k n with
  | none =>
    exact oFC.v
  | some r =>
    obtain ⟨r1, -, -⟩ := lro_some e
    show oFC (if nI r = -1 then some ((0 : Int32), hc) else sh_b2 (f_Text_says NF hc.2.2.1 (7 * hc.2.2.1 + 2) (nI r) m 0 0 0 hc) _) (nI (clN (fval (mS hm) (fq m 0 0 0) (52 + 4 * r)) 9999)) hc
    rw [if_neg (fun q => nI_pos (n := r) (by omega) (by rw [q]; decide))]
    unfold f_Text_says
    have g0 : f_Rows_get (7 * hc.2.2.1 + 2) (nI r) 3 hc = some (mS hm (52 + 4 * r)) := (tx_get h (j := 2) (r := r) (q := 3) (by omega) n2 (by omega) r1 (by omega) (by decide) (by decide)).trans (by show some (mS hm (50 + 4 * r + 2)) = _; rw [show 50 + 4 * r + 2 = 52 + 4 * r by omega])
    have g1 : f_Rows_get (7 * hc.2.2.1 + 2) (nI r) 4 hc = some (mS hm (52 + 4 * r + 1)) := (tx_get h (j := 2) (r := r) (q := 4) (by omega) n2 (by omega) r1 (by omega) (by decide) (by decide)).trans (by show some (mS hm (50 + 4 * r + 3)) = _; rw [show 50 + 4 * r + 3 = 52 + 4 * r + 1 by omega])
    rw [g0, Option.bind_some, g1, Option.bind_some]
    have fe := (n3 r r1).2.2
    rw [show 50 + 4 * r + 2 = 52 + 4 * r by omega] at fe
    refine oFC.b (oFC.b (C_valueF h fe m 0 0 0) (fun _ _ => oFC.v)) (fun H _ => ?_)
    rw [show (9999 : Int32) = nI 9999 from rfl, CB_limit (by omega), Option.bind_some]
    exact oFC.v
theorem C_wanted {c : Nat} {hc hm : sh_H} (h : St c hc hm) (p k m : Int32) : oC (f_Text_wanted NF hc.2.2.1 p k m hc) (nI (wnt (mS hm) p k m)) hc := (C_wantedF h p k m).s
theorem C_value {c : Nat} {hc hm : sh_H} (h : St c hc hm) {x : Nat} (he : FE (mS hm) x) (m a w z : Int32) : oC (f_Formulas_value NF hc.2.2.1 (mS hm x) (mS hm (x + 1)) m a w z hc) (fval (mS hm) (fq m a w z) x) hc := (C_valueF h he m a w z).s
theorem M_wantedF {hm H : sh_H} (h : IT (mS hm)) (hs : fM H hm) (p k m : Int32) : oFM (f_M_wanted NF p k m H) (nI (wnt (mS hm) p k m)) hm := by
  obtain ⟨n0, n1, n2, n3⟩ := h.2.2.1
  unfold f_M_wanted wnt
  rw [nv_of n2 (by omega), if_pos (show ai_in 2 8000 from q_in (k := 2) (n := 8000) (by omega) (by omega)), show H.1 13 46 (2 : Int32).toNatClampNeg = nI n0 from (hs.mS 2).trans n2]
  have lp : ∀ (n u : Nat), n ≤ n0 → n < u → oFM (f_M_wanted_l10 NF (f_M_wanted_b52 NF) u p k m (nI n - 1) H) (nI (match lro (mS hm) 50 p k n with | none => 0 | some r => clN (fval (mS hm) (fq m 0 0 0) (52 + 4 * r)) 9999)) hm := by
    intro n
    induction n with
    | zero =>
      intro u e1 e2
      obtain ⟨u, rfl⟩ : ∃ m, u = m + 1 := ⟨u - 1, by omega⟩
      exact ⟨H, rfl, hs⟩
    | succ n ih =>
      intro u e1 e2
      obtain ⟨u, rfl⟩ : ∃ m, u = m + 1 := ⟨u - 1, by omega⟩
      show oFM (f_M_wanted_c10 NF (f_M_wanted_b52 NF) (f_M_wanted_l10 NF (f_M_wanted_b52 NF) u) p k m (nI (n + 1) - 1) H) _ hm
      unfold f_M_wanted_c10 f_M_wanted_b81 lro
      have i2 := ih u (by omega) (by omega)
      rw [show nI n - 1 = nI n + (-1) from Int32.sub_eq_add_neg _ _] at i2
      have ex : (50 : Int32) + 4 * nI n = nI (50 + 4 * n) := by rw [show (50 : Int32) = nI 50 from rfl, show (4 : Int32) = nI 4 from rfl, q_mul, nI_add]
      have ein : ai_in (nI (50 + 4 * n)) 8000 := q_in (by omega) (by omega)
      have ein1 : ai_in (nI (50 + 4 * n + 1)) 8000 := q_in (by omega) (by omega)
      have ecl : (nI (50 + 4 * n)).toNatClampNeg = 50 + 4 * n := q_cl (by omega)
      have ecl1 : (nI (50 + 4 * n + 1)).toNatClampNeg = 50 + 4 * n + 1 := q_cl (by omega)
      have b2 : H.1 13 46 (50 + 4 * n) = mS hm (50 + 4 * n) := hs.mS _
      have b3 : H.1 13 46 (50 + 4 * n + 1) = mS hm (50 + 4 * n + 1) := hs.mS _
      simp only [nI_pred, ex, if_pos ein, ecl, nI_1, if_pos ein1, ecl1, b2, b3]
      rw [if_neg (nI_pos (by omega))]
      by_cases c1 : mS hm (50 + 4 * n) = p
      · rw [if_pos c1]
        by_cases c2 : mS hm (50 + 4 * n + 1) = k
        · rw [if_pos c2, if_pos ⟨c1, c2⟩]
          unfold f_M_wanted_b52
          rw [ex, show (2 : Int32) = nI 2 from rfl, nI_add, show 50 + 4 * n + 2 = 52 + 4 * n by omega]
          have fe := (n3 n (by omega)).2.2
          rw [show 50 + 4 * n + 2 = 52 + 4 * n by omega] at fe
          refine M_asumF (by omega) fe hs m 0 0 0 (fun H' hs' => ?_)
          rw [show (9999 : Int32) = nI 9999 from rfl, M_within (by omega), Option.bind_some]
          exact ⟨H', rfl, hs'⟩
        · rw [if_neg c2, if_neg (fun q => c2 q.2)]
          exact i2
      · rw [if_neg c1, if_neg (fun q => c1 q.1)]
        exact i2
  exact lp n0 NF (Nat.le_refl _) (NF_gt (by omega))
/-- over another heap with the same cells -/
theorem M_wantedG {hm H : sh_H} (h : IT (mS hm)) (hs : sM H hm) (p k m : Int32) : ∃ H', f_M_wanted NF p k m H = some (nI (wnt (mS hm) p k m), H') ∧ fM H' H := by
  have e : mS H = mS hm := funext (fun k => hs.mS k)
  have := M_wantedF (hm := H) (H := H) (by rw [e]; exact h) (fM.rf H) p k m
  rw [e] at this
  exact this
theorem M_wanted {hm H : sh_H} (h : IT (mS hm)) (hs : sM H hm) (p k m : Int32) : oM (f_M_wanted NF p k m H) (nI (wnt (mS hm) p k m)) hm := by
  obtain ⟨H', a, b⟩ := M_wantedG h hs p k m
  exact ⟨H', a, b.s.tr hs⟩
theorem M_asum {hm H : sh_H} {α : Type} {x : Nat} {r : α} {f : Int32 → sh_H → Option (α × sh_H)} (hx : x < 7000) (he : FE (mS hm) x) (hs : sM H hm) (m a w z : Int32) (k : ∀ H', sM H' hm → oM (f (fval (mS hm) (fq m a w z) x) H') r hm) : oM (Option.bind (f_M_ask m a w z H) (fun h1 => sh_b2 (f_M_sum NF (nI x) h1) f)) r hm := by
  have e : mS H = mS hm := funext (fun k => hs.mS k)
  obtain ⟨H1, a1, a2, a3⟩ := M_askF m a w z H
  rw [a1, Option.bind_some]
  have he' : FE (mS H) x := by rw [e]; exact he
  obtain ⟨H2, b1, b2⟩ := M_sumF hx he' a2 m a w z a3
  rw [b1, sh_b2_some, e]
  exact k H2 (b2.s.tr hs)
/-! PAIRS: boat, want -/
theorem CB_isMonth (x : Int32) (h : sh_H) : f_CB_isMonth x h = some (q_within x 0 11) := by
  unfold f_CB_isMonth
  rw [CB_within, Option.bind_some, q_nar1w]
theorem P_boat (a1 a2 : Int32) : PairR (f_CB_boat NF a1 a2) (f_M_boat NF a1 a2) := by
  intro c hc hm _ h
  unfold f_CB_boat f_M_boat
  rw [Text_isIsland, M_isIsland, St_z h 1 (by omega), CB_isMonth, M_isIn, C_boatOf h, M_boatOf (St_T h)]
  simp only [Option.bind_some]
  refine pick (fun _ => ⟨-1, rfl, rfl⟩) (fun _ => pick (fun _ => ⟨-1, rfl, rfl⟩) (fun _ => ?_))
  cases e : bt (mS hm) a1 a2 with
  | none => exact ⟨-2, rfl, rfl⟩
  | some r =>
    obtain ⟨nb, n1, n2, -⟩ := (St_T h).2.2.2.2.2.2
    unfold bt at e
    rw [nv_of n2 (by omega)] at e
    obtain ⟨-, r1, -⟩ := bof_some e
    refine ⟨nI r, ?_, rfl⟩
    show (if nI r = -1 then _ else _) = _
    rw [if_neg (fun q => nI_pos (n := r) (by omega) (by rw [q]; decide))]
    rfl
theorem pickO {α : Type} {c : Prop} [Decidable c] {x y x' y' : Option (α × sh_H)} {h g : sh_H} (p : c → ∃ r, oC x r h ∧ oM x' r g) (q : ¬ c → ∃ r, oC y r h ∧ oM y' r g) : ∃ r, oC (if c then x else y) r h ∧ oM (if c then x' else y') r g := by
  by_cases h : c
  · rw [if_pos h, if_pos h]; exact p h
  · rw [if_neg h, if_neg h]; exact q h
theorem P_want (a1 a2 a3 : Int32) : Pair (f_CB_want NF a1 a2 a3) (f_M_want NF a1 a2 a3) := Pair.o (by
  intro c hc hm _ h
  unfold f_CB_want f_M_want f_M_want_b36 f_CB_want_b20 f_CB_want_b21
  rw [CB_isOf, M_isIsland, M_isKind, St_z h 1 (by omega), St_z h 0 (by omega), CB_isMonth, M_isIn]
  simp only [Option.bind_some]
  by_cases c1 : q_isl a1 (mS hm 1) = 0
  · rw [if_pos c1, if_pos c1]
    exact ⟨-1, oC.v, oM.v⟩
  rw [if_neg c1, if_neg c1]
  by_cases c2 : q_kind a2 (mS hm 0) = 0
  · rw [if_pos c2, if_pos c2]
    exact ⟨-1, oC.v, oM.v⟩
  rw [if_neg c2, if_neg c2, if_neg q_10]
  refine pickO (fun _ => ⟨-1, oC.v, oM.v⟩) (fun _ => ?_)
  rw [if_neg q_10]
  exact ⟨_, oC.b (C_wanted h a1 a2 a3) (fun _ _ => oC.v), oM.b (M_wanted (St_T h) (sM.rf hm) a1 a2 a3) (fun _ _ => oM.v)⟩)
