/-! PAIRS: book, looked, annul -/
def Grow (G : Nat → Int32) (n : Nat) (a b c d : Int32) : Nat → Int32 := up1 (up1 (up1 (up1 (up1 G (550 + 4 * n) a) (550 + 4 * n + 1) b) (550 + 4 * n + 2) c) (550 + 4 * n + 3) d) 8 (nI (n + 1))
theorem M_row {hm : sh_H} {n : Nat} (h8 : mS hm 8 = nI n) (hn : n < 60) (a b c d : Int32) : f_M_row a b c d hm = some (nI n, hS hm (Grow (mS hm) n a b c d)) := by
  have m8 : hm.1 13 46 8 = nI n := h8
  have y8 : (8 : Int32).toNatClampNeg = 8 := rfl
  have j8 : ai_in (8 : Int32) 8000 := in8 (k := 8) (by omega)
  have b0 : (550 : Int32) + 4 * nI n = nI (550 + 4 * n) := by rw [show (550 : Int32) = nI 550 from rfl, show (4 : Int32) = nI 4 from rfl, q_mul, nI_add]
  have b1 : nI (550 + 4 * n) + 1 = nI (550 + 4 * n + 1) := nI_1 _
  have b2 : nI (550 + 4 * n) + 2 = nI (550 + 4 * n + 2) := nI_add _ 2
  have b3 : nI (550 + 4 * n) + 3 = nI (550 + 4 * n + 3) := nI_add _ 3
  have z0 : ai_in (nI (550 + 4 * n)) 8000 := in8 (by omega)
  have z1 : ai_in (nI (550 + 4 * n + 1)) 8000 := in8 (by omega)
  have z2 : ai_in (nI (550 + 4 * n + 2)) 8000 := in8 (by omega)
  have z3 : ai_in (nI (550 + 4 * n + 3)) 8000 := in8 (by omega)
  have y0 : (nI (550 + 4 * n)).toNatClampNeg = 550 + 4 * n := cl8 (by omega)
  have y1 : (nI (550 + 4 * n + 1)).toNatClampNeg = 550 + 4 * n + 1 := cl8 (by omega)
  have y2 : (nI (550 + 4 * n + 2)).toNatClampNeg = 550 + 4 * n + 2 := cl8 (by omega)
  have y3 : (nI (550 + 4 * n + 3)).toNatClampNeg = 550 + 4 * n + 3 := cl8 (by omega)
  have hm0 : ∀ q v, sh_pI hm 13 46 q v = hS hm (up1 (mS hm) q v) := fun q v => hS_0
  have at8 : ∀ G, (hS hm G).1 13 46 8 = G 8 := fun G => rfl
  unfold f_M_row
  simp only [if_pos j8, y8, m8]
  rw [if_neg (show ¬ nI n = (60 : Int32) from fun q => by have := (nI_eq (b := 60) (by omega) (by omega)).mp q; omega)]
  simp only [b0, b1, b2, b3, if_pos z0, if_pos z1, if_pos z2, if_pos z3, y0, y1, y2, y3, sh_let, hm0, hS_pI, at8]
  simp (disch := omega) only [up1_eq, up1_ne]
  rw [h8, nI_1, nI_pred]
  rfl
theorem M_row_full {hm : sh_H} (h8 : mS hm 8 = nI 60) (a b c d : Int32) : f_M_row a b c d hm = some (-1, hm) := by
  have m8 : hm.1 13 46 (8 : Int32).toNatClampNeg = 60 := h8
  have j8 : ai_in (8 : Int32) 8000 := in8 (k := 8) (by omega)
  unfold f_M_row
  rw [if_pos j8, m8, if_pos rfl]
theorem St_b {c : Nat} {hc hm : sh_H} (h : St c hc hm) : ∃ n, n ≤ 60 ∧ hc.1 6 16 3 = nI n ∧ mS hm 8 = nI n ∧ (∀ i, i < n → rBkF (fun j => hc.1 13 22 j) (mS hm) i) ∧ (∀ i, i < n → BKi (mS hm) i) := by
  obtain ⟨n, n1, n2, n3, n4⟩ := (rSt_0 h).2.2.2.1
  rw [Nat.zero_add] at n3
  obtain ⟨-, -, -, m, m1, m2, m3⟩ := St_S h
  have : m = n := (nI_eq (by omega) (by omega)).mp (m2.symm.trans n3)
  subst this
  refine ⟨m, n1, n2, n3, fun i hi => ?_, m3⟩
  have := n4 i hi
  unfold rBk at this
  simp only [Nat.zero_add] at this
  exact this
/-- the new row of the books, on both sides -/
theorem St_new {c : Nat} {hc hm : sh_H} (h : St c hc hm) {n : Nat} (hn : n < 60) (n2 : hc.1 6 16 3 = nI n) (n3 : mS hm 8 = nI n) {F : Nat → Int32} {a b d e : Int32} (hF : ∀ j, j < 5 * n → F j = hc.1 13 22 j) (hr : rBkF F (Grow (mS hm) n a b d e) n) (hB : BKi (Grow (mS hm) n a b d e) n) : St c (hR hc 16 (n + 1) F) (hS hm (Grow (mS hm) n a b d e)) := by
  obtain ⟨m, m0, -, m1, m2, m3⟩ := St_b h
  have : m = n := (nI_eq (by omega) (by omega)).mp (m1.symm.trans n3)
  subst this
  refine St_book h (fun k hk => ?_) (by omega) (up1_eq rfl) (fun i hi => ?_) (fun i hi => ?_)
  · unfold Grow
    simp (disch := omega) only [up1_ne]
  · by_cases e1 : i = m
    · rw [e1]; exact hr
    · have := m2 i (by omega)
      unfold rBkF at this ⊢
      rw [hF _ (by omega), hF _ (by omega), hF _ (by omega), hF _ (by omega), hF _ (by omega)]
      unfold Grow
      simp (disch := omega) only [up1_ne]
      exact this
  · by_cases e1 : i = m
    · rw [e1]; exact hB
    · unfold BKi pl kd rg Grow
      simp (disch := omega) only [up1_ne]
      exact m3 i (by omega)
theorem Grow_at {G : Nat → Int32} {n : Nat} {a b c d : Int32} (hn : n < 60) : Grow G n a b c d (550 + 4 * n) = a ∧ Grow G n a b c d (551 + 4 * n) = b ∧ Grow G n a b c d (552 + 4 * n) = c ∧ Grow G n a b c d (553 + 4 * n) = d ∧ Grow G n a b c d 0 = G 0 ∧ Grow G n a b c d 1 = G 1 := by
  unfold Grow
  simp (disch := omega) only [up1_ne, up1_eq, and_self]
theorem bput {hc : sh_H} (hC : RC hc) {n : Nat} (hn : n < 60) (q : Nat) (F : Nat → Int32) (v : Int32) (hq : q < 5) : f_Rows_put 16 (nI n) (nI q) v (hR hc 16 (n + 1) F) = some (hR hc 16 (n + 1) (up1 F (n * 5 + q) v)) := hR_put hC (by omega) (show n + 1 ≤ 60 by omega) (by omega) (show q < 5 from hq)
theorem P_book (a1 a2 a3 a4 : Int32) (hb : a4 = 0 ∨ a4 = 1) : Pair (f_CB_book NF a1 a2 a3 a4) (f_M_book a1 a2 a3 a4) := by
  intro c hc hm _ h
  obtain ⟨n, n1, n2, n3, -⟩ := St_b h
  obtain ⟨ni, i1, i2, -⟩ := (St_T h).2.1
  obtain ⟨nk, k1, k2, -⟩ := (St_T h).1
  have e16 : 4 * 0 + 16 = 16 := rfl
  unfold f_CB_book f_M_book f_M_book_b47 f_M_book_b38
  simp only [e16, CB_within, M_isIn, CB_isOf, M_isIsland, M_isKind, St_z h 1 (by omega), St_z h 0 (by omega), Option.bind_some, i2, k2]
  by_cases c2 : q_isl a1 (nI ni) = 0
  · simp only [if_pos c2, if_true]
    exact same h
  by_cases c3 : q_kind a2 (nI nk) = 0
  · simp only [if_pos c3, if_neg c2, if_true]
    exact same h
  simp only [if_neg c2, if_neg c3, if_neg q_10]
  refine pick2 (fun _ => same h) (fun c4 => ?_)
  obtain ⟨p, hp, rfl⟩ := q_isl_in (by omega) c2
  obtain ⟨k, hk, rfl⟩ := q_kind_in (by omega) c3
  obtain ⟨x, x1, x2, rfl⟩ := q_within_in (a := 0) (b := 9999) (by omega) (by omega) c4
  have qn : (-1 : Int32) < 0 := q_n1
  by_cases cf : n = 60
  · subst cf
    have pn : ∀ y v, f_Rows_put 16 (-1) y v hc = some hc := fun y v => rows_put_neg (Or.inl qn)
    unfold f_CB_book_b82
    rw [rows_add_full h.1 (by omega) n2 rfl, M_row_full n3, M_row_full n3]
    simp only [sh_b2_some, pn, Option.bind_some, ite_self]
    exact same h
  have p0 : ∀ F v, f_Rows_put 16 (nI n) 0 v (hR hc 16 (n + 1) F) = _ := fun F v => bput h.1 (by omega) 0 F v (by omega)
  have p1 : ∀ F v, f_Rows_put 16 (nI n) 1 v (hR hc 16 (n + 1) F) = _ := fun F v => bput h.1 (by omega) 1 F v (by omega)
  have p2 : ∀ F v, f_Rows_put 16 (nI n) 2 v (hR hc 16 (n + 1) F) = _ := fun F v => bput h.1 (by omega) 2 F v (by omega)
  have p3 : ∀ F v, f_Rows_put 16 (nI n) 3 v (hR hc 16 (n + 1) F) = _ := fun F v => bput h.1 (by omega) 3 F v (by omega)
  have w5 : sh_w 16 = 5 := rfl
  have r22 : sh_rc 16 = 22 := rfl
  rw [rows_add h.1 (by omega) n2 (show n < 60 by omega), M_row n3 (by omega), M_row n3 (by omega)]
  unfold f_CB_book_b82
  simp only [sh_b2_some, p0, p1, p2, p3, Option.bind_some, w5, r22]
  obtain ⟨y, hy, rfl⟩ : ∃ y, y < 2 ∧ a4 = nI y := by
    rcases hb with rfl | rfl
    · exact ⟨0, by omega, rfl⟩
    · exact ⟨1, by omega, rfl⟩
  have fin1 : ∀ z, z < 2 → ∃ r hc' hm', some (nI n, hR hc 16 (n + 1) (up1 (up1 (up1 (up1 (zrow (fun j => hc.1 13 22 j) (n * 5) 5) (n * 5 + 0) (nI (p + 1))) (n * 5 + 1) (nI k)) (n * 5 + 2) (nI z)) (n * 5 + 3) (nI x))) = some (r, hc') ∧ some (nI n, hS hm (Grow (mS hm) n (nI z) (nI (p + 1)) (nI k) (nI x))) = some (r, hm') ∧ St (c + 1) hc' hm' ∧ mEq hc' hc ∧ cEq hm' hm ∧ xEq hm' hm := by
    intro z hz
    obtain ⟨g0, g1, g2, g3, g4, g5⟩ := Grow_at (G := mS hm) (n := n) (a := nI z) (b := nI (p + 1)) (c := nI k) (d := nI x) (by omega)
    refine fin (nI n) rfl rfl (St_new h (by omega) n2 n3 (fun j hj => ?_) ⟨z, by omega, g0, ?_, fun _ => ?_, fun q => by omega, fun q => by omega⟩ (Or.inl ⟨z, hz, g0, ⟨p + 1, ni, by omega, by omega, i1, g1, g5.trans i2⟩, ⟨k, nk, hk, k1, g2, g4.trans k2⟩, ⟨x, by omega, x2, g3⟩⟩)) (hR_mEq (by decide)) hS_cEq hS_xEq
    · simp (disch := omega) only [up1_ne, zrow_ne]
    · simp (disch := omega) only [up1_ne, up1_eq]
    · rw [g1, g2, g3]
      simp (disch := omega) only [up1_ne, up1_eq, and_self]
  rcases (show y = 0 ∨ y = 1 by omega) with rfl | rfl
  · exact fin1 1 (by omega)
  · exact fin1 0 (by omega)
theorem P_looked (a1 a2 a3 : Int32) : Pair (f_CB_looked NF a1 a2 a3) (f_M_looked a1 a2 a3) := by
  intro c hc hm _ h
  obtain ⟨n, n1, n2, n3, -⟩ := St_b h
  obtain ⟨ni, i1, i2, -⟩ := (St_T h).2.1
  have e16 : 4 * 0 + 16 = 16 := rfl
  unfold f_CB_looked f_M_looked f_M_looked_b38
  simp only [e16, CB_within, M_isIn, Text_isIsland, M_isIsland, St_z h 1 (by omega), Option.bind_some, i2]
  refine pick2 (fun _ => same h) (fun c2 => ?_)
  refine pick2 (fun _ => same h) (fun c3 => ?_)
  obtain ⟨p, hp, rfl⟩ := q_isl_in (by omega) c2
  obtain ⟨m, -, m2, rfl⟩ := q_within_in (a := 0) (b := 60) (by omega) (by omega) c3
  refine pick2 (fun _ => same h) (fun c4 => ?_)
  obtain ⟨w, -, w2, rfl⟩ := q_within_in (a := 0) (b := m) (by omega) (by omega) c4
  have qn : (-1 : Int32) < 0 := q_n1
  by_cases cf : n = 60
  · subst cf
    have pn : ∀ y v, f_Rows_put 16 (-1) y v hc = some hc := fun y v => rows_put_neg (Or.inl qn)
    rw [rows_add_full h.1 (by omega) n2 rfl, M_row_full n3]
    simp only [sh_b2_some, pn, Option.bind_some]
    exact same h
  have p0 : ∀ F v, f_Rows_put 16 (nI n) 0 v (hR hc 16 (n + 1) F) = _ := fun F v => bput h.1 (by omega) 0 F v (by omega)
  have p2 : ∀ F v, f_Rows_put 16 (nI n) 2 v (hR hc 16 (n + 1) F) = _ := fun F v => bput h.1 (by omega) 2 F v (by omega)
  have p3 : ∀ F v, f_Rows_put 16 (nI n) 3 v (hR hc 16 (n + 1) F) = _ := fun F v => bput h.1 (by omega) 3 F v (by omega)
  have p4 : ∀ F v, f_Rows_put 16 (nI n) 4 v (hR hc 16 (n + 1) F) = _ := fun F v => bput h.1 (by omega) 4 F v (by omega)
  have w5 : sh_w 16 = 5 := rfl
  have r22 : sh_rc 16 = 22 := rfl
  rw [rows_add h.1 (by omega) n2 (show n < 60 by omega), M_row n3 (by omega)]
  simp only [sh_b2_some, p0, p2, p3, p4, Option.bind_some, w5, r22]
  obtain ⟨g0, g1, g2, g3, g4, g5⟩ := Grow_at (G := mS hm) (n := n) (a := 2) (b := nI (p + 1)) (c := nI m) (d := nI w) (by omega)
  refine fin (nI n) rfl rfl (St_new h (by omega) n2 n3 (fun j hj => ?_) ⟨2, by omega, g0, ?_, fun q => by omega, fun _ => ?_, fun q => by omega⟩ (Or.inr (Or.inl ⟨g0, ⟨p + 1, ni, by omega, by omega, i1, g1, g5.trans i2⟩, m, w, m2, w2, g2, g3⟩))) (hR_mEq (by decide)) hS_cEq hS_xEq
  · simp (disch := omega) only [up1_ne, zrow_ne]
  · simp (disch := omega) only [up1_ne, up1_eq]
    rfl
  · rw [g1, g2, g3]
    simp (disch := omega) only [up1_ne, up1_eq, and_self]
theorem P_annul (a1 : Int32) : Pair (f_CB_annul NF a1) (f_M_annul a1) := by
  intro c hc hm _ h
  obtain ⟨n, n1, n2, n3, n4, -⟩ := St_b h
  have e16 : 4 * 0 + 16 = 16 := rfl
  have m8 : hm.1 13 46 (8 : Int32).toNatClampNeg = nI n := n3
  have j8 : ai_in (8 : Int32) 8000 := in8 (k := 8) (by omega)
  unfold f_CB_annul f_M_annul f_M_annul_b44 f_Rows_size
  simp only [e16, M_isIn, if_pos j8, m8, n2, Option.bind_some]
  by_cases c1 : a1 < 0
  · rw [if_pos c1, if_pos (show q_within a1 0 (nI n - 1) = 0 from q_within_0.mpr (Or.inl c1))]
    exact same h
  rw [if_neg c1]
  obtain ⟨a, ha, rfl⟩ := nI_of c1
  rw [q_wm1 ha (by omega)]
  by_cases c2 : a < n
  · rw [if_pos (nI_lt c2 (by omega)), if_pos c2, if_neg q_10]
    obtain ⟨s, s1, s2, s3, -⟩ := n4 a c2
    have b0 : (550 : Int32) + 4 * nI a = nI (550 + 4 * a) := by rw [show (550 : Int32) = nI 550 from rfl, show (4 : Int32) = nI 4 from rfl, q_mul, nI_add]
    have z0 : ai_in (nI (550 + 4 * a)) 8000 := in8 (by omega)
    have y0 : (nI (550 + 4 * a)).toNatClampNeg = 550 + 4 * a := cl8 (by omega)
    have g0 : f_Rows_get 16 (nI a) 2 hc = some (nI s) := (rows_get h.1 (by omega) n2 (by exact n1) (by omega) (show 2 < 2 ^ 31 by omega)).trans (by rw [if_pos ⟨c2, by decide⟩]; exact congrArg some s3)
    have g1 : hm.1 13 46 (550 + 4 * a) = nI s := s2
    simp only [g0, b0, if_pos z0, y0, g1, Option.bind_some]
    refine pick2 (fun _ => same h) (fun _ => ?_)
    have qn : (-1 : Int32) < 0 := q_n1
    by_cases cf : n = 60
    · subst cf
      have pn : ∀ y v, f_Rows_put 16 (-1) y v hc = some hc := fun y v => rows_put_neg (Or.inl qn)
      rw [rows_add_full h.1 (by omega) n2 rfl, M_row_full n3]
      simp only [sh_b2_some, pn, Option.bind_some]
      exact same h
    have p2 : ∀ F v, f_Rows_put 16 (nI n) 2 v (hR hc 16 (n + 1) F) = _ := fun F v => bput h.1 (by omega) 2 F v (by omega)
    have p3 : ∀ F v, f_Rows_put 16 (nI n) 3 v (hR hc 16 (n + 1) F) = _ := fun F v => bput h.1 (by omega) 3 F v (by omega)
    have w5 : sh_w 16 = 5 := rfl
    have r22 : sh_rc 16 = 22 := rfl
    rw [rows_add h.1 (by omega) n2 (show n < 60 by omega), M_row n3 (by omega)]
    simp only [sh_b2_some, p2, p3, Option.bind_some, w5, r22]
    obtain ⟨g0, g1, g2, g3, g4, g5⟩ := Grow_at (G := mS hm) (n := n) (a := 3) (b := nI a) (c := 0) (d := 0) (by omega)
    refine fin (nI n) rfl rfl (St_new h (by omega) n2 n3 (fun j hj => ?_) ⟨3, by omega, g0, ?_, fun q => by omega, fun q => by omega, fun _ => ?_⟩ (Or.inr (Or.inr ⟨g0, a, c2, g1⟩))) (hR_mEq (by decide)) hS_cEq hS_xEq
    · simp (disch := omega) only [up1_ne, zrow_ne]
    · simp (disch := omega) only [up1_ne, up1_eq]
      rfl
    · rw [g1]
      simp (disch := omega) only [up1_ne, up1_eq]
  · rw [if_neg (fun q => c2 ((nI_ltI ha (by omega)).mp q)), if_neg c2, if_pos rfl]
    exact same h
