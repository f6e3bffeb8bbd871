/-! PAIRS: send, book, looked, annul -/
theorem fin {α : Type} {c : Nat} {hc hm hc' hm' : sh_H} {F G : Option (α × sh_H)} (r : α) (h : F = some (r, hc')) (g : G = some (r, hm')) (S : St c hc' hm') (m : mEq hc' hc) (e : cEq hm' hm) (x : xEq hm' hm) : ∃ r hc' hm', F = some (r, hc') ∧ G = some (r, hm') ∧ St (c + 1) hc' hm' ∧ mEq hc' hc ∧ cEq hm' hm ∧ xEq hm' hm := ⟨r, hc', hm', h, g, St_up S, m, e, x⟩
theorem hR_mEq {h : sh_H} {r s : Nat} {F : Nat → Int32} (hr : sh_rc r < 42) : mEq (hR h r s F) h := by
  refine ⟨fun c i q j => ?_, fun _ _ _ _ => rfl, rfl⟩
  have := lcC_no.mp q
  exact hR_ne (by omega) (by omega)
theorem hS_cEq {h : sh_H} {G : Nat → Int32} : cEq (hS h G) h := by
  refine ⟨fun c i q j => ?_, fun _ _ _ _ => rfl, rfl, rfl⟩
  have := lcC_of.mp q
  exact hS_ne (by omega)
theorem hS_xEq {h : sh_H} {G : Nat → Int32} : xEq (hS h G) h := ⟨fun j => hS_ne (by omega), rfl⟩
theorem isFull_no {h : sh_H} {r s : Nat} (hc : RC h) (hr : r < 33) (hz : h.1 6 r 3 = nI s) (hs : s < sh_m r) : f_Rows_isFull r h = some 0 := by
  obtain ⟨e1, e2, e3, e4⟩ := sh_mw r hr
  unfold f_Rows_isFull
  rw [hz, (hc r hr).1, if_pos (nI_lt (by omega) (by omega)), q_nar0]
theorem isFull_yes {h : sh_H} {r s : Nat} (hc : RC h) (hr : r < 33) (hz : h.1 6 r 3 = nI s) (hs : s = sh_m r) : f_Rows_isFull r h = some 1 := by
  obtain ⟨e1, e2, e3, e4⟩ := sh_mw r hr
  unfold f_Rows_isFull
  rw [hz, (hc r hr).1, if_neg (nI_nlt (by omega) (by omega)), q_nar1]
theorem in8 {k : Nat} (h : k < 8000) : ai_in (nI k) 8000 := q_in h (by omega)
theorem cl8 {k : Nat} (h : k < 8000) : (nI k).toNatClampNeg = k := q_cl (by omega)
theorem snc_6 : sn_c 0 = 1 ∧ sn_c 1 = 2 ∧ sn_c 2 = 0 ∧ sn_c 3 = 3 ∧ sn_c 4 = 4 ∧ sn_c 5 = 5 := by decide
theorem P_send (a1 a2 a3 a4 a5 : Int32) (hb : a5 = 0 ∨ a5 = 1) : Pair (f_CB_send NF a1 a2 a3 a4 a5) (f_M_send a1 a2 a3 a4 a5) := by
  intro c hc hm _ h
  obtain ⟨n, n1, n2, n3, n4⟩ := (rSt_0 h).2.2.1
  rw [Nat.zero_add] at n3
  have n2' : hc.1 6 15 3 = nI n := n2
  have tt : hc.1 7 0 4 = mS hm 9 := (rSt_0 h).2.2.2.2.1
  obtain ⟨-, ⟨T, -, T2, T3⟩, ⟨n', n1', n2'', nD⟩, -⟩ := St_S h
  have : n' = n := (nI_eq (by omega) (by omega)).mp (n2''.symm.trans n3)
  subst this
  obtain ⟨ni, i1, i2, -⟩ := (St_T h).2.1
  obtain ⟨nk, k1, k2, -⟩ := (St_T h).1
  have m7 : hm.1 13 46 (7 : Int32).toNatClampNeg = nI n' := n3
  have m9 : hm.1 13 46 (9 : Int32).toNatClampNeg = nI T := T3
  have m9' : hc.1 7 0 4 = nI T := tt.trans T3
  have j7 : ai_in (7 : Int32) 8000 := in8 (k := 7) (by omega)
  have j9 : ai_in (9 : Int32) 8000 := in8 (k := 9) (by omega)
  have e15 : 4 * 0 + 15 = 15 := rfl
  unfold f_CB_send f_M_send
  simp only [e15, if_pos j7, if_pos j9, m7, m9, m9', CB_within, M_isIn, CB_isOf, M_isIsland, M_isKind, St_z h 1 (by omega), St_z h 0 (by omega), Option.bind_some, i2, k2]
  by_cases cf : n' = 40
  · subst cf
    rw [if_pos (show nI 40 = (40 : Int32) from rfl), isFull_yes h.1 (by omega) n2' rfl]
    simp only [Option.bind_some, if_neg q_10, ite_self]
    exact same h
  rw [if_neg (show ¬ nI n' = (40 : Int32) from fun q => cf ((nI_eq (b := 40) (by omega) (by omega)).mp q)), isFull_no h.1 (by omega) n2' (show n' < 40 by omega)]
  refine pick2 (fun _ => same h) (fun c1 => ?_)
  by_cases c2 : q_isl a2 (nI ni) = 0
  · simp only [if_pos c2, if_true]
    exact same h
  by_cases c3 : q_kind a3 (nI nk) = 0
  · simp only [if_pos c3, if_neg c2, if_true]
    exact same h
  simp only [if_neg c2, if_neg c3, if_neg q_10]
  refine pick2 (fun _ => same h) (fun c4 => ?_)
  simp only [Option.bind_some, if_true]
  obtain ⟨t, t1, t2, rfl⟩ := q_within_in (a := T) (b := 239) (by omega) (by omega) c1
  obtain ⟨p, hp, rfl⟩ := q_isl_in (by omega) c2
  obtain ⟨k, hk, rfl⟩ := q_kind_in (by omega) c3
  obtain ⟨x, x1, x2, rfl⟩ := q_within_in (a := 1) (b := 9999) (by omega) (by omega) c4
  obtain ⟨y, hy, rfl⟩ : ∃ y, y < 2 ∧ a5 = nI y := by
    rcases hb with rfl | rfl
    · exact ⟨0, by omega, rfl⟩
    · exact ⟨1, by omega, rfl⟩
  have b0 : (310 : Int32) + 6 * nI n' = nI (310 + 6 * n') := by rw [show (310 : Int32) = nI 310 from rfl, show (6 : Int32) = nI 6 from rfl, q_mul, nI_add]
  have b1 : nI (310 + 6 * n') + 1 = nI (310 + 6 * n' + 1) := nI_1 _
  have b2 : nI (310 + 6 * n') + 2 = nI (310 + 6 * n' + 2) := nI_add _ 2
  have b3 : nI (310 + 6 * n') + 3 = nI (310 + 6 * n' + 3) := nI_add _ 3
  have b4 : nI (310 + 6 * n') + 4 = nI (310 + 6 * n' + 4) := nI_add _ 4
  have b5 : nI (310 + 6 * n') + 5 = nI (310 + 6 * n' + 5) := nI_add _ 5
  have z0 : ai_in (nI (310 + 6 * n')) 8000 := in8 (by omega)
  have z1 : ai_in (nI (310 + 6 * n' + 1)) 8000 := in8 (by omega)
  have z2 : ai_in (nI (310 + 6 * n' + 2)) 8000 := in8 (by omega)
  have z3 : ai_in (nI (310 + 6 * n' + 3)) 8000 := in8 (by omega)
  have z4 : ai_in (nI (310 + 6 * n' + 4)) 8000 := in8 (by omega)
  have z5 : ai_in (nI (310 + 6 * n' + 5)) 8000 := in8 (by omega)
  have y0 : (nI (310 + 6 * n')).toNatClampNeg = 310 + 6 * n' := cl8 (by omega)
  have y1 : (nI (310 + 6 * n' + 1)).toNatClampNeg = 310 + 6 * n' + 1 := cl8 (by omega)
  have y2 : (nI (310 + 6 * n' + 2)).toNatClampNeg = 310 + 6 * n' + 2 := cl8 (by omega)
  have y3 : (nI (310 + 6 * n' + 3)).toNatClampNeg = 310 + 6 * n' + 3 := cl8 (by omega)
  have y4 : (nI (310 + 6 * n' + 4)).toNatClampNeg = 310 + 6 * n' + 4 := cl8 (by omega)
  have y5 : (nI (310 + 6 * n' + 5)).toNatClampNeg = 310 + 6 * n' + 5 := cl8 (by omega)
  have y7 : (7 : Int32).toNatClampNeg = 7 := rfl
  have l46 : sh_l13 46 = 8000 := rfl
  have pt : ∀ (q : Nat) (F : Nat → Int32) (v : Int32), q < 6 → f_Rows_put 15 (nI n') (nI q) v (hR hc 15 (n' + 1) F) = some (hR hc 15 (n' + 1) (up1 F (n' * 6 + q) v)) := fun q F v hq => hR_put h.1 (by omega) (show n' + 1 ≤ 40 by omega) (by omega) (show q < 6 from hq)
  have p0 : ∀ F v, f_Rows_put 15 (nI n') 0 v (hR hc 15 (n' + 1) F) = _ := fun F v => pt 0 F v (by omega)
  have p1 : ∀ F v, f_Rows_put 15 (nI n') 1 v (hR hc 15 (n' + 1) F) = _ := fun F v => pt 1 F v (by omega)
  have p2 : ∀ F v, f_Rows_put 15 (nI n') 2 v (hR hc 15 (n' + 1) F) = _ := fun F v => pt 2 F v (by omega)
  have p3 : ∀ F v, f_Rows_put 15 (nI n') 3 v (hR hc 15 (n' + 1) F) = _ := fun F v => pt 3 F v (by omega)
  have p4 : ∀ F v, f_Rows_put 15 (nI n') 4 v (hR hc 15 (n' + 1) F) = _ := fun F v => pt 4 F v (by omega)
  have p5 : ∀ F v, f_Rows_put 15 (nI n') 5 v (hR hc 15 (n' + 1) F) = _ := fun F v => pt 5 F v (by omega)
  have bb : ∀ (A B : Option (Int32 × sh_H)), (if nI y = 0 then A else B) = if y = 0 then A else B := by
    intro A B
    rcases (show y = 0 ∨ y = 1 by omega) with rfl | rfl <;> rfl
  have bc : ∀ (s0 : Nat) (s1 s2 s3 : Int32) (H : sh_H), (if y = 0 then f_CB_send_b142 NF (nI n') s0 s1 s2 0 H else f_CB_send_b142 NF (nI n') s0 s1 s2 1 H) = f_CB_send_b142 NF (nI n') s0 s1 s2 (nI y) H := by
    intro s0 s1 s2 s3 H
    rcases (show y = 0 ∨ y = 1 by omega) with rfl | rfl <;> rfl
  have bm : ∀ (l : Int32) (s0 : Nat) (s1 : Int32) (H : sh_H), (if y = 0 then f_M_send_b132 l s0 s1 0 H else f_M_send_b132 l s0 s1 1 H) = f_M_send_b132 l s0 s1 (nI y) H := by
    intro l s0 s1 H
    rcases (show y = 0 ∨ y = 1 by omega) with rfl | rfl <;> rfl
  have hm0 : ∀ q v, sh_pI hm 13 46 q v = hS hm (up1 (mS hm) q v) := fun q v => hS_0
  have at7 : ∀ G, (hS hm G).1 13 46 7 = G 7 := fun G => rfl
  rw [rows_add h.1 (by omega) n2' (show n' < 40 by omega), sh_b2_some]
  simp only [p0, p1, p2, p3, Option.bind_some, bb, b0, b1, b2, b3, b4, if_pos z0, if_pos z1, if_pos z2, if_pos z3, y0, y1, y2, y3, sh_let, hm0, hS_pI]
  rw [bc _ _ _ 0, bm]
  unfold f_CB_send_b142 f_M_send_b132
  simp only [p4, p5, Option.bind_some, l46, if_pos z4, if_pos z5, y4, y5, b5, if_pos j7, y7, sh_let, hS_pI, at7]
  have g7 : ∀ (G : Nat → Int32), G 7 = nI n' → up1 G 7 (G 7 + 1) 7 = nI (n' + 1) := fun G e => by rw [up1_eq rfl, e, nI_1]
  have n37 : mS hm 7 = nI n' := n3
  refine fin (nI n') rfl (congrArg some (Prod.ext ?_ rfl)) (St_send h (fun q hq => ?_) (show n' + 1 ≤ 40 by omega) (g7 _ ?_) (fun i hi q hq => ?_) (fun i hi => ?_)) (hR_mEq (by decide)) hS_cEq hS_xEq
  · simp (disch := omega) only [up1_eq, up1_ne]
    rw [n37, nI_1, nI_pred]
  · simp (disch := omega) only [up1_ne]
  · simp (disch := omega) only [up1_ne]
    exact n37
  · obtain ⟨s0, s1, s2, s3, s4, s5⟩ := snc_6
    have sq : sn_c q < 6 := (by decide +kernel : ∀ c, c < 6 → sn_c c < 6) q hq
    by_cases e : i < n'
    · have w6 : sh_w 15 = 6 := rfl
      simp (disch := omega) only [up1_ne, w6, zrow_ne]
      have := n4 i e q hq
      rw [Nat.zero_add] at this
      exact this
    · obtain rfl : i = n' := by omega
      rcases (show q = 0 ∨ q = 1 ∨ q = 2 ∨ q = 3 ∨ q = 4 ∨ q = 5 by omega) with rfl | rfl | rfl | rfl | rfl | rfl
      · simp (disch := omega) only [up1_ne, up1_eq, s0, s1, s2, s3, s4, s5, Nat.add_zero]
      · simp (disch := omega) only [up1_ne, up1_eq, s0, s1, s2, s3, s4, s5, Nat.add_zero]
      · simp (disch := omega) only [up1_ne, up1_eq, s0, s1, s2, s3, s4, s5, Nat.add_zero]
      · simp (disch := omega) only [up1_ne, up1_eq, s0, s1, s2, s3, s4, s5, Nat.add_zero]
      · simp (disch := omega) only [up1_ne, up1_eq, s0, s1, s2, s3, s4, s5, Nat.add_zero]
      · simp (disch := omega) only [up1_ne, up1_eq, s0, s1, s2, s3, s4, s5, Nat.add_zero]
  · unfold SDi rg pl kd
    by_cases e : i < n'
    · simp (disch := omega) only [up1_ne]
      exact nD i e
    · obtain rfl : i = n' := by omega
      simp (disch := omega) only [up1_ne, up1_eq]
      exact ⟨⟨t, by omega, t2, rfl⟩, ⟨p + 1, ni, by omega, by omega, i1, rfl, i2⟩, ⟨k, nk, hk, k1, rfl, k2⟩, ⟨x, x1, x2, rfl⟩, ⟨y, by omega, by omega, rfl⟩⟩
