/-! PAIR: read: formulas: units -/
theorem D_nest {sp : Nat} (g0 : Nat → Int32 → sh_H → Option sh_H) : Dg sp (F_Reader_nest NF g0) := by
  intro F T x H d
  refine ⟨H, ?_, d, xC.rf _ _⟩
  obtain ⟨v, hv⟩ := up_tot H
  unfold F_Reader_nest f_Reader_nest_b26
  rw [hv, D_fail d, Option.bind_some, Option.bind_some, D_accept d, Option.bind_some, Option.bind_some, if_neg d.ne, if_neg d.ne, ite_self, ite_self]
theorem D_addacc {sp : Nat} (hs : sp < 2) {F T : Nat} {H : sh_H} (d : DE F T H) (x y : Int32) : ∃ H', Option.bind (f_Formulas_add sp x y H) (fun h3 => Option.bind (f_Reader_accept h3) (fun h4 => some h4)) = some H' ∧ DE F T H' ∧ xC sp H' H := by
  obtain ⟨H2, e2, x2, f2⟩ := add_tot sp hs x y H
  have d2 : DE F T H2 := ⟨d.1, (f2 4).trans d.2.1, (f2 5).trans d.2.2⟩
  rw [e2, Option.bind_some, D_accept d2]
  exact ⟨H2, rfl, d2, x2⟩
theorem D_unit {sp : Nat} (hs : sp < 2) {gn : Nat → Int32 → sh_H → Option sh_H} (dg : Dg sp gn) : Dg sp (F_Reader_unit NF gn) := by
  intro F T x H d
  obtain ⟨v, hv⟩ := up_tot H
  obtain ⟨w, hw⟩ := val_tot (H.1 5 0 3) H
  unfold F_Reader_unit f_Reader_unit_b148
  rw [hv, Option.bind_some, hw, Option.bind_some]
  have n : ∃ H', Option.bind (gn sp x H) (fun h1 => some h1) = some H' ∧ DE F T H' ∧ xC sp H' H := by
    obtain ⟨H', e1, e2, e3⟩ := dg F T x H d
    exact ⟨H', by rw [e1]; rfl, e2, e3⟩
  by_cases c1 : v = 9
  · rw [if_pos c1]; exact D_addacc hs d _ _
  rw [if_neg c1]
  by_cases c2 : v = 10
  · rw [if_pos c2]; exact D_addacc hs d _ _
  rw [if_neg c2]
  by_cases c3 : v = 11
  · rw [if_pos c3]; exact D_addacc hs d _ _
  rw [if_neg c3]
  by_cases c4 : v = 12
  · rw [if_pos c4]; exact D_addacc hs d _ _
  rw [if_neg c4]
  by_cases c5 : v = 21
  · rw [if_pos c5]; exact D_addacc hs d _ _
  rw [if_neg c5]
  by_cases c6 : v = 40
  · rw [if_pos c6]; exact n
  rw [if_neg c6]
  by_cases c7 : v = 91
  · rw [if_pos c7]; exact n
  rw [if_neg c7, D_fail d]
  exact ⟨H, rfl, d, xC.rf _ _⟩
theorem AC_1 {sp w a z e u : Nat} {W A V : Nat → Nat} {H G : sh_H} {A' V' : Nat → Nat} {H' G' : sh_H} {z' a' u' : Nat} {W' : Nat → Nat} (h1 : ∀ i, i < w → W' i = W i) (h2 : a < a') (h3 : u' + a' = u + a) (h4 : z' + a ≤ z + a') (h5 : z ≤ z') (h6 : ∀ k, k < z → A' k = A k ∧ V' k = V k) (h7 : DP A' z z' e (e + 1)) (h8 : xC sp H' H) (h9 : xM G' G) : AC sp w a z e u W A V H G a' z' u' W' A' V' H' G' := ⟨h1, h2, h3, h4, h5, h6, h7, h8, h9⟩
theorem LG_0 {rm zm w : Nat} {W A : Nat → Nat} : LG rm zm (zm - zm) w W A := fun j hj => by rw [Nat.sub_self] at hj; omega
theorem xst_3 (s : Nat) : xst 3 s := ⟨fun h => by omega, fun h => by omega⟩
/-- a number or a variable -/
theorem X_push {B : Nat → Nat} {n sz lf lt sp o a z w e u ov vv : Nat} {W A V : Nat → Nat} {H G : sh_H} (hs : sp < 2) (es : ES B n sz lf lt sp a z z w W A V H G) (gg : tG B n a) (ho : ov < 2) (hv : vv ≤ 9999) (hv1 : ov = 1 → vv < 4) (he : e < 32) (x y : Int32) (hxy : x <<< ((16 : Int32) &&& 31) ||| (y &&& (65535 : Int32)) = nI (cst ov vv)) : XR B n sz lf lt sp 3 o a z w e (u + 1) W A V H G (Option.bind (f_Formulas_add sp x y H) (fun h3 => Option.bind (f_Reader_accept h3) (fun h4 => some h4))) (Option.bind (f_M_emit (nI ov) (nI vv) G) (fun h5 => sh_b2 (f_M_pass h5) (fun v6 h7 => if v6 = 0 then some ((ai_nar 1 (0 : Int32)), h7) else xL u o 0 h7))) := by
  obtain ⟨p, cc, cm, cv, wt, zl, za, wa⟩ := es
  have a4 := p.a4
  rw [Nat.sub_self, Nat.add_zero] at wt wa
  obtain ⟨H1, b1, b2, b3, b4⟩ := C_add (o := ov) (v := vv) hs (by omega) x y hxy cc
  obtain ⟨G1, q1, q2, q3, q4, q5⟩ := M_emit (o := ov) (v := vv) (by omega) cm
  have p1 : PS B n sz a lf lt H1 G1 := PS_e hs b3 q3 b4 (fun j _ => q4 0 j) p
  have cv3 : CV (z + 1) (up0 A z ov) (up0 V z vv) := by
    intro k hk
    by_cases c : k = z
    · rw [c, up0_y, up0_y]; exact ⟨by omega, hv, hv1, fun h => by omega⟩
    · rw [up0_n c, up0_n c]; exact cv k (by omega)
  rw [b1, q1, Option.bind_some, Option.bind_some]
  rcases S_pass20 p1 gg with ⟨H2, G2, y1, y2, y3, y4, y5, y6⟩ | ⟨F, T, H2, G2, y1, y2, y3, y4, y5, y6, y7⟩
  · rw [y1, y2, Option.bind_some, sh_b2_some, if_neg q_10]
    have es2 : ES B n sz lf lt sp (a + 1) (z + 1) (z + 1) w W (up0 A z ov) (up0 V z vv) H2 G2 := PS_acc y3 y4 y5 b2 q2 cv3 (WT_to (q4 0 20) q5 wt) (y6 20 (by omega)) (by omega) (by omega)
    exact Or.inl ⟨a + 1, z + 1, z + 1, u, W, _, _, H2, G2, rfl, rfl, es2, LG_0, xst_3 _, AC_1 (fun _ _ => rfl) (by omega) (by omega) (by omega) (by omega) (fun k hk => ⟨up0_n (by omega), up0_n (by omega)⟩) (DP_push (by rw [up0_y]; exact ho) he) ((y4.E).tr b3) ((y5.E).tr q3)⟩
  · rw [y1, y2, Option.bind_some, sh_b2_some, if_pos rfl, q_nar0]
    exact Or.inr ⟨F, T, H2, G2, rfl, rfl, y3, y4, y5, (y6.E).tr b3, (y7.E).tr q3⟩
/-- behind a nest's sum: the waits are taken down to the mark -/
theorem M_flush {B : Nat → Nat} {n sz lf lt sp a z zm w o u : Nat} {W A V : Nat → Nat} {H G : sh_H} (hs : sp < 2) (ho : o ≤ 6) (es : ES B n sz lf lt sp a z zm (w + 1) W A V H G) (lg : LG 1 zm (z - zm) (w + 1) W A) (st : xst 1 (tT B n a)) (top : rk (W w) = 0) : ∃ G4, PS B n sz a lf lt H G4 ∧ CM z A V G4 ∧ WT (w + 1) W G4 ∧ xM G4 G ∧ xL (u + 1) (o + 1) 0 G = (if nI (W w) = 10 then (Option.bind (f_M_isSign (60 : Int32) G4) (fun v17 => (if v17 = 0 then (Option.bind (f_M_isSign (300 : Int32) G4) (fun v18 => (if v18 = 0 then f_M_expr_b286 NF G4 else f_M_expr_b292 NF (fun a b c h => f_M_expr_l21 NF (f_M_expr_b53 NF) (f_M_expr_b143 NF) (f_M_expr_b286 NF) (f_M_expr_b343 NF) (f_M_expr_b403 NF) u a b c h) (nI (o + 1)) 1 G4))) else f_M_expr_b292 NF (fun a b c h => f_M_expr_l21 NF (f_M_expr_b53 NF) (f_M_expr_b143 NF) (f_M_expr_b286 NF) (f_M_expr_b343 NF) (f_M_expr_b403 NF) u a b c h) (nI (o + 1)) 1 G4))) else (if nI (W w) = 0 then f_M_expr_b337 NF (fun a b c h => f_M_expr_l21 NF (f_M_expr_b53 NF) (f_M_expr_b143 NF) (f_M_expr_b286 NF) (f_M_expr_b343 NF) (f_M_expr_b403 NF) u a b c h) (f_M_expr_b343 NF) (nI (o + 1)) 0 1 (nI (W w)) (41 : Int32) G4 else f_M_expr_b337 NF (fun a b c h => f_M_expr_l21 NF (f_M_expr_b53 NF) (f_M_expr_b143 NF) (f_M_expr_b286 NF) (f_M_expr_b343 NF) (f_M_expr_b403 NF) u a b c h) (f_M_expr_b343 NF) (nI (o + 1)) 0 1 (nI (W w)) (93 : Int32) G4)) := by
  obtain ⟨p, cc, cm, cv, wt, zl, za, wa⟩ := es
  have a4 := p.a4
  have ez : zm + (z - zm) = z := by omega
  obtain ⟨G4, r1, r2, r3, r4, r5, r6⟩ := M_reduce (ls := 1) (by omega) (Or.inr (by rw [show w + 1 - 1 = w by omega, top]; omega)) (z - zm) NF zm G (NF_gt (by omega)) (by omega) (by omega) cm (by rw [ez]; exact cv) wt lg
  rw [ez] at r2
  refine ⟨G4, PS_e hs (xC.rf sp H) r4 (fun _ => rfl) (fun j hj => r5 j (by omega)) p, r2, r3, r4, ?_⟩
  have ej : jn (tT B n a) = -1 := by
    unfold jn
    rw [if_neg (st.2 (by omega)).1, if_neg (st.2 (by omega)).2, if_neg (st.1 (by omega)).1, if_neg (st.1 (by omega)).2]
  have ww := r3.2 w (by omega)
  show f_M_expr_c21 NF (f_M_expr_b53 NF) (f_M_expr_b143 NF) (f_M_expr_b286 NF) (f_M_expr_b343 NF) (f_M_expr_b403 NF) (f_M_expr_l21 NF (f_M_expr_b53 NF) (f_M_expr_b143 NF) (f_M_expr_b286 NF) (f_M_expr_b343 NF) (f_M_expr_b403 NF) u) (nI (o + 1)) 0 1 G = _
  unfold f_M_expr_c21 f_M_expr_b90
  rw [if_neg q_10, if_pos rfl, if_pos rfl, M_joinAt p.1 p.2.1 p.2.2.2.2.1, Option.bind_some, ej, if_pos q_n1, if_pos (show (0 : Int32) < nI (o + 1) from nI_lt (a := 0) (by omega) (by omega))]
  unfold f_M_reduce
  rw [show f_M_reduce_l0 NF NF 1 G = some G4 from r1, Option.bind_some, r3.1, nI_pred, if_pos (q_in (by omega) (by omega)), q_cl (by omega), ww.1]
theorem M_wrongs {B : Nat → Nat} {n sz a F : Nat} {H G : sh_H} (t : TK B n sz H G) (ha : a < sz) (hg : G.1 12 0 7 = nI a) : ∃ G', sh_b2 (f_M_wrong (nI F) G) (fun v27 h28 => some ((ai_nar 1 v27), h28)) = some (0, G') ∧ FA B n F a G' ∧ f12 G' G := by
  obtain ⟨G', g1, g2, g3⟩ := M_wrong (F := F) t ha hg
  exact ⟨G', by rw [g1, sh_b2_some, q_nar0], g2, g3⟩
/-- a nest's end: ) or ] -/
theorem X_close {B : Nat → Nat} {n sz lf lt sp a z w o u mk cs : Nat} {W A V : Nat → Nat} {H G : sh_H} (hs : sp < 2) (p : PS B n sz a lf lt H G) (hz : z < 400) (cm : CM z A V G) (wt : WT (w + 1) W G) (hcs : 40 ≤ cs ∧ cs < 100) (hmk : mk = 0 ∨ mk = 11 ∨ mk = 12) : (¬ tT B n a = cs ∧ ∃ G', f_M_expr_b337 NF (fun a b c h => f_M_expr_l21 NF (f_M_expr_b53 NF) (f_M_expr_b143 NF) (f_M_expr_b286 NF) (f_M_expr_b343 NF) (f_M_expr_b403 NF) u a b c h) (f_M_expr_b343 NF) (nI (o + 1)) 0 1 (nI mk) (nI cs) G = some (0, G') ∧ FA B n 1 a G' ∧ f12 G' G) ∨ (tT B n a = cs ∧ ∃ G5, PS B n sz a lf lt H G5 ∧ (mk = 0 → CM z A V G5) ∧ (mk = 11 → CM (z + 1) (up0 A z 6) (up0 V z 0) G5) ∧ (mk = 12 → CM (z + 1) (up0 A z 7) (up0 V z 0) G5) ∧ WT w W G5 ∧ xM G5 G ∧ f_M_expr_b337 NF (fun a b c h => f_M_expr_l21 NF (f_M_expr_b53 NF) (f_M_expr_b143 NF) (f_M_expr_b286 NF) (f_M_expr_b343 NF) (f_M_expr_b403 NF) u a b c h) (f_M_expr_b343 NF) (nI (o + 1)) 0 1 (nI mk) (nI cs) G = sh_b2 (f_M_pass G5) (fun v h => if v = 0 then some (0, h) else xL u o 0 h)) := by
  have isg := M_isSign (c := cs) (s := cs) p.1 p.2.1 p.2.2.2.2.1 (Or.inl ⟨rfl, hcs.1, hcs.2⟩)
  have eo : nI (o + 1) + (-1) = nI o := by rw [← Int32.sub_eq_add_neg, nI_pred]
  unfold f_M_expr_b337 f_M_expr_b382 f_M_expr_b386
  rw [isg, Option.bind_some]
  by_cases c : tT B n a = cs
  · refine Or.inr ⟨c, ?_⟩
    rw [if_pos c, if_neg q_10, wt.1, nI_pred, sh_let, eo, q_nar0]
    have x1 : f12 (sh_pI G 12 0 20 (nI w)) G := (f12.rf G).pI (by omega)
    have p1 : PS B n sz a lf lt H (sh_pI G 12 0 20 (nI w)) := PS_f12 p x1 (fun j hj => pI_ne (by omega))
    have w1 : WT w W (sh_pI G 12 0 20 (nI w)) := ⟨pI_at _ _ _ _ _, fun i hi => ⟨(pI_ne (by omega)).trans (wt.2 i (by omega)).1, (wt.2 i (by omega)).2⟩⟩
    have c1 : CM z A V (sh_pI G 12 0 20 (nI w)) := CM_f x1 cm
    have em : ∀ ov, ∃ G5, f_M_emit (nI ov) 0 (sh_pI G 12 0 20 (nI w)) = some G5 ∧ CM (z + 1) (up0 A z ov) (up0 V z 0) G5 ∧ PS B n sz a lf lt H G5 ∧ WT w W G5 ∧ xM G5 G := by
      intro ov
      obtain ⟨G5, q1, q2, q3, q4, q5⟩ := M_emit (o := ov) (v := 0) hz c1
      exact ⟨G5, q1, q2, PS_e hs (xC.rf sp H) q3 (fun _ => rfl) (fun j _ => q4 0 j) p1, WT_to (q4 0 20) q5 w1, q3.tr x1.E⟩
    rcases hmk with rfl | rfl | rfl
    · rw [if_neg (show ¬ (0 : Int32) < nI 0 by decide)]
      exact ⟨_, p1, fun _ => c1, fun z => by omega, fun z => by omega, w1, x1.E, rfl⟩
    · obtain ⟨G5, q1, q2, q3, q4, q5⟩ := em 6
      rw [if_pos (show (0 : Int32) < nI 11 by decide), if_pos (show nI 11 = 11 from rfl), show f_M_emit 6 0 (sh_pI G 12 0 20 (nI w)) = some G5 from q1, Option.bind_some]
      exact ⟨G5, q3, fun z => by omega, fun _ => q2, fun z => by omega, q4, q5, rfl⟩
    · obtain ⟨G5, q1, q2, q3, q4, q5⟩ := em 7
      rw [if_pos (show (0 : Int32) < nI 12 by decide), if_neg (show ¬ nI 12 = 11 by decide), show f_M_emit 7 0 (sh_pI G 12 0 20 (nI w)) = some G5 from q1, Option.bind_some]
      exact ⟨G5, q3, fun z => by omega, fun z => by omega, fun _ => q2, q4, q5, rfl⟩
  · obtain ⟨G', g1, g2, g3⟩ := M_wrongs (F := 1) p.1 p.2.1 p.2.2.2.2.1
    refine Or.inl ⟨c, G', ?_, g2, g3⟩
    rw [if_neg c, if_pos rfl]
    unfold f_M_expr_b343
    exact g1
