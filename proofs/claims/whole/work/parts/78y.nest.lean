/-! PAIR: read: formulas: nests -/
theorem D_b97 {F T : Nat} {H : sh_H} (d : DE F T H) (x : Int32) : f_Reader_nest_b97 NF x H = some H := by
  unfold f_Reader_nest_b97 f_Reader_nest_b109
  rw [D_expect d, D_expect d, Option.bind_some, ite_self]
theorem D_b72 {F T sp : Nat} {H : sh_H} (d : DE F T H) (gs : Nat → Int32 → sh_H → Option sh_H) (x y z w : Int32) : f_Reader_nest_b72 NF gs sp x y z w H = some H := by
  unfold f_Reader_nest_b72
  rw [D_expect d, Option.bind_some, if_neg d.ne, D_b97 d]
theorem l13_49 : sh_l13 49 = 500 := by decide
theorem X_nest {B : Nat → Nat} {n sz lf lt sp o a z w e u : Nat} {W A V : Nat → Nat} {H G : sh_H} (hs : sp < 2) {gs : Nat → Int32 → sh_H → Option sh_H} (ho : o ≤ 6) (hgs : o < 6 → CU B n sz lf lt sp 1 gs (o + 1)) (es : ES B n sz lf lt sp a z z w W A V H G) (tk : tT B n a = 40 ∨ tT B n a = 91) (he : e ≤ 3 * o + 2) (hu : 500 ≤ u + a) : XR B n sz lf lt sp 3 o a z w e u W A V H G (Option.bind (F_Reader_nest NF gs sp (nI o) H) (fun h1 => some h1)) (xL u o 1 G) := by
  have p := es.1
  have a4 := p.a4
  have cc := es.2.1
  have cm := es.2.2.1
  have cv := es.2.2.2.1
  have wt := es.2.2.2.2.1
  have za := es.2.2.2.2.2.2.1
  have wa := es.2.2.2.2.2.2.2
  rw [Nat.sub_self, Nat.add_zero] at wt wa
  obtain ⟨u', rfl⟩ : ∃ m, u = m + 1 := ⟨u - 1, by omega⟩
  have s40 : f_M_isSign 40 G = some (if tT B n a = 40 then 1 else 0) := M_isSign (c := 40) (s := 40) p.1 p.2.1 p.2.2.2.2.1 (by omega)
  have s91 : f_M_isSign 91 G = some (if tT B n a = 91 then 1 else 0) := M_isSign (c := 91) (s := 91) p.1 p.2.1 p.2.2.2.2.1 (by omega)
  have ml : xL (u' + 1) o 1 G = f_M_expr_b47 NF (fun a b c h => f_M_expr_l21 NF (f_M_expr_b53 NF) (f_M_expr_b143 NF) (f_M_expr_b286 NF) (f_M_expr_b343 NF) (f_M_expr_b403 NF) u' a b c h) (f_M_expr_b53 NF) (nI o) 1 1 G := by
    show f_M_expr_c21 NF (f_M_expr_b53 NF) (f_M_expr_b143 NF) (f_M_expr_b286 NF) (f_M_expr_b343 NF) (f_M_expr_b403 NF) (f_M_expr_l21 NF (f_M_expr_b53 NF) (f_M_expr_b143 NF) (f_M_expr_b286 NF) (f_M_expr_b343 NF) (f_M_expr_b403 NF) u') (nI o) 1 1 G = _
    unfold f_M_expr_c21
    rw [if_neg q_10, if_neg q_10, s40, Option.bind_some]
    by_cases c : tT B n a = 40
    · rw [if_pos c, if_neg q_10]
    · rw [if_neg c, if_pos rfl, s91, Option.bind_some, if_pos (tk.resolve_left c), if_neg q_10]
  rw [ml]
  unfold F_Reader_nest f_M_expr_b47
  by_cases o6 : o = 6
  · obtain ⟨H1, c1, c2, c3⟩ := C_fail (F := 2) p (Or.inr rfl)
    obtain ⟨G1, g1, g2, g3⟩ := M_wrongs (F := 2) p.1 p.2.1 p.2.2.2.2.1
    rw [o6, if_neg (show ¬ nI 6 < (6 : Int32) by decide), show f_Reader_fail 2 H = some H1 from c1, if_pos (show nI 6 = 6 from rfl)]
    unfold f_M_expr_b53
    rw [show sh_b2 (f_M_wrong 2 G) (fun v27 h28 => some ((ai_nar 1 v27), h28)) = some (0, G1) from g1]
    exact Or.inr ⟨2, a, H1, G1, rfl, rfl, p.2.1, c2, g2, c3.E, g3.E⟩
  have o5 : o < 6 := by omega
  have cu := hgs o5
  -- the mark
  obtain ⟨mk, fl, hmk, hfl, m1, m2⟩ : ∃ mk fl : Nat, ((tT B n a = 40 ∧ mk = 0 ∧ fl = 0) ∨ (tT B n a = 91 ∧ mk = 10 ∧ fl = 1)) ∧ rk mk = 0 ∧ (if nI o = 6 then f_M_expr_b53 NF G else Option.bind (f_M_isSign 40 G) (fun v4 => if v4 = 0 then f_M_expr_b75 NF (fun a b c h => f_M_expr_l21 NF (f_M_expr_b53 NF) (f_M_expr_b143 NF) (f_M_expr_b286 NF) (f_M_expr_b343 NF) (f_M_expr_b403 NF) u' a b c h) (nI o) 1 1 10 G else f_M_expr_b75 NF (fun a b c h => f_M_expr_l21 NF (f_M_expr_b53 NF) (f_M_expr_b143 NF) (f_M_expr_b286 NF) (f_M_expr_b343 NF) (f_M_expr_b403 NF) u' a b c h) (nI o) 1 1 0 G)) = f_M_expr_b75 NF (fun a b c h => f_M_expr_l21 NF (f_M_expr_b53 NF) (f_M_expr_b143 NF) (f_M_expr_b286 NF) (f_M_expr_b343 NF) (f_M_expr_b403 NF) u' a b c h) (nI o) 1 1 (nI mk) G ∧ (if nI o < (6 : Int32) then (Option.bind (f_Reader_upcoming H) (fun v8 => (if v8 = (91 : Int32) then f_Reader_nest_b26 NF gs sp (nI o) (1 : Int32) H else f_Reader_nest_b26 NF gs sp (nI o) (0 : Int32) H))) else (Option.bind (f_Reader_fail (2 : Int32) H) (fun h9 => (some h9)))) = f_Reader_nest_b26 NF gs sp (nI o) (nI fl) H := by
    rw [if_neg (show ¬ nI o = 6 from nI_ne (b := 6) o6 (by omega) (by omega)), s40, Option.bind_some, if_pos (show nI o < (6 : Int32) from nI_lt (b := 6) o5 (by omega)), C_up p, Option.bind_some]
    rcases tk with t | t
    · refine ⟨0, 0, Or.inl ⟨t, rfl, rfl⟩, rfl, ?_, ?_⟩
      · rw [if_pos t, if_neg q_10]; rfl
      · rw [t, if_neg (show ¬ nI 40 = 91 by decide)]; rfl
    · refine ⟨10, 1, Or.inr ⟨t, rfl, rfl⟩, rfl, ?_, ?_⟩
      · rw [if_neg (show ¬ tT B n a = 40 by omega), if_pos rfl]; rfl
      · rw [t, if_pos (show nI 91 = 91 from rfl)]; rfl
  rw [m1, m2]
  unfold f_M_expr_b75 f_Reader_nest_b26
  have mk13 : mk < 13 := by omega
  obtain ⟨G1, q1, q2, q3, q4, q5⟩ := M_await (o := mk) (by omega) mk13 wt
  have p1 : PS B n sz a lf lt H G1 := PS_e hs (xC.rf sp H) q3 (fun _ => rfl) (fun j hj => q4 j (by omega)) p
  rw [q1, Option.bind_some, nI_1]
  rcases S_pass20 p1 ⟨by omega, by omega⟩ with ⟨H2, G2, y1, y2, y3, y4, y5, y6⟩ | ⟨F, T, H2, G2, y1, y2, y3, y4, y5, y6, y7⟩
  · rw [y1, y2, Option.bind_some, sh_b2_some, if_neg q_10, if_pos y3.2.2.2.1]
    have es2 : ES B n sz lf lt sp (a + 1) z z (w + 1) (up0 W w mk) A V H2 G2 := PS_acc y3 y4 y5 cc (CM_to q5 cm) cv q2 (y6 20 (by omega)) (by omega) (by omega)
    have rr := cu (a + 1) z (w + 1) e u' (up0 W w mk) A V H2 G2 es2 (Or.inr (by rw [show w + 1 - 1 = w by omega, up0_y]; omega)) (by omega) (by omega)
    show XR B n sz lf lt sp 3 o a z w e (u' + 1) W A V H G _ (xL u' (o + 1) 1 G2)
    rcases rr with ⟨a', z', zm', u2, W', A', V', H', G', r1, r2, r3, r4, r5, r6⟩ | ⟨F, T, H', G', r1, r2, r3, r4, r5, r6, r7⟩
    · obtain ⟨t1, t2, t3, t4, t5, t6, t7, t8, t9⟩ := r6
      have s1' := r3.1
      have a4' := s1'.a4
      have s2' := r3.2.1
      have s4' := r3.2.2.2.1
      have za' := r3.2.2.2.2.2.2.1
      have wa' := r3.2.2.2.2.2.2.2
      have zl' := r3.2.2.2.2.2.1
      have ew : W' w = mk := by rw [t1 w (by omega), up0_y]
      obtain ⟨u3, rfl⟩ : ∃ m, u2 = m + 1 := ⟨u2 - 1, by omega⟩
      obtain ⟨G4, f1, f2, f3, f4, f5'⟩ := M_flush (u := u3) hs (by omega) r3 r4 r5 (by rw [ew]; exact hfl)
      rw [r1, Option.bind_some, r2, f5', ew]
      have xC2 : xC sp H' H := t8.tr y4.E
      have xM4 : xM G4 G := f4.tr (t9.tr ((y5.E).tr q3))
      rcases hmk with ⟨c, rfl, rfl⟩ | ⟨c, rfl, rfl⟩
      · -- ( )
        rw [if_neg (show ¬ nI 0 = 10 by decide), if_pos (show nI 0 = 0 from rfl), if_pos (show nI 0 = 0 from rfl)]
        have b97 : f_Reader_nest_b97 NF (nI 0) H' = Option.bind (f_Reader_expect (nI 41) H') (fun h1 => some h1) := rfl
        rw [b97]
        rcases X_close (o := o) (u := u3) (cs := 41) (mk := 0) hs f1 (by omega) f2 f3 (by omega) (Or.inl rfl) with ⟨k1, G5, k2, k3, k4⟩ | ⟨k1, G5, k2, k3, -, -, k4, k5, k6⟩
        · obtain ⟨H3, e1, e2, e3⟩ := C_expect_n (s := 41) f1 (by omega) k1
          rw [e1, Option.bind_some, Option.bind_some, show f_M_expr_b337 NF (fun a b c h => f_M_expr_l21 NF (f_M_expr_b53 NF) (f_M_expr_b143 NF) (f_M_expr_b286 NF) (f_M_expr_b343 NF) (f_M_expr_b403 NF) u3 a b c h) (f_M_expr_b343 NF) (nI (o + 1)) 0 1 (nI 0) 41 G4 = some (0, G5) from k2]
          exact Or.inr ⟨1, a', H3, G5, rfl, rfl, f1.2.1, e2, k3, (e3.E).tr xC2, (k4.E).tr xM4⟩
        · rw [C_expect_y k2 k1, show f_M_expr_b337 NF (fun a b c h => f_M_expr_l21 NF (f_M_expr_b53 NF) (f_M_expr_b143 NF) (f_M_expr_b286 NF) (f_M_expr_b343 NF) (f_M_expr_b403 NF) u3 a b c h) (f_M_expr_b343 NF) (nI (o + 1)) 0 1 (nI 0) 41 G4 = _ from k6]
          rcases S_pass20 k2 ⟨by omega, by omega⟩ with ⟨H6, G6, v1, v2, v3, v4, v5, v6⟩ | ⟨F, T, H6, G6, v1, v2, v3, v4, v5, v6, v7⟩
          · rw [v1, v2, Option.bind_some, Option.bind_some, sh_b2_some, if_neg q_10]
            refine Or.inl ⟨a' + 1, z', z', u3, W', A', V', H6, G6, rfl, rfl, PS_acc v3 v4 v5 s2' (k3 rfl) s4' k4 (v6 20 (by omega)) (by omega) (by omega), LG_0, xst_3 _, AC_1 (fun i hi => by rw [t1 i (by omega), up0_n (by omega)]) (by omega) (by omega) (by omega) t5 t6 t7 ((v4.E).tr xC2) ((v5.E).tr (k5.tr xM4))⟩
          · rw [v1, v2, Option.bind_some, Option.bind_some, sh_b2_some, if_pos rfl]
            exact Or.inr ⟨F, T, H6, G6, rfl, rfl, v3, v4, v5, (v6.E).tr xC2, (v7.E).tr (k5.tr xM4)⟩
      · -- [ < ] or [ == ]
        rw [if_pos (show nI 10 = 10 from rfl), if_neg (show ¬ nI 1 = 0 by decide), C_up s1', Option.bind_some]
        have tl' := tT_lt B n a'
        have s60 : f_M_isSign 60 G4 = some (if tT B n a' = 60 then 1 else 0) := M_isSign (c := 60) (s := 60) f1.1 f1.2.1 f1.2.2.2.2.1 (by omega)
        have s22 : f_M_isSign 300 G4 = some (if tT B n a' = 22 then 1 else 0) := M_isSign (c := 300) (s := 22) f1.1 f1.2.1 f1.2.2.2.2.1 (by omega)
        by_cases cmp : tT B n a' = 60 ∨ tT B n a' = 22
        · obtain ⟨wk, so, hwk, hso, hso2, n1, n2⟩ : ∃ wk so : Nat, ((wk = 11 ∧ so = 6) ∨ (wk = 12 ∧ so = 7)) ∧ fsg so = tT B n a' ∧ rk wk = 0 ∧ (Option.bind (f_M_isSign (60 : Int32) G4) (fun v17 => (if v17 = 0 then (Option.bind (f_M_isSign (300 : Int32) G4) (fun v18 => (if v18 = 0 then f_M_expr_b286 NF G4 else f_M_expr_b292 NF (fun a b c h => f_M_expr_l21 NF (f_M_expr_b53 NF) (f_M_expr_b143 NF) (f_M_expr_b286 NF) (f_M_expr_b343 NF) (f_M_expr_b403 NF) u3 a b c h) (nI (o + 1)) 1 G4))) else f_M_expr_b292 NF (fun a b c h => f_M_expr_l21 NF (f_M_expr_b53 NF) (f_M_expr_b143 NF) (f_M_expr_b286 NF) (f_M_expr_b343 NF) (f_M_expr_b403 NF) u3 a b c h) (nI (o + 1)) 1 G4))) = sh_b2 (f_M_pass (sh_pI G4 13 49 w (nI wk))) (fun v h => if v = 0 then some (0, h) else xL u3 (o + 1) 1 h) ∧ (if nI (tT B n a') = (22 : Int32) then f_Reader_nest_b72 NF gs sp (nI o) (nI 1) (nI (tT B n a')) (22 : Int32) H' else f_Reader_nest_b72 NF gs sp (nI o) (nI 1) (nI (tT B n a')) (60 : Int32) H') = f_Reader_nest_b72 NF gs sp (nI o) (nI 1) (nI (tT B n a')) (nI (tT B n a')) H' := by
            have b318 : ∀ wk : Nat, f_M_expr_b318 NF (fun a b c h => f_M_expr_l21 NF (f_M_expr_b53 NF) (f_M_expr_b143 NF) (f_M_expr_b286 NF) (f_M_expr_b343 NF) (f_M_expr_b403 NF) u3 a b c h) (nI (o + 1)) 1 49 (G4.1 12 0 20 - 1) (nI wk) G4 = sh_b2 (f_M_pass (sh_pI G4 13 49 w (nI wk))) (fun v h => if v = 0 then some (0, h) else xL u3 (o + 1) 1 h) := by
              intro wk
              unfold f_M_expr_b318 f_M_expr_b386
              rw [f3.1, nI_pred, l13_49, if_pos (q_in (by omega) (by omega)), q_cl (by omega), sh_let, q_nar0]
              rfl
            rw [s60, Option.bind_some, s22, Option.bind_some]
            by_cases c6 : tT B n a' = 60
            · refine ⟨11, 6, Or.inl ⟨rfl, rfl⟩, c6.symm, rfl, ?_, ?_⟩
              · rw [if_pos c6, if_neg q_10]
                unfold f_M_expr_b292
                rw [s60, Option.bind_some, if_pos c6, if_neg q_10]
                exact b318 11
              · rw [c6, if_neg (show ¬ nI 60 = 22 by decide)]; rfl
            · have c2 : tT B n a' = 22 := cmp.resolve_left c6
              refine ⟨12, 7, Or.inr ⟨rfl, rfl⟩, c2.symm, rfl, ?_, ?_⟩
              · rw [if_neg c6, if_pos rfl, if_pos c2, if_neg q_10]
                unfold f_M_expr_b292
                rw [s60, Option.bind_some, if_neg c6, if_pos rfl]
                exact b318 12
              · rw [c2, if_pos (show nI 22 = 22 from rfl)]; rfl
          rw [n1, n2]
          unfold f_Reader_nest_b72
          have x5 : xM (sh_pI G4 13 49 w (nI wk)) G4 := ⟨fun c i j h1 h2 h3 => pI_ne (by omega), rfl⟩
          have p5 : PS B n sz a' lf lt H' (sh_pI G4 13 49 w (nI wk)) := PS_e hs (xC.rf sp H') x5 (fun _ => rfl) (fun j hj => pI_ne (by omega)) f1
          have w5 : WT (w + 1) (up0 W' w wk) (sh_pI G4 13 49 w (nI wk)) := ⟨(pI_ne (by omega)).trans f3.1, fun i hi => by
            by_cases c : i = w
            · rw [c, pI_at, up0_y]; exact ⟨rfl, by omega⟩
            · rw [pI_ne (by omega), up0_n c]; exact f3.2 i hi⟩
          rw [C_expect_y p5 rfl]
          rcases S_pass20 p5 ⟨by omega, by omega⟩ with ⟨H6, G6, v1, v2, v3, v4, v5, v6⟩ | ⟨F, T, H6, G6, v1, v2, v3, v4, v5, v6, v7⟩
          · rw [v1, v2, Option.bind_some, sh_b2_some, if_neg q_10, if_pos v3.2.2.2.1, nI_1]
            have es6 : ES B n sz lf lt sp (a' + 1) z' z' (w + 1) (up0 W' w wk) A' V' H6 G6 := PS_acc v3 v4 v5 s2' (CM_to (fun j => pI_ne (by omega)) f2) s4' w5 (v6 20 (by omega)) (by omega) (by omega)
            rcases cu (a' + 1) z' (w + 1) (e + 1) u3 (up0 W' w wk) A' V' H6 G6 es6 (Or.inr (by rw [show w + 1 - 1 = w by omega, up0_y]; omega)) (by omega) (by omega) with ⟨a2, z2, zm2, u4, W2, A2, V2, H7, G7, h1, h2, h3, h4, h5, h6⟩ | ⟨F, T, H7, G7, h1, h2, h3, h4, h5, h6, h7⟩
            · obtain ⟨j1, j2, j3, j4, j5, j6, j7, j8, j9⟩ := h6
              have s7 := h3.1
              have a7 := s7.a4
              have za7 := h3.2.2.2.2.2.2.1
              have wa7 := h3.2.2.2.2.2.2.2
              have zl7 := h3.2.2.2.2.2.1
              have cv7 := h3.2.2.2.1
              have ew2 : W2 w = wk := by rw [j1 w (by omega), up0_y]
              obtain ⟨u5, rfl⟩ : ∃ m, u4 = m + 1 := ⟨u4 - 1, by omega⟩
              obtain ⟨G8, i1, i2, i3, i4, i5⟩ := M_flush (u := u5) hs (by omega) h3 h4 h5 (by rw [ew2]; exact hso2)
              obtain ⟨H8, d1, d2, d3, d4⟩ := C_add (o := so) (v := 0) hs (by omega) (nI (tT B n a')) 0 (by rw [← hso]; exact sgn_cst so (by omega) (by omega)) h3.2.1
              rw [h1, Option.bind_some, d1, Option.bind_some, h2, i5, ew2, if_neg (show ¬ nI wk = 10 from nI_ne (b := 10) (by omega) (by omega) (by omega)), if_neg (show ¬ nI wk = 0 from nI_ne (b := 0) (by omega) (by omega) (by omega))]
              have b97 : f_Reader_nest_b97 NF (nI 1) H8 = Option.bind (f_Reader_expect (nI 93) H8) (fun h1 => some h1) := by
                unfold f_Reader_nest_b97 f_Reader_nest_b109
                rw [if_neg (show ¬ nI 1 = 0 by decide)]
                rfl
              rw [b97]
              have p8 : PS B n sz a2 lf lt H8 G8 := PS_e hs d3 (xM.rf G8) d4 (fun _ _ => rfl) i1
              have xC8 : xC sp H8 H := d3.tr (j8.tr ((v4.E).tr xC2))
              have xM8 : xM G8 G := i4.tr (j9.tr ((v5.E).tr (x5.tr xM4)))
              have cm8 : CM z2 A2 V2 G8 := i2
              rcases X_close (o := o) (u := u5) (cs := 93) (mk := wk) hs p8 (by omega) cm8 i3 (by omega) (by omega) with ⟨k1, G9, k2, k3, k4⟩ | ⟨k1, G9, k2, -, k3, k3', k4, k5, k6⟩
              · obtain ⟨H9, e1, e2, e3⟩ := C_expect_n (s := 93) p8 (by omega) k1
                rw [e1, Option.bind_some, Option.bind_some, show f_M_expr_b337 NF (fun a b c h => f_M_expr_l21 NF (f_M_expr_b53 NF) (f_M_expr_b143 NF) (f_M_expr_b286 NF) (f_M_expr_b343 NF) (f_M_expr_b403 NF) u5 a b c h) (f_M_expr_b343 NF) (nI (o + 1)) 0 1 (nI wk) 93 G8 = some (0, G9) from k2]
                exact Or.inr ⟨1, a2, H9, G9, rfl, rfl, p8.2.1, e2, k3, (e3.E).tr xC8, (k4.E).tr xM8⟩
              · rw [C_expect_y k2 k1, show f_M_expr_b337 NF (fun a b c h => f_M_expr_l21 NF (f_M_expr_b53 NF) (f_M_expr_b143 NF) (f_M_expr_b286 NF) (f_M_expr_b343 NF) (f_M_expr_b403 NF) u5 a b c h) (f_M_expr_b343 NF) (nI (o + 1)) 0 1 (nI wk) 93 G8 = _ from k6]
                have cm9 : CM (z2 + 1) (up0 A2 z2 so) (up0 V2 z2 0) G9 := by
                  rcases hwk with ⟨w1, w2⟩ | ⟨w1, w2⟩
                  · rw [w2]; exact k3 w1
                  · rw [w2]; exact k3' w1
                have cv9 : CV (z2 + 1) (up0 A2 z2 so) (up0 V2 z2 0) := by
                  intro k hk
                  by_cases c : k = z2
                  · rw [c, up0_y, up0_y]; exact ⟨by omega, by omega, fun z => by omega, fun _ => rfl⟩
                  · rw [up0_n c, up0_n c]; exact cv7 k (by omega)
                rcases S_pass20 k2 ⟨by omega, by omega⟩ with ⟨Hx, Gx, b1, b2, b3, b4, b5, b6⟩ | ⟨F, T, Hx, Gx, b1, b2, b3, b4, b5, b6, b7⟩
                · rw [b1, b2, Option.bind_some, Option.bind_some, sh_b2_some, if_neg q_10]
                  refine Or.inl ⟨a2 + 1, z2 + 1, z2 + 1, u5, W2, _, _, Hx, Gx, rfl, rfl, PS_acc b3 b4 b5 d2 cm9 cv9 k4 (b6 20 (by omega)) (by omega) (by omega), LG_0, xst_3 _, AC_1 (fun i hi => by rw [j1 i (by omega), up0_n (by omega), t1 i (by omega), up0_n (by omega)]) (by omega) (by omega) (by omega) (by omega) (fun k hk => ?_) ?_ ((b4.E).tr xC8) ((b5.E).tr (k5.tr xM8))⟩
                  · rw [up0_n (show k ≠ z2 by omega), up0_n (show k ≠ z2 by omega)]
                    have g1 := j6 k (by omega)
                    have g2 := t6 k hk
                    exact ⟨g1.1.trans g2.1, g1.2.trans g2.2⟩
                  · refine DP_tr (z1 := z') (e1 := e + 1) t5 (by omega) (DP_cg (fun k k1 k2 => ?_) t7) (DP_tr (z1 := z2) (e1 := e + 1 + 1) j5 (by omega) (DP_cg (fun k k1 k2 => ?_) j7) (DP_op (by rw [up0_y]; omega) (by rw [up0_y]; omega)))
                    · rw [up0_n (by omega)]; exact (j6 k k2).1
                    · rw [up0_n (by omega)]
                · rw [b1, b2, Option.bind_some, Option.bind_some, sh_b2_some, if_pos rfl]
                  exact Or.inr ⟨F, T, Hx, Gx, rfl, rfl, b3, b4, b5, (b6.E).tr xC8, (b7.E).tr (k5.tr xM8)⟩
            · obtain ⟨H8, c1, c2, c3⟩ := add_tot sp hs (nI (tT B n a')) 0 H7
              have d8 : DE F T H8 := ⟨h4.1, (c3 4).trans h4.2.1, (c3 5).trans h4.2.2⟩
              rw [h1, Option.bind_some, c1, Option.bind_some, D_b97 d8, Option.bind_some, h2]
              exact Or.inr ⟨F, T, H8, G7, rfl, rfl, h3, d8, h5, c2.tr (h6.tr ((v4.E).tr xC2)), h7.tr ((v5.E).tr (x5.tr xM4))⟩
          · rw [v1, v2, Option.bind_some, sh_b2_some, if_pos rfl, if_neg v4.ne, D_b97 v4]
            exact Or.inr ⟨F, T, H6, G6, rfl, rfl, v3, v4, v5, (v6.E).tr xC2, (v7.E).tr (x5.tr xM4)⟩
        · obtain ⟨H3, e1, e2, e3⟩ := C_expect_n (s := 60) f1 (by omega) (fun z => cmp (Or.inl z))
          obtain ⟨G5, g1, g2, g3⟩ := M_wrongs (F := 1) f1.1 f1.2.1 f1.2.2.2.2.1
          rw [if_neg (show ¬ nI (tT B n a') = 22 from nI_ne (b := 22) (fun z => cmp (Or.inr z)) (by omega) (by omega)), s60, Option.bind_some, if_neg (fun z => cmp (Or.inl z)), if_pos rfl, s22, Option.bind_some, if_neg (fun z => cmp (Or.inr z)), if_pos rfl]
          unfold f_Reader_nest_b72 f_M_expr_b286
          rw [show f_Reader_expect 60 H' = some H3 from e1, Option.bind_some, if_neg e2.ne, D_b97 e2, Option.bind_some, show sh_b2 (f_M_wrong 1 G4) (fun v31 h32 => some ((ai_nar 1 v31), h32)) = some (0, G5) from g1]
          exact Or.inr ⟨1, a', H3, G5, rfl, rfl, f1.2.1, e2, g2, (e3.E).tr xC2, (g3.E).tr xM4⟩
    · rw [r1, Option.bind_some, r2]
      have dt : (if nI fl = 0 then f_Reader_nest_b97 NF (nI fl) H' else Option.bind (f_Reader_upcoming H') (fun v7 => if v7 = 22 then f_Reader_nest_b72 NF gs sp (nI o) (nI fl) v7 22 H' else f_Reader_nest_b72 NF gs sp (nI o) (nI fl) v7 60 H')) = some H' := by
        obtain ⟨v, hv⟩ := up_tot H'
        rw [D_b97 r4, hv, Option.bind_some, D_b72 r4, D_b72 r4, ite_self, ite_self]
      rw [dt]
      exact Or.inr ⟨F, T, H', G', rfl, rfl, r3, r4, r5, r6.tr y4.E, r7.tr ((y5.E).tr q3)⟩
  · rw [y1, y2, Option.bind_some, sh_b2_some, if_pos rfl, if_neg y4.ne, q_nar0]
    exact Or.inr ⟨F, T, H2, G2, rfl, rfl, y3, y4, y5, y6.E, (y7.E).tr q3⟩
