/-! PAIR: read: a name that is told ahead -/
theorem upf_0 (k : Nat) : upf 0 k = k := rfl
theorem upf_n {lf k : Nat} (h : lf ≠ 0) : upf lf k = lf := if_neg h
theorem upt_n {lf lt x : Nat} (h : lf ≠ 0) : upt lf lt x = lt := if_neg h
theorem l14_6 {t : Nat} (ht : t < 2) : sh_l14 (1 + t) ≤ 6 := by
  rcases (show t = 0 ∨ t = 1 by omega) with rfl | rfl
  · rw [l14_n.1]; omega
  · rw [l14_n.2]; omega
theorem S_told {B : Nat → Nat} {n sz a lf lt t N0 N1 : Nat} {H G : sh_H} (p : PS B n sz a lf lt H G) (ht : t < 2) (n6 : N0 ≤ 6) (n4 : N1 ≤ 4) (hnn : G.1 12 0 15 = nI (N0 + N1)) (nr : lf = 0 → NR B n N0 N1 H G) : (∃ c H' G', Option.bind (f_Tokens_valueOf (H.1 5 0 3) H) (fun v1 => Option.bind (f_Reader_indexOf NF (1 + t) v1 H) (fun v2 => f_Reader_nameTold v2 H)) = some (c, H') ∧ f_M_takesName NF (nI t) G = some (1, G') ∧ f5 H' H ∧ f12 G' G ∧ ((lf = 0 ∧ PS B n sz (a + 1) lf lt H' G' ∧ ∃ r, r < NN t N0 N1 ∧ c = nI r ∧ G'.1 12 0 19 = nI r) ∨ (∃ lf' lt', lf' ≠ 0 ∧ PS B n sz (a + 1) lf' lt' H' G'))) ∨ FV B n sz H G (Option.bind (f_Tokens_valueOf (H.1 5 0 3) H) (fun v1 => Option.bind (f_Reader_indexOf NF (1 + t) v1 H) (fun v2 => f_Reader_nameTold v2 H))) (f_M_takesName NF (nI t) G) := by
  have tk := p.1
  have ha := p.2.1
  have h3 := p.2.2.1
  have h4 := p.2.2.2.1
  have g7 := p.2.2.2.2.1
  have a4 := p.a4
  rw [h3, C_val tk ha, Option.bind_some, C_indexOf (l14_6 ht), Option.bind_some]
  generalize ev : ixr (H.2.1 14 (1 + t)) (H.2.1 14 0 a) (sh_l14 (1 + t)) 0 = c
  -- the class: a later fault, or none
  have cx : ∃ H1, f_Reader_nameTold c H = Option.bind (f_Reader_expect 20 H1) (fun h1 => some (c, h1)) ∧ f5 H1 H ∧ H1.1 5 0 3 = nI a ∧ H1.1 5 0 4 = 0 ∧ (¬ c = -1 → CL lf lt H1) ∧ (c = -1 → CL (upf lf 4) (upt lf lt a) H1) := by
    obtain ⟨H', e1, e2, e3, e4⟩ := C_later (k := 4) (x := a) p.cl (by omega)
    unfold f_Reader_nameTold f_Reader_nameTold_b14
    rw [h3]
    by_cases d : c = -1
    · rw [if_pos d, show f_Reader_failLater 4 (nI a) H = some H' from e1, Option.bind_some]
      exact ⟨H', rfl, f5_of e3 e4, (e3 _ _ _ (by omega)).trans h3, (e3 _ _ _ (by omega)).trans h4, fun z => absurd d z, fun _ => e2⟩
    · rw [if_neg d]
      exact ⟨H, rfl, f5.rf H, h3, h4, fun _ => p.cl, fun z => absurd z d⟩
  obtain ⟨H1, x1, x2, x3, x4, x5, x6⟩ := cx
  rw [x1]
  have t1 : TK B n sz H1 G := TK_f x2 (f12.rf G) tk
  unfold f_M_takesName
  by_cases s : tT B n a = 20
  · have gg : tG B n a := ⟨by omega, by omega⟩
    rw [show (20 : Int32) = nI 20 from rfl, C_exp_y t1 ha x3 s]
    have ty := M_take_y (s := 20) (m := 0) tk ha g7 (Or.inl ⟨rfl, rfl⟩) s
    by_cases a400 : a < 400
    · have su := sz_up tk ha gg a400
      have f2 : f12 (sh_pI (sh_pI G 12 0 7 (nI (a + 1))) 12 0 19 (-1)) G := ((f12.rf G).pI (by omega)).pI (by omega)
      rw [C_acc x3 x4 a400, Option.bind_some, show f_M_takes 0 G = f_M_pass G from ty, M_pas g7 a400, sh_b2_some, if_neg q_10, sh_let, g7, show (sh_pI (sh_pI G 12 0 7 (nI (a + 1))) 12 0 19 (-1)).1 12 0 15 = nI (N0 + N1) from ((pI_ne (by omega)).trans (pI_ne (by omega))).trans hnn]
      have lp := M_tn (t := t) (a := a) (by omega) (f_M_takesName_b73 NF) (N0 + N1) NF (sh_pI (sh_pI G 12 0 7 (nI (a + 1))) 12 0 19 (-1)) (-1) (by omega) (NF_gt (by omega)) (pI_at _ _ _ _ _)
      rw [lp, tnv_pI, tnv_pI, pI_pI]
      generalize ew : tnv G t a (N0 + N1) (-1) = w
      have f3 : f12 (sh_pI (sh_pI G 12 0 7 (nI (a + 1))) 12 0 19 w) G := ((f12.rf G).pI (by omega)).pI (by omega)
      have t3 : TK B n sz (sh_pI H1 5 0 3 (nI (a + 1))) (sh_pI (sh_pI G 12 0 7 (nI (a + 1))) 12 0 19 w) := TK_f x2.pI f3 tk
      have m3 : ML2 B n lf lt (sh_pI (sh_pI G 12 0 7 (nI (a + 1))) 12 0 19 w) := ML2_to (fun j hj => (pI_ne (by omega)).trans (pI_ne (by omega))) p.ml
      have g73 : (sh_pI (sh_pI G 12 0 7 (nI (a + 1))) 12 0 19 w).1 12 0 7 = nI (a + 1) := (pI_ne (by omega)).trans (pI_at _ _ _ _ _)
      have w3 : (sh_pI (sh_pI G 12 0 7 (nI (a + 1))) 12 0 19 w).1 12 0 19 = w := pI_at _ _ _ _ _
      have h33 : (sh_pI H1 5 0 3 (nI (a + 1))).1 5 0 3 = nI (a + 1) := pI_at _ _ _ _ _
      have h43 : (sh_pI H1 5 0 3 (nI (a + 1))).1 5 0 4 = 0 := (pI_ne (by omega)).trans x4
      generalize sh_pI (sh_pI G 12 0 7 (nI (a + 1))) 12 0 19 w = G3 at *
      have cl3 : ∀ {x y : Nat}, CL x y H1 → CL x y (sh_pI H1 5 0 3 (nI (a + 1))) := fun q => CL_to (fun j hj => pI_ne (by omega)) q
      have f53 : f5 (sh_pI H1 5 0 3 (nI (a + 1))) H := x2.pI
      generalize sh_pI H1 5 0 3 (nI (a + 1)) = H3 at *
      obtain ⟨G4, y1, y2, y3, y4⟩ := M_tells (k := 4) t3 ha m3 (by omega) (fun z => Or.inl (p.lt z))
      have y1' : f_M_tells 4 (nI a) G3 = some G4 := y1
      have f4 : f12 G4 G := (f12_of y3 y4).tr f3
      have upl : upf lf 4 ≠ 0 → upt lf lt a < a + 1 := fun _ => by
        unfold upt
        split
        · omega
        · rename_i z; have := p.lt z; omega
      unfold f_M_takesName_b73
      rw [w3]
      -- the model's tells, or none: when the class has it too, or when it makes no difference
      have fin1 : ∀ (lf1 lt1 lf2 lt2 : Nat), CL lf1 lt1 H3 → ((w < 0 → lf2 = upf lf 4 ∧ lt2 = upt lf lt a) ∧ (¬ w < 0 → lf2 = lf ∧ lt2 = lt)) → lf1 = lf2 → lt1 = lt2 → (lf1 ≠ 0 → lt1 < a + 1) → ∃ G', (if w < 0 then Option.bind (f_M_tells 4 (nI a) G3) (fun h2 => some (ai_nar 1 1, h2)) else some (ai_nar 1 1, G3)) = some (1, G') ∧ f12 G' G ∧ PS B n sz (a + 1) lf1 lt1 H3 G' ∧ G'.1 12 0 19 = w := by
        intro lf1 lt1 lf2 lt2 cl1 ⟨q1, q2⟩ q3 q4 q5
        by_cases wn : w < 0
        · rw [if_pos wn, y1', Option.bind_some, q_nar1]
          obtain ⟨q6, q7⟩ := q1 wn
          refine ⟨G4, rfl, f4, PS_mk (TK_f (f5.rf _) (f12_of y3 y4) t3) su h33 h43 ((y3 _ _ _ (by omega)).trans g73) cl1 ?_ q5, (y3 _ _ _ (by omega)).trans w3⟩
          rw [q3, q4, q6, q7]; exact y2
        · rw [if_neg wn, q_nar1]
          obtain ⟨q6, q7⟩ := q2 wn
          refine ⟨G3, rfl, f3, PS_mk t3 su h33 h43 g73 cl1 ?_ q5, w3⟩
          rw [q3, q4, q6, q7]; exact m3
      by_cases l0 : lf = 0
      · have vx : H.2.1 14 0 a = lN (tX B n a) := (tk.2.2.2.2.1 a ha).2.2.1 s
        have vy : G.2.1 14 5 a = lN (tY B n a) := (tk.2.2.2.2.2.1 a ha).2.2.2.2.2 s
        rw [vx] at ev
        rcases NR_find (nr l0) n6 n4 s ht vy with ⟨r, k, r1, r2, r3, r4, r5⟩ | ⟨r1, r2⟩
        · have nnl : NN t N0 N1 ≤ 6 := by unfold NN; split <;> omega
          have ec : c = nI r := ev.symm.trans r3
          have ewr : w = nI r := ew.symm.trans ((tnv_hit r2 r4).trans r5)
          have wn : ¬ w < 0 := by rw [ewr]; exact nI_pos (by omega)
          have cn : ¬ c = -1 := by
            intro z
            exact nI_pos (n := r) (by omega) (by rw [← ec, z]; decide)
          obtain ⟨G', z1, z2, z3, z4⟩ := fin1 lf lt lf lt (cl3 (x5 cn)) ⟨fun z => absurd z wn, fun _ => ⟨rfl, rfl⟩⟩ rfl rfl (fun z => by have := p.lt z; omega)
          exact Or.inl ⟨c, H3, G', rfl, z1, f53, z2, Or.inl ⟨l0, z3, r, r1, ec, z4.trans ewr⟩⟩
        · have ec : c = -1 := ev.symm.trans r1
          have ewr : w = -1 := ew.symm.trans (tnv_miss r2)
          have wn : w < 0 := by rw [ewr]; decide
          obtain ⟨G', z1, z2, z3, z4⟩ := fin1 (upf lf 4) (upt lf lt a) (upf lf 4) (upt lf lt a) (cl3 (x6 ec)) ⟨fun _ => ⟨rfl, rfl⟩, fun z => absurd wn z⟩ rfl rfl upl
          exact Or.inl ⟨c, H3, G', rfl, z1, f53, z2, Or.inr ⟨upf lf 4, upt lf lt a, by rw [l0]; decide, z3⟩⟩
      · have cl1 : CL lf lt H3 := by
          by_cases cn : c = -1
          · have := x6 cn
            rw [upf_n l0, upt_n l0] at this
            exact cl3 this
          · exact cl3 (x5 cn)
        obtain ⟨G', z1, z2, z3, z4⟩ := fin1 lf lt lf lt cl1 ⟨fun _ => ⟨(upf_n l0).symm, (upt_n l0).symm⟩, fun _ => ⟨rfl, rfl⟩⟩ rfl rfl (fun z => by have := p.lt z; omega)
        exact Or.inl ⟨c, H3, G', rfl, z1, f53, z2, Or.inr ⟨lf, lt, l0, z3⟩⟩
    · obtain rfl : a = 400 := by omega
      obtain ⟨H2, y1, y2, y3⟩ := C_acc4 x3 x4
      obtain ⟨G2, z1, z2, z3⟩ := M_pas4 tk ha g7
      rw [y1, Option.bind_some, show f_M_takes 0 G = f_M_pass G from ty, z1, sh_b2_some, if_pos rfl, q_nar0]
      exact Or.inr ⟨2, 400, c, H2, G2, rfl, rfl, ha, y2, z2, y3.tr x2, z3⟩
  · obtain ⟨H', r1, r2, r3⟩ := C_exp_n (s := 20) t1 ha x3 x4 (by omega) s
    obtain ⟨G', g1, g2, g3⟩ := M_take_n (s := 20) (m := 0) tk ha g7 (Or.inl ⟨rfl, rfl⟩) s
    rw [show f_Reader_expect 20 H1 = some H' from r1, Option.bind_some, show f_M_takes 0 G = some (0, G') from g1, sh_b2_some, if_pos rfl, q_nar0]
    exact Or.inr ⟨1, a, c, H', G', rfl, rfl, ha, r2, g2, r3.tr x2, g3⟩
