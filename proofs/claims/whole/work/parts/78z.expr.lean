/-! PAIR: read: formulas: the whole -/
theorem nI_m9 : ∀ x, x < 9 → nI x - 9 < 0 := by decide
theorem nI_p9 : ∀ x, x < 13 → 9 ≤ x → nI x - 9 = nI (x - 9) := by decide
theorem cst_v : ∀ v, v ≤ 9999 → (0 : Int32) <<< ((16 : Int32) &&& 31) ||| ((nI v) &&& 65535) = nI (cst 0 v) := by
  intro v hv
  rw [show (0 : Int32) <<< ((16 : Int32) &&& 31) = 0 by decide]
  rw [show nI v &&& 65535 = nI v from (cst_lo hv).2, Int32.zero_or]
  rfl
theorem X_unit {B : Nat → Nat} {n sz lf lt sp o : Nat} (hs : sp < 2) {gs : Nat → Int32 → sh_H → Option sh_H} (ho : o ≤ 6) (hgs : o < 6 → CU B n sz lf lt sp 1 gs (o + 1)) : CU B n sz lf lt sp 3 (F_Reader_unit NF (F_Reader_nest NF gs)) o := by
  intro a z w e u W A V H G es top he hu
  have p := es.1
  have a4 := p.a4
  have tl := tT_lt B n a
  have cl := tT_cl B n a
  obtain ⟨m1, m2, m3, m4, m5, m6⟩ := p.1.2.2.2.2.2.1 a p.2.1
  have xe : ∀ c : Nat, c < 100 → (nI (tT B n a) = nI c) = (tT B n a = c) := fun c hc => propext (nI_eq (by omega) (by omega))
  have eu : F_Reader_unit NF (F_Reader_nest NF gs) sp (nI o) H = (if tT B n a = 9 then (Option.bind (f_Formulas_add sp (1 : Int32) (0 : Int32) H) (fun h3 => (Option.bind (f_Reader_accept h3) (fun h4 => (some h4))))) else (if tT B n a = 10 then (Option.bind (f_Formulas_add sp (2 : Int32) (0 : Int32) H) (fun h5 => (Option.bind (f_Reader_accept h5) (fun h6 => (some h6))))) else (if tT B n a = 11 then (Option.bind (f_Formulas_add sp (3 : Int32) (0 : Int32) H) (fun h7 => (Option.bind (f_Reader_accept h7) (fun h8 => (some h8))))) else (if tT B n a = 12 then (Option.bind (f_Formulas_add sp (4 : Int32) (0 : Int32) H) (fun h9 => (Option.bind (f_Reader_accept h9) (fun h10 => (some h10))))) else (if tT B n a = 21 then (Option.bind (f_Formulas_add sp (0 : Int32) (H.2.1 14 0 a).toInt32 H) (fun h12 => (Option.bind (f_Reader_accept h12) (fun h13 => (some h13))))) else (if tT B n a = 40 then (Option.bind (F_Reader_nest NF gs sp (nI o) H) (fun h1 => (some h1))) else (if tT B n a = 91 then (Option.bind (F_Reader_nest NF gs sp (nI o) H) (fun h1 => (some h1))) else (Option.bind (f_Reader_fail (1 : Int32) H) (fun h14 => (some h14)))))))))) := by
    unfold F_Reader_unit f_Reader_unit_b148
    rw [C_up p, Option.bind_some, p.2.2.1, C_val p.1 p.2.1, Option.bind_some]
    rw [show (9 : Int32) = nI 9 from rfl, show (10 : Int32) = nI 10 from rfl, show (11 : Int32) = nI 11 from rfl, show (12 : Int32) = nI 12 from rfl, show (21 : Int32) = nI 21 from rfl, show (40 : Int32) = nI 40 from rfl, show (91 : Int32) = nI 91 from rfl]
    simp only [xe 9 (by omega), xe 10 (by omega), xe 11 (by omega), xe 12 (by omega), xe 21 (by omega), xe 40 (by omega), xe 91 (by omega)]
  rw [eu]
  by_cases ne : tT B n a = 40 ∨ tT B n a = 91
  · have xn := X_nest hs ho hgs es ne (e := e) (by omega) hu
    rw [if_neg (by omega), if_neg (by omega), if_neg (by omega), if_neg (by omega), if_neg (by omega)]
    by_cases c : tT B n a = 40
    · rw [if_pos c]; exact xn
    · rw [if_neg c, if_pos (ne.resolve_left c)]; exact xn
  · obtain ⟨u', rfl⟩ : ∃ m, u = m + 1 := ⟨u - 1, by omega⟩
    have s40 : f_M_isSign 40 G = some (if tT B n a = 40 then 1 else 0) := M_isSign (c := 40) (s := 40) p.1 p.2.1 p.2.2.2.2.1 (by omega)
    have s91 : f_M_isSign 91 G = some (if tT B n a = 91 then 1 else 0) := M_isSign (c := 91) (s := 91) p.1 p.2.1 p.2.2.2.2.1 (by omega)
    have ia : ai_in (nI a) 2001 := q_in (by omega) (by omega)
    have ca : (nI a).toNatClampNeg = a := q_cl (by omega)
    have ml : xL (u' + 1) o 1 G = if nI (mso (tT B n a)) = 3 then f_M_expr_b123 NF (fun a b c h => f_M_expr_l21 NF (f_M_expr_b53 NF) (f_M_expr_b143 NF) (f_M_expr_b286 NF) (f_M_expr_b343 NF) (f_M_expr_b403 NF) u' a b c h) (f_M_expr_b143 NF) (nI o) 1 (G.1 13 45 a - 9) G else f_M_expr_b123 NF (fun a b c h => f_M_expr_l21 NF (f_M_expr_b53 NF) (f_M_expr_b143 NF) (f_M_expr_b286 NF) (f_M_expr_b343 NF) (f_M_expr_b403 NF) u' a b c h) (f_M_expr_b143 NF) (nI o) 1 (-1) G := by
      show f_M_expr_c21 NF (f_M_expr_b53 NF) (f_M_expr_b143 NF) (f_M_expr_b286 NF) (f_M_expr_b343 NF) (f_M_expr_b403 NF) (f_M_expr_l21 NF (f_M_expr_b53 NF) (f_M_expr_b143 NF) (f_M_expr_b286 NF) (f_M_expr_b343 NF) (f_M_expr_b403 NF) u') (nI o) 1 1 G = _
      unfold f_M_expr_c21 f_M_expr_b90
      rw [if_neg q_10, if_neg q_10, s40, Option.bind_some, if_neg (fun z => ne (Or.inl z)), if_pos rfl, s91, Option.bind_some, if_neg (fun z => ne (Or.inr z)), if_pos rfl, if_neg q_10, p.2.2.2.2.1, if_pos ia, if_pos ia, ca, m1]
    have b123 : ∀ s0 : Int32, f_M_expr_b123 NF (fun a b c h => f_M_expr_l21 NF (f_M_expr_b53 NF) (f_M_expr_b143 NF) (f_M_expr_b286 NF) (f_M_expr_b343 NF) (f_M_expr_b403 NF) u' a b c h) (f_M_expr_b143 NF) (nI o) 1 s0 G = if nI (mso (tT B n a)) = 1 then f_M_expr_b149 NF (fun a b c h => f_M_expr_l21 NF (f_M_expr_b53 NF) (f_M_expr_b143 NF) (f_M_expr_b286 NF) (f_M_expr_b343 NF) (f_M_expr_b403 NF) u' a b c h) (nI o) 1 s0 G else if s0 < 0 then f_M_expr_b143 NF G else f_M_expr_b149 NF (fun a b c h => f_M_expr_l21 NF (f_M_expr_b53 NF) (f_M_expr_b143 NF) (f_M_expr_b286 NF) (f_M_expr_b343 NF) (f_M_expr_b403 NF) u' a b c h) (nI o) 1 s0 G := by
      intro s0
      unfold f_M_expr_b123
      rw [p.2.2.2.2.1, if_pos ia, ca, m1]
    have fail1 : XR B n sz lf lt sp 3 o a z w e (u' + 1) W A V H G (Option.bind (f_Reader_fail 1 H) (fun h14 => some h14)) (f_M_expr_b143 NF G) := by
      obtain ⟨H1, c1, c2, c3⟩ := C_fail (F := 1) p (Or.inl rfl)
      obtain ⟨G1, g1, g2, g3⟩ := M_wrongs (F := 1) p.1 p.2.1 p.2.2.2.2.1
      unfold f_M_expr_b143
      rw [show f_Reader_fail 1 H = some H1 from c1, Option.bind_some, show sh_b2 (f_M_wrong 1 G) (fun v29 h30 => some ((ai_nar 1 v29), h30)) = some (0, G1) from g1]
      exact Or.inr ⟨1, a, H1, G1, rfl, rfl, p.2.1, c2, g2, c3.E, g3.E⟩
    rw [ml]
    by_cases wd : tT B n a < 13
    · have em : mso (tT B n a) = 3 := if_pos wd
      rw [em, if_pos (show nI 3 = 3 from rfl), m3 (Or.inl wd), b123, em, if_neg (show ¬ nI 3 = 1 by decide)]
      by_cases v9 : 9 ≤ tT B n a
      · rw [nI_p9 _ wd v9, if_neg (nI_pos (by omega))]
        unfold f_M_expr_b149 f_M_expr_b160 f_M_expr_b179
        rw [if_neg (nI_pos (by omega)), if_neg (nI_pos (by omega))]
        have pu := fun (x : Int32) (hx : x <<< ((16 : Int32) &&& 31) ||| ((0 : Int32) &&& 65535) = nI (cst 1 (tT B n a - 9))) => X_push (o := o) (e := e) (u := u') hs es (show tG B n a from ⟨by omega, by omega⟩) (ov := 1) (vv := tT B n a - 9) (by omega) (by omega) (fun _ => by omega) (by omega) x 0 hx
        rcases (show tT B n a = 9 ∨ tT B n a = 10 ∨ tT B n a = 11 ∨ tT B n a = 12 by omega) with c | c | c | c
        · rw [if_pos c]; exact pu 1 (by rw [c]; decide)
        · rw [if_neg (by omega), if_pos c]; exact pu 2 (by rw [c]; decide)
        · rw [if_neg (by omega), if_neg (by omega), if_pos c]; exact pu 3 (by rw [c]; decide)
        · rw [if_neg (by omega), if_neg (by omega), if_neg (by omega), if_pos c]; exact pu 4 (by rw [c]; decide)
      · rw [if_pos (nI_m9 _ (by omega)), if_neg (by omega), if_neg (by omega), if_neg (by omega), if_neg (by omega), if_neg (by omega), if_neg (by omega), if_neg (by omega)]
        exact fail1
    · by_cases it : tT B n a = 21
      · have em : mso (tT B n a) = 1 := by rw [it]; rfl
        have vv : (H.2.1 14 0 a).toInt32 = nI (tV B n a) := by rw [(p.1.2.2.2.2.1 a p.2.1).2.2.2 it, lN_i]
        rw [em, if_neg (show ¬ nI 1 = 3 by decide), b123, em, if_pos (show nI 1 = 1 from rfl)]
        unfold f_M_expr_b149 f_M_expr_b160 f_M_expr_b179
        rw [if_pos q_n1, if_pos q_n1, p.2.2.2.2.1, if_pos ia, ca, m4 it, if_neg (by omega), if_neg (by omega), if_neg (by omega), if_neg (by omega), if_pos it, vv]
        exact X_push (o := o) (e := e) (u := u') hs es (show tG B n a from ⟨by omega, by omega⟩) (ov := 0) (vv := tV B n a) (by omega) (tV_le it) (fun z => by omega) (by omega) 0 _ (cst_v _ (tV_le it))
      · have em : ¬ mso (tT B n a) = 3 ∧ ¬ mso (tT B n a) = 1 := by
          unfold mso
          repeat' split
          all_goals omega
        have ml6 := mso_lt (tT B n a)
        rw [if_neg (show ¬ nI (mso (tT B n a)) = 3 from nI_ne (b := 3) em.1 (by omega) (by omega)), b123, if_neg (show ¬ nI (mso (tT B n a)) = 1 from nI_ne (b := 1) em.2 (by omega) (by omega)), if_pos q_n1, if_neg (by omega), if_neg (by omega), if_neg (by omega), if_neg (by omega), if_neg (by omega), if_neg (by omega), if_neg (by omega)]
        exact fail1
theorem sum_l8 (g : Nat → Int32 → sh_H → Option sh_H) (m : Nat) : f_Reader_sum_l8 NF g m = xl8 43 45 g m := rfl
theorem pro_l8 (g : Nat → Int32 → sh_H → Option sh_H) (m : Nat) : f_Reader_product_l8 NF g m = xl8 42 47 g m := rfl
theorem F_sum_eq (g : Nat → Int32 → sh_H → Option sh_H) : F_Reader_sum NF g = fun l1 l2 h => Option.bind (g l1 l2 h) (fun h7 => xl8 (nI 43) (nI 45) g NF l1 l2 0 h7) := by
  funext l1 l2 h
  unfold F_Reader_sum
  rw [sum_l8]
  rfl
theorem F_pro_eq (g : Nat → Int32 → sh_H → Option sh_H) : F_Reader_product NF g = fun l1 l2 h => Option.bind (g l1 l2 h) (fun h7 => xl8 (nI 42) (nI 47) g NF l1 l2 0 h7) := by
  funext l1 l2 h
  unfold F_Reader_product
  rw [pro_l8]
  rfl
theorem rec_4 (d : Nat) : (Reader_rec NF (d + 4)).1 = F_Reader_sum NF (F_Reader_product NF (F_Reader_unit NF (F_Reader_nest NF (Reader_rec NF d).1))) := rfl
theorem X_sum {B : Nat → Nat} {n sz lf lt sp : Nat} (hs : sp < 2) : ∀ (q o d : Nat), o + q = 6 → 4 * q + 4 ≤ d → CU B n sz lf lt sp 1 (Reader_rec NF d).1 o := by
  have up : ∀ (o d : Nat), o ≤ 6 → (o < 6 → CU B n sz lf lt sp 1 (Reader_rec NF d).1 (o + 1)) → CU B n sz lf lt sp 1 (Reader_rec NF (d + 4)).1 o := by
    intro o d ho h
    rw [rec_4]
    have c3 := X_unit hs ho h
    have d3 : Dg sp (F_Reader_unit NF (F_Reader_nest NF (Reader_rec NF d).1)) := D_unit hs (D_nest _)
    have c2 : CU B n sz lf lt sp 2 (F_Reader_product NF (F_Reader_unit NF (F_Reader_nest NF (Reader_rec NF d).1))) o := by
      rw [F_pro_eq]
      exact X_lvl (rm := 2) (s1 := 42) (s2 := 47) (o1 := 4) (o2 := 5) hs (by omega) ⟨by omega, by omega, rfl, rfl, rfl, by omega⟩ ⟨by omega, by omega, rfl, rfl, rfl, by omega⟩ (fun t _ h1 h2 => ⟨fun _ => ⟨h1, h2⟩, fun z => by omega⟩) c3 d3
    have d2 : Dg sp (F_Reader_product NF (F_Reader_unit NF (F_Reader_nest NF (Reader_rec NF d).1))) := by
      rw [F_pro_eq]
      exact D_lvl d3
    rw [F_sum_eq]
    exact X_lvl (rm := 1) (s1 := 43) (s2 := 45) (o1 := 2) (o2 := 3) hs (by omega) ⟨by omega, by omega, rfl, rfl, rfl, by omega⟩ ⟨by omega, by omega, rfl, rfl, rfl, by omega⟩ (fun t st h1 h2 => ⟨fun _ => st.1 (by omega), fun _ => ⟨h1, h2⟩⟩) c2 d2
  intro q
  induction q with
  | zero =>
    intro o d e1 e2
    obtain ⟨d, rfl⟩ : ∃ m, d = m + 4 := ⟨d - 4, by omega⟩
    exact up o d (by omega) (fun z => by omega)
  | succ q ih =>
    intro o d e1 e2
    obtain ⟨d, rfl⟩ : ∃ m, d = m + 4 := ⟨d - 4, by omega⟩
    exact up o d (by omega) (fun _ => ih (o + 1) d (by omega) (by omega))
theorem D_sum {sp d : Nat} (hs : sp < 2) : Dg sp (Reader_rec NF (d + 4)).1 := by
  rw [rec_4, F_sum_eq, F_pro_eq]
  exact D_lvl (D_lvl (D_unit hs (D_nest _)))
/-- a whole formula -/
theorem X_expr {B : Nat → Nat} {n sz a lf lt sp z : Nat} {A V : Nat → Nat} {H G : sh_H} (hs : sp < 2) (p : PS B n sz a lf lt H G) (cc : CC sp z A V H) (cm : CM z A V G) (cv : CV z A V) (za : z < a) : (∃ a' z' A' V' H' G', (Reader_rec NF 60).1 sp 0 H = some H' ∧ f_M_expr NF G = some (1, G') ∧ PS B n sz a' lf lt H' G' ∧ CC sp z' A' V' H' ∧ CM z' A' V' G' ∧ CV z' A' V' ∧ z' < a' ∧ a < a' ∧ z ≤ z' ∧ (∀ k, k < z → A' k = A k ∧ V' k = V k) ∧ DP A' z z' 0 1 ∧ xC sp H' H ∧ xM G' (sh_pI G 12 0 22 (nI z)) ∧ G'.1 12 0 22 = nI z) ∨ (∃ F T H' G', (Reader_rec NF 60).1 sp 0 H = some H' ∧ f_M_expr NF G = some (0, G') ∧ T < sz ∧ DE F T H' ∧ FA B n F T G' ∧ xC sp H' H ∧ xM G' (sh_pI G 12 0 22 (nI z))) := by
  have a4 := p.a4
  have e0 : f_M_told 10 G = some (nI z) := (M_told2 (k := 10) (by omega) G).trans (congrArg some cm.1)
  unfold f_M_expr
  rw [e0, Option.bind_some, sh_let, sh_let]
  have p1 : PS B n sz a lf lt H (sh_pI (sh_pI G 12 0 22 (nI z)) 12 0 20 0) := PS_mk (TK_to (fun _ _ _ _ => rfl) (fun _ => rfl) (fun i j h1 h2 => (pI_ne (by omega)).trans (pI_ne (by omega))) (fun _ => rfl) p.1) p.2.1 p.2.2.1 p.2.2.2.1 ((pI_ne (by omega)).trans ((pI_ne (by omega)).trans p.2.2.2.2.1)) p.cl (ML2_to (fun j hj => (pI_ne (by omega)).trans (pI_ne (by omega))) p.ml) p.lt
  have x1 : xM (sh_pI (sh_pI G 12 0 22 (nI z)) 12 0 20 0) (sh_pI G 12 0 22 (nI z)) := ((f12.rf _).pI (by omega)).E
  have es : ES B n sz lf lt sp a z z 0 (fun _ => 0) A V H (sh_pI (sh_pI G 12 0 22 (nI z)) 12 0 20 0) := ⟨p1, cc, CM_to (fun j => (pI_ne (by omega)).trans (pI_ne (by omega))) cm, cv, ⟨by rw [Nat.sub_self]; exact pI_at _ _ _ _ _, fun i hi => by omega⟩, Nat.le_refl _, za, by omega⟩
  generalize sh_pI (sh_pI G 12 0 22 (nI z)) 12 0 20 0 = G1 at *
  have nf : 500 ≤ NF := Nat.le_of_lt (NF_gt (by omega))
  rcases X_sum (B := B) (n := n) (sz := sz) (lf := lf) (lt := lt) hs 6 0 60 rfl (by omega) a z 0 0 NF (fun _ => 0) A V H G1 es (Or.inl rfl) (by omega) (by omega) with ⟨a', z', zm', u', W', A', V', H', G', r1, r2, r3, r4, r5, r6⟩ | ⟨F, T, H', G', r1, r2, r3, r4, r5, r6, r7⟩
  · obtain ⟨t1, t2, t3, t4, t5, t6, t7, t8, t9⟩ := r6
    obtain ⟨s1, s2, s3, s4, s5, s6, s7, s8⟩ := r3
    have a4' := s1.a4
    obtain ⟨u2, rfl⟩ : ∃ m, u' = m + 1 + 1 := ⟨u' - 2, by omega⟩
    have ez : zm' + (z' - zm') = z' := by omega
    obtain ⟨G2, f1, f2, f3, f4, f5', f6⟩ := M_reduce (ls := 1) (w := 0) (by omega) (Or.inl rfl) (z' - zm') NF zm' G' (NF_gt (by omega)) (by omega) (by omega) s3 (by rw [ez]; exact s4) s5 r4
    rw [ez] at f2
    have ej : jn (tT B n a') = -1 := by
      unfold jn
      rw [if_neg (r5.2 (by omega)).1, if_neg (r5.2 (by omega)).2, if_neg (r5.1 (by omega)).1, if_neg (r5.1 (by omega)).2]
    have ml : xL (u2 + 1 + 1) 0 0 G' = some (1, G2) := by
      show f_M_expr_c21 NF (f_M_expr_b53 NF) (f_M_expr_b143 NF) (f_M_expr_b286 NF) (f_M_expr_b343 NF) (f_M_expr_b403 NF) (f_M_expr_l21 NF (f_M_expr_b53 NF) (f_M_expr_b143 NF) (f_M_expr_b286 NF) (f_M_expr_b343 NF) (f_M_expr_b403 NF) (u2 + 1)) (nI 0) 0 1 G' = _
      unfold f_M_expr_c21 f_M_expr_b90
      rw [if_neg q_10, if_pos rfl, if_pos rfl, M_joinAt s1.1 s1.2.1 s1.2.2.2.2.1, Option.bind_some, ej, if_pos q_n1, if_neg (show ¬ (0 : Int32) < nI 0 by decide)]
      show f_M_expr_c21 NF (f_M_expr_b53 NF) (f_M_expr_b143 NF) (f_M_expr_b286 NF) (f_M_expr_b343 NF) (f_M_expr_b403 NF) (f_M_expr_l21 NF (f_M_expr_b53 NF) (f_M_expr_b143 NF) (f_M_expr_b286 NF) (f_M_expr_b343 NF) (f_M_expr_b403 NF) u2) (nI 0) 0 0 G' = _
      unfold f_M_expr_c21 f_M_expr_b403 f_M_reduce
      rw [if_pos rfl, show f_M_reduce_l0 NF NF 1 G' = some G2 from f1, Option.bind_some, q_nar1]
    have xm : xM G2 (sh_pI G 12 0 22 (nI z)) := f4.tr (t9.tr x1)
    refine Or.inl ⟨a', z', A', V', H', G2, r1, ?_, PS_e hs (xC.rf sp H') f4 (fun _ => rfl) (fun j hj => f5' j (by omega)) s1, s2, f2, s4, s7, t2, t5, t6, t7, t8, xm, ?_⟩
    · exact r2.trans ml
    · rw [xm.1 12 0 22 (by omega) (by omega) (by omega), pI_at]
  · exact Or.inr ⟨F, T, H', G', r1, r2, r3, r4, r5, r6, r7.tr x1⟩
