/-! PAIR: read: tells of islands, wants, losses, wears -/
theorem R_island {B : Nat → Nat} {n sz a lf lt sp z : Nat} {N : Nat → Nat} {A V : Nat → Nat} {H G : sh_H} (hp : sp < 2) (p : PS B n sz a lf lt H G) (gg : tG B n a) (cx : CX B n a lf sp N z A V H G) : TO B n sz a sp H G (f_Reader_tellIsland NF (7 * sp + 1) H) (sh_b2 (f_M_tellIsland NF G) (fun v1 h2 => if ai_nar 1 v1 = 0 then some (0, h2) else semi h2)) := by
  have c2 := cx.2.1
  have n6 : N 0 ≤ 6 := (c2 0 (by omega)).1
  have n4 : N 1 ≤ 4 := (c2 1 (by omega)).1
  have za : z ≤ a := cx.2.2.2.2.2.1
  unfold f_Reader_tellIsland f_M_tellIsland
  rw [show f_M_told 1 G = _ from M_tab (j := 1) (by omega) cx, Option.bind_some]
  rcases TT_open (j := 1) hp (by omega) p gg cx.1 (c2 1 (by omega)).2.1 (c2 1 (by omega)).1 cx.qs with ⟨hlt, H1, G1, e1, e2, t1, g1⟩ | ⟨F, T, v, H1, G1, e1, e2, tf⟩
  · have hlt6 : N 1 < 4 := hlt
    rw [e1, sh_b2_some, if_neg (show ¬ nI (N 1) = 4 from nI_ne (b := 4) (by omega) (by omega) (by omega)), e2, sh_b2_some, if_neg q_10]
    rcases S_new (t := 1) (r := N 1) t1.1 (by omega) rfl (by rw [l14_n.2]; omega) n6 n4 t1.2.2.2.2.1.1 t1.2.2.2.2.1.2 with ⟨H2, G2, lf2, lt2, f1, f2, f3, f4, f5, f6, f7⟩ | ⟨F, T, H2, G2, f1, f2, f3, f4, f5, f6, f7⟩
    · have f1' : f_Reader_newName NF 2 (nI (N 1)) H1 = some H2 := f1
      have f2' : f_M_names NF 1 (nI (N 1)) G1 = some (1, G2) := f2
      rw [f1', Option.bind_some, f2', sh_b2_some, if_neg q_10]
      have t2 : TT B n sz (a + 1 + 1) lf2 lt2 sp 1 (N 1) z A V (N 0) (N 1 + 1) (fun _ => 0) (fun c => G.1 13 46 (2000 + tb_b 1 + tb_s 1 * N 1 + c)) H2 G2 H G := by
        obtain ⟨nb, b1, b2⟩ := t1.2.2.2.2.2
        refine ⟨f3, TS_N (by omega) hlt f4 f5 t1.2.1, CC_to (f4.1 _ _ _ (by omega)) (fun k => f4.1 _ _ _ (by omega)) t1.2.2.1, CM_to (fun j => f5.1 _ _ _ (by omega) (by omega)) t1.2.2.2.1, ⟨?_, fun l => ?_⟩, nb, b1, (f4.1 _ _ _ (by omega)).trans b2⟩
        · rw [f6]; congr 1
        · have := (f7 l).2
          rw [if_neg (by omega), if_neg (by omega)] at this
          exact this
      rcases TT_num (lo := 0) (hi := 60) hp (by omega) hlt (by omega) (by omega) t2 with ⟨v0, H3, G3, lf3, lt3, k1, k2, k3, k4, t3, k5, k6, k7, k8⟩ | ⟨F, T, v, H3, G3, k1, k2, tf⟩
      · obtain ⟨H4, p4, t4⟩ := TT_put (c := 0) hp (by omega) hlt (by decide) (nI v0) t3
        obtain ⟨G4, q4, t4', u4⟩ := TT_tell (c := 0) (k := 40 + 2 * N 1) (by omega) hlt (by decide) (by show 40 + 2 * N 1 = 40 + 2 * N 1 + 0; omega) (nI v0) t4
        have eb : (40 : Int32) + 2 * nI (N 1) = nI (40 + 2 * N 1) := nIe 40 2 (N 1)
        rw [show f_Reader_number 0 60 H2 = _ from k1, sh_b2_some, show f_Rows_put (7 * sp + 1) (nI (N 1)) 0 (nI v0) H3 = _ from p4, Option.bind_some, show f_M_takesInt 0 60 G2 = _ from k2, sh_b2_some, if_neg q_10, k3, eb, q4, Option.bind_some]
        rcases TT_num (lo := 0) (hi := 99) hp (by omega) hlt (by omega) (by omega) t4' with ⟨v1, H5, G5, lf5, lt5, m1, m2, m3, m4, t5, m5, m6, m7, m8⟩ | ⟨F, T, v, H5, G5, m1, m2, tf⟩
        · obtain ⟨H6, p6, t6⟩ := TT_put (c := 1) hp (by omega) hlt (by decide) (nI v1) t5
          obtain ⟨G6, q6, t6', u6⟩ := TT_tell (c := 1) (k := 40 + 2 * N 1 + 1) (by omega) hlt (by decide) rfl (nI v1) t6
          obtain ⟨G9, q9, t9, u9⟩ := TT_count (by omega) hlt (nI (N 1 + 1)) t6'
          rw [show f_Reader_number 0 99 H4 = _ from m1, sh_b2_some, show f_Rows_put (7 * sp + 1) (nI (N 1)) 1 (nI v1) H5 = _ from p6, Option.bind_some, show f_M_takesInt 0 99 G4 = _ from m2, sh_b2_some, if_neg q_10, m3, nI_1, q6, Option.bind_some, nI_1, show f_M_tell 1 (nI (N 1 + 1)) G6 = _ from q9, Option.bind_some, sh_b2_some, q_nar1, q_nar1, if_neg q_10]
          rcases TT_semi hp (by omega) hlt t9 with ⟨Hx, Gx, x1, x2, x3, x4⟩ | ⟨F, T, Hx, Gx, x1, x2, tf⟩
          · rw [x1, x2]
            refine Or.inl ⟨Hx, Gx, _, lf5, lt5, up0 N 1 (N 1 + 1), z, A, V, rfl, rfl, x3.1, CX_next (Vr := up1 (up1 (fun _ => 0) 0 (nI v0)) 1 (nI v1)) (Ur := up1 (up1 (fun c => G.1 13 46 (2000 + tb_b 1 + tb_s 1 * N 1 + c)) 0 (nI v0)) 1 (nI v1)) hp (by omega) rfl hlt cx x3.2.1 ((x4 _ (by omega) (by omega)).trans u9) x3.2.2.1 x3.2.2.2.1 cx.2.2.2.2.1 (Nat.le_refl _) (fun _ _ => rfl) (by omega) (N0' := N 0) (N1' := N 1 + 1) rfl rfl x3.2.2.2.2.1 (fun l5 => ?_), by omega, x3.2.1.2.2.2.2.1.r (by omega), x3.2.1.2.2.2.2.2.r (by omega) hlt⟩
            obtain ⟨l3, b5, b6⟩ := m5 l5
            obtain ⟨l2, b3, b4⟩ := k5 l3
            exact ⟨(f7 l2).1, rel1, ⟨v0, b3, b4, rfl⟩, ⟨v1, b5, b6, rfl⟩⟩
          · rw [x1, x2]
            exact Or.inr ⟨F, T, Hx, Gx, rfl, rfl, tf⟩
        · rw [show f_Reader_number 0 99 H4 = _ from m1, sh_b2_some, show f_M_takesInt 0 99 G4 = _ from m2, sh_b2_some, if_pos rfl, q_nar0, sh_b2_some, q_nar0, if_pos rfl]
          exact TO_fail tf (DW_put hp (by omega) tf.2.1 (fun H d => DW_expect d (DW_some d))) rfl
      · rw [show f_Reader_number 0 60 H2 = _ from k1, sh_b2_some, show f_M_takesInt 0 60 G2 = _ from k2, sh_b2_some, if_pos rfl, q_nar0, sh_b2_some, q_nar0, if_pos rfl]
        exact TO_fail tf (DW_put hp (by omega) tf.2.1 (fun H d => DW_num hp d (fun v H d => DW_put hp (by omega) d (fun H d => DW_expect d (DW_some d))))) rfl
    · have tf := TF_of hp (by omega) hlt t1 f3 f4 f5 f6.r (fun i k => f6.1 _ _ _ (by omega)) f7.y
      rw [show f_Reader_newName NF 2 (nI (N 1)) H1 = some H2 from f1, Option.bind_some, show f_M_names NF 1 (nI (N 1)) G1 = some (0, G2) from f2, sh_b2_some, if_pos rfl, q_nar0, sh_b2_some, q_nar0, if_pos rfl]
      exact TO_fail tf (DW_num hp tf.2.1 (fun v H d => DW_put hp (by omega) d (fun H d => DW_num hp d (fun v H d => DW_put hp (by omega) d (fun H d => DW_expect d (DW_some d)))))) rfl
  · have dw : DW sp F T H (Option.bind (f_Reader_newName NF 2 v H1) (fun h3 => (sh_b2 (f_Reader_number (0 : Int32) (60 : Int32) h3) (fun v4 h5 => (Option.bind (f_Rows_put (7 * sp + 1) v (0 : Int32) v4 h5) (fun h6 => (sh_b2 (f_Reader_number (0 : Int32) (99 : Int32) h6) (fun v7 h8 => (Option.bind (f_Rows_put (7 * sp + 1) v (1 : Int32) v7 h8) (fun h9 => (Option.bind (f_Reader_expect (59 : Int32) h9) (fun h10 => (some h10))))))))))))) := DW_new hp (Or.inr rfl) tf.2.1 (fun H d => DW_num hp d (fun v H d => DW_put hp (by omega) d (fun H d => DW_num hp d (fun v H d => DW_put hp (by omega) d (fun H d => DW_expect d (DW_some d))))))
    rw [e1, sh_b2_some]
    refine TO_fail tf dw ?_
    rcases e2 with ⟨h1, h2⟩ | ⟨h1, h2⟩
    · have : N 1 < 4 := h1
      rw [if_neg (show ¬ nI (N 1) = 4 from nI_ne (b := 4) (by omega) (by omega) (by omega)), h2, sh_b2_some, if_pos rfl, q_nar0, sh_b2_some, q_nar0, if_pos rfl]
    · have : N 1 = 4 := h1
      rw [if_pos (show nI (N 1) = 4 by rw [this]; rfl), h2, sh_b2_some, q_nar0, if_pos rfl]
theorem rel2 {j : Nat} (hj : j = 2 ∨ j = 3) {U0 : Nat → Int32} {a b c d : Int32} : relV j (up1 (up1 (up1 (up1 (fun _ => 0) 0 a) 1 b) 3 c) 4 d) (up1 (up1 (up1 (up1 U0 0 a) 1 b) 2 c) 3 d) := by
  rcases hj with rfl | rfl
  · refine ⟨fun d hd h9 => ?_, fun z => by omega⟩
    match d, hd, h9 with
    | 0, _, _ => rfl
    | 1, _, _ => rfl
    | 2, _, h => exact absurd h (by decide)
    | 3, _, _ => rfl
    | 4, _, _ => rfl
  · refine ⟨fun d hd h9 => ?_, fun z => by omega⟩
    match d, hd, h9 with
    | 0, _, _ => rfl
    | 1, _, _ => rfl
    | 2, _, h => exact absurd h (by decide)
    | 3, _, _ => rfl
    | 4, _, _ => rfl
theorem rel5 {U0 : Nat → Int32} {b c d : Int32} : relV 5 (up1 (up1 (up1 (fun _ => 0) 1 b) 3 c) 4 d) (up1 (up1 (up1 U0 0 b) 1 c) 2 d) := by
  refine ⟨fun d hd h9 => ?_, fun z => rfl⟩
  match d, hd, h9 with
  | 0, _, h => exact absurd h (by decide)
  | 1, _, _ => rfl
  | 2, _, h => exact absurd h (by decide)
  | 3, _, _ => rfl
  | 4, _, _ => rfl
/-- a want or a loss -/
theorem R_want {B : Nat → Nat} {n sz a lf lt sp z j : Nat} {N : Nat → Nat} {A V : Nat → Nat} {H G : sh_H} (hp : sp < 2) (hj : j = 2 ∨ j = 3) (p : PS B n sz a lf lt H G) (gg : tG B n a) (cx : CX B n a lf sp N z A V H G) : TO B n sz a sp H G (Option.bind (f_Reader_tellOfIsland NF (7 * sp + j) H) (fun h4 => f_Reader_equation NF (7 * sp + j) sp h4)) (sh_b2 (f_M_tellWant NF (nI j) (nI (tb_b j)) G) (fun v1 h2 => if ai_nar 1 v1 = 0 then some (0, h2) else semi h2)) := by
  have c2 := cx.2.1
  have n6 : N 0 ≤ 6 := (c2 0 (by omega)).1
  have n4 : N 1 ≤ 4 := (c2 1 (by omega)).1
  have za : z ≤ a := cx.2.2.2.2.2.1
  have j7 : j < 7 := by omega
  have j0 : (0 : Nat) ≠ j := by omega
  have j1 : (1 : Nat) ≠ j := by omega
  have al := tb_all j j7
  have jf : sh_m j = 12 ∧ sh_w j = 5 ∧ tb_s j = 4 := by rcases hj with rfl | rfl <;> exact ⟨rfl, rfl, rfl⟩
  unfold f_Reader_tellOfIsland f_M_tellWant
  rw [M_tab j7 cx, Option.bind_some]
  rcases TT_open hp j7 p gg cx.1 (c2 j j7).2.1 (c2 j j7).1 cx.qs with ⟨hlt, H1, G1, e1, e2, t1, g1⟩ | ⟨F, T, v, H1, G1, e1, e2, tf⟩
  · rw [e1, sh_b2_some, if_neg (show ¬ nI (N j) = 12 from nI_ne (b := 12) (by omega) (by omega) (by omega)), e2, sh_b2_some, if_neg q_10]
    rcases TT_place hp j7 hlt n6 n4 t1 with ⟨c0, H2, G2, lf2, lt2, f1, f2, t2, f3, f4⟩ | ⟨F, T, v, H2, G2, f1, f2, tf⟩
    · obtain ⟨H3, p3, t3⟩ := TT_put (c := 0) hp j7 hlt (by omega) c0 t2
      obtain ⟨G3, q3, t3', u3⟩ := TT_tell (c := 0) (k := tb_b j + 4 * N j) j7 hlt (by omega) (by rw [jf.2.2]; omega) (G2.1 12 0 19 + 1) t3
      have eb : nI (tb_b j) + 4 * nI (N j) = nI (tb_b j + 4 * N j) := nIe (tb_b j) 4 (N j)
      rw [f1, sh_b2_some, show f_Rows_put (7 * sp + j) (nI (N j)) 0 c0 H2 = _ from p3, Option.bind_some, f2, sh_b2_some, if_neg q_10, eb, q3, Option.bind_some]
      rcases TT_kind hp j7 hlt n6 n4 t3' with ⟨c1, H4, G4, lf4, lt4, k1, k2, t4, k3, k4⟩ | ⟨F, T, v, H4, G4, k1, k2, tf⟩
      · obtain ⟨H5, p5, t5⟩ := TT_put (c := 1) hp j7 hlt (by omega) c1 t4
        obtain ⟨G5, q5, t5', u5⟩ := TT_tell (c := 1) (k := tb_b j + 4 * N j + 1) j7 hlt (by omega) (by rw [jf.2.2]) (G4.1 12 0 19) t5
        obtain ⟨G6, q6, t6, u6⟩ := TT_count j7 hlt (nI (N j + 1)) t5'
        rw [k1, sh_b2_some, show f_Rows_put (7 * sp + j) (nI (N j)) 1 c1 H4 = _ from p5, Option.bind_some, Option.bind_some, k2, sh_b2_some, if_neg q_10, nI_1, q5, Option.bind_some, nI_1, q6, Option.bind_some, show (2 : Int32) = nI 2 from rfl, nI_add]
        rw [b2_nar2]
        rcases TT_eq (cF := 2) (k := tb_b j + 4 * N j + 2) hp j7 hlt (by omega) (by omega) (by rw [jf.2.2]) (by omega) cx.2.2.2.2.1 t6 with ⟨Hx, Gx, a', z', A', V', x1, x2, x3, x4, x5, x6, x7, x8, x9, x10⟩ | ⟨F, T, Hx, Gx, x1, x2, tf⟩
        · rw [x1, x2]
          refine Or.inl ⟨Hx, Gx, a', lf4, lt4, up0 N j (N j + 1), z', A', V', rfl, rfl, x3.1, CX_next (N0' := N 0) (N1' := N 1) hp j7 rfl hlt cx x3.2.1 (x10.trans u6) x3.2.2.1 x3.2.2.2.1 x9 x6 (fun k hk => (x7 k hk).1) x5 (up0_n j0).symm (up0_n j1).symm x3.2.2.2.2.1 (fun l4 => ?_), by omega, x3.2.1.2.2.2.2.1.r j7, x3.2.1.2.2.2.2.2.r j7 hlt⟩
          obtain ⟨l2, r, r1, r2, r3⟩ := k3 l4
          obtain ⟨l0, r', r1', r2', r3'⟩ := f3 l2
          rw [r2, r2', r3, r3', nI_1]
          refine ⟨l0, rel2 hj, ?_⟩
          have fv : fvv A' z' (nI z) (nI z') := ⟨z, z', x6, Nat.le_refl _, rfl, rfl, x8⟩
          rcases hj with rfl | rfl
          · exact ⟨⟨r' + 1, by omega, by omega, rfl⟩, ⟨by omega, r, by omega, by omega, rfl⟩, fv⟩
          · exact ⟨⟨r' + 1, by omega, by omega, rfl⟩, ⟨by omega, r, by omega, by omega, rfl⟩, fv⟩
        · rw [x1, x2]
          exact Or.inr ⟨F, T, Hx, Gx, rfl, rfl, tf⟩
      · have dw : DW sp F T H (Option.bind (Option.bind (f_Rows_put (7 * sp + j) (nI (N j)) 1 v H4) (fun h8 => some h8)) (fun h4 => f_Reader_equation NF (7 * sp + j) sp h4)) := by
          obtain ⟨H', e, d⟩ := DS_put hp j7 tf.2.1 (nI (N j)) 1 v
          rw [e]; exact DW_eq hp j7 d
        rw [k1, sh_b2_some, k2, sh_b2_some, if_pos rfl, q_nar0, sh_b2_some, q_nar0, if_pos rfl]
        exact TO_fail tf dw rfl
    · have dw : DW sp F T H (Option.bind (Option.bind (f_Rows_put (7 * sp + j) (nI (N j)) 0 v H2) (fun h5 => sh_b2 (f_Reader_kindTold NF h5) (fun v6 h7 => Option.bind (f_Rows_put (7 * sp + j) (nI (N j)) 1 v6 h7) (fun h8 => some h8)))) (fun h4 => f_Reader_equation NF (7 * sp + j) sp h4)) := by
        obtain ⟨H', e, d⟩ := DS_put hp j7 tf.2.1 (nI (N j)) 0 v
        obtain ⟨w, H'', e', d'⟩ := DS_kind hp d
        obtain ⟨H3, e3, d3⟩ := DS_put hp j7 d' (nI (N j)) 1 w
        rw [e, Option.bind_some, e', sh_b2_some, e3]; exact DW_eq hp j7 d3
      rw [f1, sh_b2_some, f2, sh_b2_some, if_pos rfl, q_nar0, sh_b2_some, q_nar0, if_pos rfl]
      exact TO_fail tf dw rfl
  · have dw : DW sp F T H (Option.bind (sh_b2 (f_Reader_placeTold NF 0 H1) (fun v3 h4 => Option.bind (f_Rows_put (7 * sp + j) v 0 v3 h4) (fun h5 => sh_b2 (f_Reader_kindTold NF h5) (fun v6 h7 => Option.bind (f_Rows_put (7 * sp + j) v 1 v6 h7) (fun h8 => some h8))))) (fun h4 => f_Reader_equation NF (7 * sp + j) sp h4)) := by
      obtain ⟨w0, H0, e0, d0⟩ := DS_place hp tf.2.1 0
      obtain ⟨H', e, d⟩ := DS_put hp j7 d0 v 0 w0
      obtain ⟨w, H'', e', d'⟩ := DS_kind hp d
      obtain ⟨H3, e3, d3⟩ := DS_put hp j7 d' v 1 w
      rw [e0, sh_b2_some, e, Option.bind_some, e', sh_b2_some, e3]; exact DW_eq hp j7 d3
    rw [e1, sh_b2_some]
    refine TO_fail tf dw ?_
    rcases e2 with ⟨h1, h2⟩ | ⟨h1, h2⟩
    · rw [if_neg (show ¬ nI (N j) = 12 from nI_ne (b := 12) (by omega) (by omega) (by omega)), h2, sh_b2_some, if_pos rfl, q_nar0, sh_b2_some, q_nar0, if_pos rfl]
    · rw [if_pos (show nI (N j) = 12 by rw [h1, jf.1]; rfl), h2, sh_b2_some, q_nar0, if_pos rfl]
/-- a wear -/
theorem R_wear {B : Nat → Nat} {n sz a lf lt sp z : Nat} {N : Nat → Nat} {A V : Nat → Nat} {H G : sh_H} (hp : sp < 2) (p : PS B n sz a lf lt H G) (gg : tG B n a) (cx : CX B n a lf sp N z A V H G) : TO B n sz a sp H G (Option.bind (f_Reader_tellWear NF (7 * sp + 5) H) (fun h4 => f_Reader_equation NF (7 * sp + 5) sp h4)) (sh_b2 (f_M_tellWear NF G) (fun v1 h2 => if ai_nar 1 v1 = 0 then some (0, h2) else semi h2)) := by
  have c2 := cx.2.1
  have n6 : N 0 ≤ 6 := (c2 0 (by omega)).1
  have n4 : N 1 ≤ 4 := (c2 1 (by omega)).1
  have za : z ≤ a := cx.2.2.2.2.2.1
  unfold f_Reader_tellWear f_M_tellWear
  rw [show f_M_told 5 G = _ from M_tab (j := 5) (by omega) cx, Option.bind_some]
  rcases TT_open (j := 5) hp (by omega) p gg cx.1 (c2 5 (by omega)).2.1 (c2 5 (by omega)).1 cx.qs with ⟨hlt, H1, G1, e1, e2, t1, g1⟩ | ⟨F, T, v, H1, G1, e1, e2, tf⟩
  · have hlt6 : N 5 < 12 := hlt
    rw [e1, sh_b2_some, if_neg (show ¬ nI (N 5) = 12 from nI_ne (b := 12) (by omega) (by omega) (by omega)), e2, sh_b2_some, if_neg q_10]
    rcases TT_kind hp (by omega) hlt n6 n4 t1 with ⟨c1, H4, G4, lf4, lt4, k1, k2, t4, k3, k4⟩ | ⟨F, T, v, H4, G4, k1, k2, tf⟩
    · obtain ⟨H5, p5, t5⟩ := TT_put (c := 1) hp (by omega) hlt (by decide) c1 t4
      obtain ⟨G5, q5, t5', u5⟩ := TT_tell (c := 0) (k := 210 + 3 * N 5) (by omega) hlt (by decide) (by show 210 + 3 * N 5 = 210 + 3 * N 5 + 0; omega) (G4.1 12 0 19) t5
      obtain ⟨G6, q6, t6, u6⟩ := TT_count (by omega) hlt (nI (N 5 + 1)) t5'
      have eb : (210 : Int32) + 3 * nI (N 5) = nI (210 + 3 * N 5) := nIe 210 3 (N 5)
      rw [k1, sh_b2_some, show f_Rows_put (7 * sp + 5) (nI (N 5)) 1 c1 H4 = _ from p5, Option.bind_some, Option.bind_some, k2, sh_b2_some, if_neg q_10, eb, q5, Option.bind_some, nI_1, show f_M_tell 5 (nI (N 5 + 1)) G5 = _ from q6, Option.bind_some, nI_1, b2_nar2]
      rcases TT_eq (cF := 1) (k := 210 + 3 * N 5 + 1) hp (by omega) hlt (by decide) (by decide) rfl (by omega) cx.2.2.2.2.1 t6 with ⟨Hx, Gx, a', z', A', V', x1, x2, x3, x4, x5, x6, x7, x8, x9, x10⟩ | ⟨F, T, Hx, Gx, x1, x2, tf⟩
      · rw [x1, x2]
        refine Or.inl ⟨Hx, Gx, a', lf4, lt4, up0 N 5 (N 5 + 1), z', A', V', rfl, rfl, x3.1, CX_next (N0' := N 0) (N1' := N 1) hp (by omega) rfl hlt cx x3.2.1 (x10.trans u6) x3.2.2.1 x3.2.2.2.1 x9 x6 (fun k hk => (x7 k hk).1) x5 (up0_n (by omega)).symm (up0_n (by omega)).symm x3.2.2.2.2.1 (fun l4 => ?_), by omega, x3.2.1.2.2.2.2.1.r (by omega), x3.2.1.2.2.2.2.2.r (by omega) hlt⟩
        obtain ⟨l2, r, r1, r2, r3⟩ := k3 l4
        rw [r2, r3]
        exact ⟨l2, rel5, ⟨by omega, r, by omega, by omega, rfl⟩, z, z', x6, Nat.le_refl _, rfl, rfl, x8⟩
      · rw [x1, x2]
        exact Or.inr ⟨F, T, Hx, Gx, rfl, rfl, tf⟩
    · have dw : DW sp F T H (Option.bind (Option.bind (f_Rows_put (7 * sp + 5) (nI (N 5)) 1 v H4) (fun h5 => some h5)) (fun h4 => f_Reader_equation NF (7 * sp + 5) sp h4)) := by
        obtain ⟨H', e, d⟩ := DS_put (j := 5) hp (by omega) tf.2.1 (nI (N 5)) 1 v
        rw [e]; exact DW_eq hp (by omega) d
      rw [k1, sh_b2_some, k2, sh_b2_some, if_pos rfl, q_nar0, sh_b2_some, q_nar0, if_pos rfl]
      exact TO_fail tf dw rfl
  · have dw : DW sp F T H (Option.bind (sh_b2 (f_Reader_kindTold NF H1) (fun v3 h4 => Option.bind (f_Rows_put (7 * sp + 5) v 1 v3 h4) (fun h5 => some h5))) (fun h4 => f_Reader_equation NF (7 * sp + 5) sp h4)) := by
      obtain ⟨w, H'', e', d'⟩ := DS_kind hp tf.2.1
      obtain ⟨H3, e3, d3⟩ := DS_put (j := 5) hp (by omega) d' v 1 w
      rw [e', sh_b2_some, e3]; exact DW_eq hp (by omega) d3
    rw [e1, sh_b2_some]
    refine TO_fail tf dw ?_
    rcases e2 with ⟨h1, h2⟩ | ⟨h1, h2⟩
    · have : N 5 < 12 := h1
      rw [if_neg (show ¬ nI (N 5) = 12 from nI_ne (b := 12) (by omega) (by omega) (by omega)), h2, sh_b2_some, if_pos rfl, q_nar0, sh_b2_some, q_nar0, if_pos rfl]
    · have : N 5 = 12 := h1
      rw [if_pos (show nI (N 5) = 12 by rw [this]; rfl), h2, sh_b2_some, q_nar0, if_pos rfl]
