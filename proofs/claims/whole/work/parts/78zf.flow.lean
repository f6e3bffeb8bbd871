/-! PAIR: read: tells of flows and boats -/
theorem TT_laterM {B : Nat → Nat} {n sz a lf lt sp j s z k x : Nat} {A V : Nat → Nat} {N0 N1 : Nat} {Vr Ur : Nat → Int32} {H G H0 G0 : sh_H} (hj : j < 7) (hs : s < sh_m j) (hk : 1 ≤ k ∧ k ≤ 5) (hx : x < a) (l0 : lf ≠ 0) (hl : lt < x ∨ (lt = x ∧ lf ≤ k)) (t : TT B n sz a lf lt sp j s z A V N0 N1 Vr Ur H G H0 G0) : ∃ G', f_M_tells (nI k) (nI x) G = some G' ∧ TT B n sz a lf lt sp j s z A V N0 N1 Vr Ur H G' H0 G0 := by
  have p := t.1
  obtain ⟨G', g1, g2, g3, g4⟩ := M_tells (k := k) (x := x) p.1 (by have := p.2.1; omega) p.ml hk (fun _ => hl)
  rw [upf_n l0, upt_n l0] at g2
  have g := f12_of g3 g4
  exact ⟨G', g1, PS_mk (TK_f (f5.rf H) g p.1) p.2.1 p.2.2.1 p.2.2.2.1 ((g3 _ _ _ (by omega)).trans p.2.2.2.2.1) p.cl g2 p.lt, TS_f hj hs (f5.rf H) g t.2.1, QS_f (f5.rf H) g id t.2.2⟩
theorem rel4 {U0 : Nat → Int32} {a b k c d : Int32} : relV 4 (up1 (up1 (up1 (up1 (up1 (fun _ => 0) 0 a) 2 b) 1 k) 3 c) 4 d) (up1 (up1 (up1 (up1 (up1 U0 0 a) 1 b) 2 k) 3 c) 4 d) := by
  refine ⟨fun d hd h9 => ?_, fun z => by omega⟩
  match d, hd, h9 with
  | 0, _, _ => rfl
  | 1, _, _ => rfl
  | 2, _, _ => rfl
  | 3, _, _ => rfl
  | 4, _, _ => rfl
theorem rel6 {U0 : Nat → Int32} {a b c d e : Int32} : relV 6 (up1 (up1 (up1 (up1 (up1 (fun _ => 0) 0 a) 1 b) 2 c) 3 d) 4 e) (up1 (up1 (up1 (up1 (up1 U0 0 a) 1 b) 2 c) 3 d) 4 e) := by
  refine ⟨fun d hd h9 => ?_, fun z => by omega⟩
  match d, hd, h9 with
  | 0, _, _ => rfl
  | 1, _, _ => rfl
  | 2, _, _ => rfl
  | 3, _, _ => rfl
  | 4, _, _ => rfl
theorem DW_b38 {sp F T : Nat} {H H0 : sh_H} {x v8 v10 : Int32} (hp : sp < 2) (d : DS sp F T H H0) : DW sp F T H0 (f_Reader_tellFlow_b38 NF (7 * sp + 4) x v8 v10 H) := DW_put hp (by omega) d (fun H d => DW_put hp (by omega) d (fun H d => DW_kind hp d (fun v H d => DW_put hp (by omega) d (fun H d => DW_some d))))
theorem DW_fl {sp F T : Nat} {H0 : sh_H} {e : Option sh_H} (hp : sp < 2) (h : DW sp F T H0 e) : DW sp F T H0 (Option.bind e (fun h4 => f_Reader_equation NF (7 * sp + 4) sp h4)) := by
  obtain ⟨H', e1, d⟩ := h
  rw [e1]; exact DW_eq hp (by omega) d
theorem R_flow {B : Nat → Nat} {n sz a lf lt sp z : Nat} {N : Nat → Nat} {A V : Nat → Nat} {H G : sh_H} (hp : sp < 2) (p : PS B n sz a lf lt H G) (gg : tG B n a) (cx : CX B n a lf sp N z A V H G) : TO B n sz a sp H G (Option.bind (f_Reader_tellFlow NF (7 * sp + 4) H) (fun h4 => f_Reader_equation NF (7 * sp + 4) sp h4)) (sh_b2 (f_M_tellFlow NF G) (fun v1 h2 => if ai_nar 1 v1 = 0 then some (0, h2) else semi h2)) := by
  have c2 := cx.2.1
  have n6 : N 0 ≤ 6 := (c2 0 (by omega)).1
  have n4 : N 1 ≤ 4 := (c2 1 (by omega)).1
  have za : z ≤ a := cx.2.2.2.2.2.1
  have eb : (150 : Int32) + 5 * nI (N 4) = nI (150 + 5 * N 4) := nIe 150 5 (N 4)
  unfold f_Reader_tellFlow f_M_tellFlow
  rw [show f_M_told 4 G = _ from M_tab (j := 4) (by omega) cx, Option.bind_some, eb]
  rcases TT_open (j := 4) hp (by omega) p gg cx.1 (c2 4 (by omega)).2.1 (c2 4 (by omega)).1 cx.qs with ⟨hlt, H1, G1, e1, e2, t1, g1⟩ | ⟨F, T, v, H1, G1, e1, e2, tf⟩
  · have hlt6 : N 4 < 12 := hlt
    rw [e1, sh_b2_some, if_neg (show ¬ nI (N 4) = 12 from nI_ne (b := 12) (by omega) (by omega) (by omega)), e2, sh_b2_some, if_neg q_10]
    rcases TT_placeH hp (by omega) hlt n6 n4 t1 with ⟨c0, H2, G2, lf2, lt2, f1, f2, t2, f3, f4, f5'⟩ | ⟨F, T, v, H2, G2, f1, f2, tf⟩
    · obtain ⟨G3, q3, t3, u3⟩ := TT_tell (c := 0) (k := 150 + 5 * N 4) (by omega) hlt (by decide) (by show 150 + 5 * N 4 = 150 + 5 * N 4 + 0; omega) (G2.1 12 0 19) t2
      have at3 : G3.1 12 0 7 = nI (a + 1 + 1) := t3.1.2.2.2.2.1
      rw [f1, sh_b2_some, f2, sh_b2_some, if_neg q_10, q3, Option.bind_some, f5', at3]
      rcases TT_placeH hp (by omega) hlt n6 n4 t3 with ⟨c1, H4, G4, lf4, lt4, k1, k2, t4, k3, k4, k5⟩ | ⟨F, T, v, H4, G4, k1, k2, tf⟩
      · obtain ⟨G5, q5, t5, u5⟩ := TT_tell (c := 1) (k := 150 + 5 * N 4 + 1) (by omega) hlt (by decide) rfl (G4.1 12 0 19) t4
        have told0 : f_M_told (nI (150 + 5 * N 4)) G5 = some (G2.1 12 0 19) := by
          rw [M_told2 (by omega)]
          have := t5.2.1.2.2.2.1 0 (by decide)
          rw [up1_ne (by decide), up1_eq rfl] at this
          rw [show 2000 + (150 + 5 * N 4) = 2000 + tb_b 4 + tb_s 4 * N 4 + 0 by show 2000 + (150 + 5 * N 4) = 2000 + 150 + 5 * N 4 + 0; omega, this]
        rw [k1, sh_b2_some, k2, sh_b2_some, if_neg q_10, nI_1, q5, Option.bind_some, u5 19, told0, Option.bind_some]
        -- the two places
        have mid : ∃ H6 G6 lf6 lt6, (if c0 = c1 then Option.bind (f_Reader_failLater 5 (nI (a + 1 + 1)) H4) (fun h12 => f_Reader_tellFlow_b38 NF (7 * sp + 4) (nI (N 4)) c0 c1 h12) else f_Reader_tellFlow_b38 NF (7 * sp + 4) (nI (N 4)) c0 c1 H4) = f_Reader_tellFlow_b38 NF (7 * sp + 4) (nI (N 4)) c0 c1 H6 ∧ (if G4.1 12 0 19 < 0 then f_M_tellFlow_b101 NF (nI (N 4)) (nI (150 + 5 * N 4)) G5 else if G2.1 12 0 19 = G4.1 12 0 19 then Option.bind (f_M_tells 5 (nI (a + 1 + 1)) G5) (fun h19 => f_M_tellFlow_b101 NF (nI (N 4)) (nI (150 + 5 * N 4)) h19) else f_M_tellFlow_b101 NF (nI (N 4)) (nI (150 + 5 * N 4)) G5) = f_M_tellFlow_b101 NF (nI (N 4)) (nI (150 + 5 * N 4)) G6 ∧ TT B n sz (a + 1 + 1 + 1) lf6 lt6 sp 4 (N 4) z A V (N 0) (N 1) (fun _ => 0) (up1 (up1 (fun c => G.1 13 46 (2000 + tb_b 4 + tb_s 4 * N 4 + c)) 0 (G2.1 12 0 19)) 1 (G4.1 12 0 19)) H6 G6 H G ∧ (lf6 = 0 → lf4 = 0) := by
          by_cases l4 : lf4 = 0
          · obtain ⟨l2, r1, r1l, r1c, r1v⟩ := k3 l4
            obtain ⟨l0, r0, r0l, r0c, r0v⟩ := f3 l2
            rw [r1v, r0v, r0c, r1c, if_neg (nI_pos (by omega))]
            rw [r1v, r0v] at t5
            by_cases e : r0 = r1
            · obtain ⟨H6, G6, s1, s2, s3, s4, s5⟩ := TT_later (k := 5) (x := a + 1 + 1) (by omega) hlt (by omega) (by omega) (fun z => absurd l4 z) t5
              rw [if_pos (by rw [e]), if_pos (by rw [e]), show f_Reader_failLater 5 (nI (a + 1 + 1)) H4 = _ from s1, show f_M_tells 5 (nI (a + 1 + 1)) G5 = _ from s2]
              exact ⟨H6, G6, _, _, rfl, rfl, s3, fun _ => l4⟩
            · rw [if_neg (nI_ne e (by omega) (by omega)), if_neg (nI_ne e (by omega) (by omega))]
              exact ⟨H4, G5, lf4, lt4, rfl, rfl, t5, id⟩
          · have cc : (if c0 = c1 then Option.bind (f_Reader_failLater 5 (nI (a + 1 + 1)) H4) (fun h12 => f_Reader_tellFlow_b38 NF (7 * sp + 4) (nI (N 4)) c0 c1 h12) else f_Reader_tellFlow_b38 NF (7 * sp + 4) (nI (N 4)) c0 c1 H4) = f_Reader_tellFlow_b38 NF (7 * sp + 4) (nI (N 4)) c0 c1 H4 := by
              rw [show f_Reader_failLater 5 (nI (a + 1 + 1)) H4 = some H4 from TT_laterC (k := 5) (by omega) l4 t4, Option.bind_some, ite_self]
            rw [cc]
            have lt3 := t4.1.lt l4
            have lf5 := t4.1.cl.2.1
            obtain ⟨G6, s1, s2⟩ := TT_laterM (k := 5) (x := a + 1 + 1) (by omega) hlt (by omega) (by omega) l4 (by omega) t5
            by_cases w : G4.1 12 0 19 < 0
            · rw [if_pos w]; exact ⟨H4, G5, lf4, lt4, rfl, rfl, t5, id⟩
            · rw [if_neg w]
              by_cases e : G2.1 12 0 19 = G4.1 12 0 19
              · rw [if_pos e, show f_M_tells 5 (nI (a + 1 + 1)) G5 = _ from s1]
                exact ⟨H4, G6, lf4, lt4, rfl, rfl, s2, id⟩
              · rw [if_neg e]; exact ⟨H4, G5, lf4, lt4, rfl, rfl, t5, id⟩
        obtain ⟨H6, G6, lf6, lt6, m1, m2, t6, m3⟩ := mid
        rw [m1, m2]
        obtain ⟨H7, p7, t7⟩ := TT_put (c := 0) hp (by omega) hlt (by decide) c0 t6
        obtain ⟨H8, p8, t8⟩ := TT_put (c := 2) hp (by omega) hlt (by decide) c1 t7
        unfold f_Reader_tellFlow_b38 f_M_tellFlow_b101
        rw [show f_Rows_put (7 * sp + 4) (nI (N 4)) 0 c0 H6 = _ from p7, Option.bind_some, show f_Rows_put (7 * sp + 4) (nI (N 4)) 2 c1 H7 = _ from p8, Option.bind_some]
        rcases TT_kind hp (by omega) hlt n6 n4 t8 with ⟨c3, H9, G9, lf9, lt9, o1, o2, t9, o3, o4⟩ | ⟨F, T, v, H9, G9, o1, o2, tf⟩
        · obtain ⟨Ha, pa, ta⟩ := TT_put (c := 1) hp (by omega) hlt (by decide) c3 t9
          obtain ⟨Ga, qa, ta', ua⟩ := TT_tell (c := 2) (k := 150 + 5 * N 4 + 2) (by omega) hlt (by decide) rfl (G9.1 12 0 19) ta
          obtain ⟨Gb, qb, tb, ub⟩ := TT_count (by omega) hlt (nI (N 4 + 1)) ta'
          rw [o1, sh_b2_some, show f_Rows_put (7 * sp + 4) (nI (N 4)) 1 c3 H9 = _ from pa, Option.bind_some, Option.bind_some, o2, sh_b2_some, if_neg q_10, show (2 : Int32) = nI 2 from rfl, show (3 : Int32) = nI 3 from rfl, nI_add, nI_add, qa, Option.bind_some, nI_1, show f_M_tell 4 (nI (N 4 + 1)) Ga = _ from qb, Option.bind_some, b2_nar2]
          rcases TT_eq (cF := 3) (k := 150 + 5 * N 4 + 3) hp (by omega) hlt (by decide) (by decide) rfl (by omega) cx.2.2.2.2.1 tb with ⟨Hx, Gx, a', z', A', V', x1, x2, x3, x4, x5, x6, x7, x8, x9, x10⟩ | ⟨F, T, Hx, Gx, x1, x2, tf⟩
          · rw [x1, x2]
            have ux := x10.trans ub
            refine Or.inl ⟨Hx, Gx, a', lf9, lt9, up0 N 4 (N 4 + 1), z', A', V', rfl, rfl, x3.1, CX_next (N0' := N 0) (N1' := N 1) hp (by decide) rfl hlt cx x3.2.1 ux x3.2.2.1 x3.2.2.2.1 x9 x6 (fun k hk => (x7 k hk).1) x5 rfl rfl x3.2.2.2.2.1 (fun l9 => ?_), by omega, x3.2.1.2.2.2.2.1.r (by decide), x3.2.1.2.2.2.2.2.r (by decide) hlt⟩
            obtain ⟨l6, r, r1, r2, r3⟩ := o3 l9
            obtain ⟨l2, s, s1, s2, s3⟩ := k3 (m3 l6)
            obtain ⟨l0, w, w1, w2, w3⟩ := f3 l2
            rw [r2, r3, s2, s3, w2, w3]
            exact ⟨l0, rel4, ⟨w, by omega, w1, rfl⟩, ⟨s, by omega, s1, rfl⟩, ⟨by omega, r, by omega, by omega, rfl⟩, z, z', x6, Nat.le_refl _, rfl, rfl, x8⟩
          · rw [x1, x2]
            exact Or.inr ⟨F, T, Hx, Gx, rfl, rfl, tf⟩
        · rw [o1, sh_b2_some, o2, sh_b2_some, if_pos rfl, q_nar0, sh_b2_some, q_nar0, if_pos rfl]
          exact TO_fail tf (DW_fl hp (DW_put hp (by omega) tf.2.1 (fun H d => DW_some d))) rfl
      · rw [k1, sh_b2_some, k2, sh_b2_some, if_pos rfl, q_nar0, sh_b2_some, q_nar0, if_pos rfl]
        exact TO_fail tf (DW_fl hp (DW_if (DW_later hp tf.2.1 (fun H d => DW_b38 hp d)) (DW_b38 hp tf.2.1))) rfl
    · rw [f1, sh_b2_some, f2, sh_b2_some, if_pos rfl, q_nar0, sh_b2_some, q_nar0, if_pos rfl]
      exact TO_fail tf (DW_fl hp (DW_place hp tf.2.1 (fun v H d => DW_if (DW_later hp d (fun H d => DW_b38 hp d)) (DW_b38 hp d)))) rfl
  · rw [e1, sh_b2_some]
    refine TO_fail tf (DW_fl hp (DW_place hp tf.2.1 (fun v H d => DW_place hp d (fun v H d => DW_if (DW_later hp d (fun H d => DW_b38 hp d)) (DW_b38 hp d))))) ?_
    rcases e2 with ⟨h1, h2⟩ | ⟨h1, h2⟩
    · have : N 4 < 12 := h1
      rw [if_neg (show ¬ nI (N 4) = 12 from nI_ne (b := 12) (by omega) (by omega) (by omega)), h2, sh_b2_some, if_pos rfl, q_nar0, sh_b2_some, q_nar0, if_pos rfl]
    · have : N 4 = 12 := h1
      rw [if_pos (show nI (N 4) = 12 by rw [this]; rfl), h2, sh_b2_some, q_nar0, if_pos rfl]
