/-! PAIR: read: the tell of a boat -/
theorem R_boat {B : Nat → Nat} {n sz a lf lt sp z : Nat} {N : Nat → Nat} {A V : Nat → Nat} {H G : sh_H} (hp : sp < 2) (p : PS B n sz a lf lt H G) (gg : tG B n a) (cx : CX B n a lf sp N z A V H G) : TO B n sz a sp H G (f_Reader_tellBoat NF (7 * sp + 6) sp H) (sh_b2 (f_M_tellBoat NF G) (fun v1 h2 => if ai_nar 1 v1 = 0 then some (0, h2) else semi h2)) := by
  have c2 := cx.2.1
  have n6 : N 0 ≤ 6 := (c2 0 (by omega)).1
  have n4 : N 1 ≤ 4 := (c2 1 (by omega)).1
  have za : z ≤ a := cx.2.2.2.2.2.1
  have eb : (250 : Int32) + 5 * nI (N 6) = nI (250 + 5 * N 6) := nIe 250 5 (N 6)
  unfold f_Reader_tellBoat f_M_tellBoat
  rw [show f_M_told 6 G = _ from M_tab (j := 6) (by omega) cx, Option.bind_some, eb]
  rcases TT_open (j := 6) hp (by omega) p gg cx.1 (c2 6 (by omega)).2.1 (c2 6 (by omega)).1 cx.qs with ⟨hlt, H1, G1, e1, e2, t1, g1⟩ | ⟨F, T, v, H1, G1, e1, e2, tf⟩
  · have hlt6 : N 6 < 12 := hlt
    rw [e1, sh_b2_some, if_neg (show ¬ nI (N 6) = 12 from nI_ne (b := 12) (by omega) (by omega) (by omega)), e2, sh_b2_some, if_neg q_10]
    rcases TT_place hp (by omega) hlt n6 n4 t1 with ⟨c0, H2, G2, lf2, lt2, f1, f2, t2, f3, f4⟩ | ⟨F, T, v, H2, G2, f1, f2, tf⟩
    · obtain ⟨G3, q3, t3, u3⟩ := TT_tell (c := 0) (k := 250 + 5 * N 6) (by omega) hlt (by decide) (by show 250 + 5 * N 6 = 250 + 5 * N 6 + 0; omega) (G2.1 12 0 19 + 1) t2
      have at3 : G3.1 12 0 7 = nI (a + 1 + 1) := t3.1.2.2.2.2.1
      have at2 : H2.1 5 0 3 = nI (a + 1 + 1) := t3.1.2.2.1
      rw [f1, sh_b2_some, f2, sh_b2_some, if_neg q_10, q3, Option.bind_some, at2, at3]
      rcases TT_num (lo := 0) (hi := 11) hp (by omega) hlt (by omega) (by omega) t3 with ⟨v, H4, G4, lf4, lt4, k1, k2, k3, k4, t4, k5, k6, k7, k8⟩ | ⟨F, T, v, H4, G4, k1, k2, tf⟩
      · obtain ⟨G5, q5, t5, u5⟩ := TT_tell (c := 1) (k := 250 + 5 * N 6 + 1) (by omega) hlt (by decide) rfl (nI v) t4
        have u19 : G5.1 12 0 19 = nI v := (u5 19).trans k3
        rw [show f_Reader_number 0 11 H2 = _ from k1, sh_b2_some, show f_M_takesInt 0 11 G3 = _ from k2, sh_b2_some, if_neg q_10, k3, nI_1, q5, Option.bind_some]
        -- the cells of the row
        have cU0 : G5.1 13 46 (2250 + 5 * N 6) = G2.1 12 0 19 + 1 := by
          have := t5.2.1.2.2.2.1 0 (by decide)
          rw [up1_ne (by decide), up1_eq rfl] at this
          rw [show 2250 + 5 * N 6 = 2000 + tb_b 6 + tb_s 6 * N 6 + 0 by show 2250 + 5 * N 6 = 2000 + 250 + 5 * N 6 + 0; omega, this]
        -- rows told ahead
        have rows : lf = 0 → ∀ k, k < N 6 → (G5.1 13 46 (2250 + 5 * k) = G.1 13 46 (2250 + 5 * k) ∧ G5.1 13 46 (2251 + 5 * k) = G.1 13 46 (2251 + 5 * k)) ∧ (H4.1 13 (9 * sp + 6) (k * 5) = G.1 13 46 (2250 + 5 * k) ∧ H4.1 13 (9 * sp + 6) (k * 5 + 1) = G.1 13 46 (2251 + 5 * k)) ∧ rgv (G.1 13 46 (2251 + 5 * k)) 0 11 := by
          intro l0 k hk
          obtain ⟨y1, y2⟩ := cx.2.2.2.2.2.2.2 l0 6 (by omega) k hk
          have r0 := y1.1 0 (by omega) (by decide)
          have r1 := y1.1 1 (by omega) (by decide)
          have gg5 := t5.2.1.2.2.2.2.2.1
          have hh4 := t4.2.1.2.2.2.2.1.1
          have mul : 5 * (k + 1) ≤ 5 * N 6 := Nat.mul_le_mul_left 5 hk
          have s0 : G5.1 13 46 (2250 + 5 * k) = G.1 13 46 (2250 + 5 * k) := gg5 _ _ _ (by omega) (by omega) (by
            show ¬ (13 = 13 ∧ 46 = 46 ∧ (2250 + 5 * k = 2000 + 6 ∨ 2250 + 5 * k = 2010 ∨ (2000 + 250 + 5 * N 6 ≤ 2250 + 5 * k ∧ 2250 + 5 * k < 2000 + 250 + 5 * N 6 + 5) ∨ (3000 ≤ 2250 + 5 * k ∧ 2250 + 5 * k < 4000)))
            omega)
          have s1 : G5.1 13 46 (2251 + 5 * k) = G.1 13 46 (2251 + 5 * k) := gg5 _ _ _ (by omega) (by omega) (by
            show ¬ (13 = 13 ∧ 46 = 46 ∧ (2251 + 5 * k = 2000 + 6 ∨ 2251 + 5 * k = 2010 ∨ (2000 + 250 + 5 * N 6 ≤ 2251 + 5 * k ∧ 2251 + 5 * k < 2000 + 250 + 5 * N 6 + 5) ∨ (3000 ≤ 2251 + 5 * k ∧ 2251 + 5 * k < 4000)))
            omega)
          have s2 : ∀ d, d < 5 → H4.1 13 (9 * sp + 6) (k * 5 + d) = H.1 13 (9 * sp + 6) (k * 5 + d) := fun d hd => hh4 _ _ _ (by omega) (by omega) (by
            show ¬ (13 = 13 ∧ 9 * sp + 6 = 9 * sp + 6 ∧ N 6 * 5 ≤ k * 5 + d ∧ k * 5 + d < N 6 * 5 + 5)
            omega) (by omega) (by omega)
          refine ⟨⟨s0, s1⟩, ⟨(s2 0 (by omega)).trans (r0.trans ?_), (s2 1 (by omega)).trans (r1.trans ?_)⟩, ?_⟩
          · show G.1 13 46 (2000 + 250 + 5 * k + 0) = _
            rw [show 2000 + 250 + 5 * k + 0 = 2250 + 5 * k by omega]
          · show G.1 13 46 (2000 + 250 + 5 * k + 1) = _
            rw [show 2000 + 250 + 5 * k + 1 = 2251 + 5 * k by omega]
          · have : rgv (G.1 13 46 (2000 + 250 + 5 * k + 1)) 0 11 := y2.2.1
            rw [show 2251 + 5 * k = 2000 + 250 + 5 * k + 1 by omega]
            exact this
        have szH : H4.1 6 (7 * sp + 6) 3 = nI (N 6 + 1) := t4.2.1.2.1
        obtain ⟨w, w1, w2⟩ := C_bt hp t4.2.1.1 (by omega) szH c0 (nI v)
        have mbo := fun hl => M_bt (s := N 6) (x := a + 1 + 1) t5.1.1 (by have := t5.1.2.1; omega) hlt6 (f_M_tellBoat_b153 NF) (N 6) 0 NF lf4 lt4 G5 (by omega) (NF_gt (by omega)) t5.1.ml hl (fun _ _ _ _ => rfl) rfl
        rw [w1, Option.bind_some]
        -- a boat told twice, or not
        have mid : ∃ H6 G6 lf6 lt6, (if w = -1 then f_Reader_tellBoat_b47 NF (7 * sp + 6) (nI (N 6)) c0 (nI v) H4 else Option.bind (f_Reader_failLater 3 (nI (a + 1 + 1)) H4) (fun h22 => f_Reader_tellBoat_b47 NF (7 * sp + 6) (nI (N 6)) c0 (nI v) h22)) = f_Reader_tellBoat_b47 NF (7 * sp + 6) (nI (N 6)) c0 (nI v) H6 ∧ f_M_tellBoat_l86 NF (f_M_tellBoat_b153 NF) NF (nI (N 6)) (nI (250 + 5 * N 6)) (nI (a + 1 + 1)) 0 G5 = f_M_tellBoat_b153 NF (nI (N 6)) (nI (250 + 5 * N 6)) G6 ∧ TT B n sz (a + 1 + 1 + 1) lf6 lt6 sp 6 (N 6) z A V (N 0) (N 1) (fun _ => 0) (up1 (up1 (fun c => G.1 13 46 (2000 + tb_b 6 + tb_s 6 * N 6 + c)) 0 (G2.1 12 0 19 + 1)) 1 (nI v)) H6 G6 H G ∧ (lf6 = 0 → lf4 = 0) := by
          have p5 := t5.1
          have mk : ∀ {H6 G6 : sh_H} {lf6 lt6 : Nat}, CL lf6 lt6 H6 → ML2 B n lf6 lt6 G6 → (∀ c i j, ¬ (c = 5 ∧ i = 0 ∧ (j = 6 ∨ j = 7)) → H6.1 c i j = H4.1 c i j) → H6.2 = H4.2 → (∀ c i j, ¬ (c = 12 ∧ i = 0 ∧ (j = 10 ∨ j = 11)) → G6.1 c i j = G5.1 c i j) → G6.2 = G5.2 → (lf6 ≠ 0 → lt6 < a + 1 + 1 + 1) → (lf6 = 0 → lf4 = 0) → TT B n sz (a + 1 + 1 + 1) lf6 lt6 sp 6 (N 6) z A V (N 0) (N 1) (fun _ => 0) (up1 (up1 (fun c => G.1 13 46 (2000 + tb_b 6 + tb_s 6 * N 6 + c)) 0 (G2.1 12 0 19 + 1)) 1 (nI v)) H6 G6 H G := by
            intro H6 G6 lf6 lt6 h1 h2 h3 h4 h5 h6 h7 h8
            have f := f5_of h3 h4
            have g := f12_of h5 h6
            exact ⟨PS_mk (TK_f f g p5.1) p5.2.1 ((h3 _ _ _ (by omega)).trans p5.2.2.1) ((h3 _ _ _ (by omega)).trans p5.2.2.2.1) ((h5 _ _ _ (by omega)).trans p5.2.2.2.2.1) h1 h2 h7, TS_f (by omega) hlt f g t5.2.1, QS_f f g h8 t5.2.2⟩
          have lt4' := p5.lt
          by_cases l4 : lf4 = 0
          · obtain ⟨l2, v1, v2⟩ := k5 l4
            obtain ⟨l0, r, r1, r2, r3⟩ := f3 l2
            have cU : G5.1 13 46 (2250 + 5 * N 6) = nI (r + 1) := by rw [cU0, r3, nI_1]
            have iff : (∃ j, 0 ≤ j ∧ j < N 6 ∧ mB G5 (N 6) j) ↔ ¬ w = -1 := by
              rw [w2]
              have last : ¬ (H4.1 13 (9 * sp + 6) (N 6 * 5) = c0 ∧ H4.1 13 (9 * sp + 6) (N 6 * 5 + 1) = nI v) := by
                intro ⟨z1, _⟩
                have := t4.2.1.2.2.1 0 (by decide)
                rw [show H4.1 13 (9 * sp + 6) (N 6 * 5) = 0 from this, r2] at z1
                exact nI_ne0 (n := r + 1) (by omega) (by omega) z1.symm
              constructor
              · rintro ⟨j, -, j1, m1, m2, m3⟩ h
                obtain ⟨⟨a1, a2⟩, ⟨b1, b2⟩, -⟩ := rows l0 j j1
                exact h j (by omega) ⟨by rw [b1, ← a1, m2, cU, r2], by rw [b2, ← a2, m3, u19]⟩
              · intro h
                by_cases ex : ∃ j, 0 ≤ j ∧ j < N 6 ∧ mB G5 (N 6) j
                · exact ex
                · exfalso
                  apply h
                  intro k hk ⟨z1, z2⟩
                  by_cases kn : k = N 6
                  · rw [kn] at z1 z2; exact last ⟨z1, z2⟩
                  · obtain ⟨⟨a1, a2⟩, ⟨b1, b2⟩, -⟩ := rows l0 k (by omega)
                    exact ex ⟨k, Nat.zero_le _, by omega, by rw [cU]; exact nI_lt (a := 0) (by omega) (by omega), by rw [a1, ← b1, z1, r2, cU], by rw [a2, ← b2, z2, u19]⟩
            obtain ⟨G6, lf6, lt6, s1, s2, s3, s4, s5, s6⟩ := mbo (fun _ z => absurd l4 z)
            by_cases ww : w = -1
            · obtain ⟨y1, y2⟩ := s6 (fun z => iff.mp z ww)
              rw [if_pos ww]
              rw [y1, y2] at s2
              exact ⟨H4, G6, lf4, lt4, rfl, s1, mk p5.cl s2 (fun _ _ _ _ => rfl) rfl s3 s4 p5.lt id, id⟩
            · obtain ⟨y1, y2⟩ := s5 (iff.mpr ww)
              rw [y1, y2] at s2
              obtain ⟨H6, d1, d2, d3, d4⟩ := C_later (k := 3) (x := a + 1 + 1) p5.cl (by omega)
              rw [if_neg ww, show f_Reader_failLater 3 (nI (a + 1 + 1)) H4 = _ from d1, Option.bind_some]
              exact ⟨H6, G6, _, _, rfl, s1, mk d2 s2 d3 d4 s3 s4 (fun _ => by unfold upt; rw [if_pos l4]; omega) (fun _ => l4), fun _ => l4⟩
          · have cc : (if w = -1 then f_Reader_tellBoat_b47 NF (7 * sp + 6) (nI (N 6)) c0 (nI v) H4 else Option.bind (f_Reader_failLater 3 (nI (a + 1 + 1)) H4) (fun h22 => f_Reader_tellBoat_b47 NF (7 * sp + 6) (nI (N 6)) c0 (nI v) h22)) = f_Reader_tellBoat_b47 NF (7 * sp + 6) (nI (N 6)) c0 (nI v) H4 := by
              rw [show f_Reader_failLater 3 (nI (a + 1 + 1)) H4 = some H4 from TT_laterC (k := 3) (by omega) l4 t4, Option.bind_some, ite_self]
            obtain ⟨G6, lf6, lt6, s1, s2, s3, s4, s5, s6⟩ := mbo (fun ⟨j, _, j1, j2⟩ _ => by
              rcases k6 l4 with ⟨y1, y2⟩ | ⟨y1, y2, y3⟩
              · have := t3.1.lt (by rw [← y1]; exact l4)
                exact Or.inl (by omega)
              · exfalso
                obtain ⟨l0, -⟩ := f3 y1
                obtain ⟨⟨a1, a2⟩, -, x, b1, b2, b3⟩ := rows l0 j j1
                have := j2.2.2
                rw [a2, b3, u19] at this
                have := (nI_eq (by omega) (by omega)).mp this
                omega)
            have ee : lf6 = lf4 ∧ lt6 = lt4 := by
              by_cases ex : ∃ j, 0 ≤ j ∧ j < N 6 ∧ mB G5 (N 6) j
              · obtain ⟨y1, y2⟩ := s5 ex
                rw [upf_n l4] at y1
                rw [upt_n l4] at y2
                exact ⟨y1, y2⟩
              · exact s6 ex
            rw [ee.1, ee.2] at s2
            rw [cc]
            exact ⟨H4, G6, lf4, lt4, rfl, s1, mk p5.cl s2 (fun _ _ _ _ => rfl) rfl s3 s4 p5.lt id, id⟩
        obtain ⟨H6, G6, lf6, lt6, m1, m2, t6, m3⟩ := mid
        rw [m1, m2]
        obtain ⟨H7, p7, t7⟩ := TT_put (c := 0) hp (by omega) hlt (by decide) c0 t6
        obtain ⟨H8, p8, t8⟩ := TT_put (c := 1) hp (by omega) hlt (by decide) (nI v) t7
        unfold f_Reader_tellBoat_b47 f_M_tellBoat_b153
        rw [show f_Rows_put (7 * sp + 6) (nI (N 6)) 0 c0 H6 = _ from p7, Option.bind_some, show f_Rows_put (7 * sp + 6) (nI (N 6)) 1 (nI v) H7 = _ from p8, Option.bind_some]
        rcases TT_num (lo := 1) (hi := 999) hp (by omega) hlt (by omega) (by omega) t8 with ⟨va, H9, G9, lf9, lt9, o1, o2, o3, o4, t9, o5, o6, o7, o8⟩ | ⟨F, T, va, H9, G9, o1, o2, tf⟩
        · obtain ⟨Ha, pa, ta⟩ := TT_put (c := 2) hp (by omega) hlt (by decide) (nI va) t9
          obtain ⟨Ga, qa, ta', ua⟩ := TT_tell (c := 2) (k := 250 + 5 * N 6 + 2) (by omega) hlt (by decide) rfl (nI va) ta
          rw [show f_Reader_number 1 999 H8 = _ from o1, sh_b2_some, show f_Rows_put (7 * sp + 6) (nI (N 6)) 2 (nI va) H9 = _ from pa, Option.bind_some, show f_M_takesInt 1 999 G6 = _ from o2, sh_b2_some, if_neg q_10, o3, show (2 : Int32) = nI 2 from rfl, show (3 : Int32) = nI 3 from rfl, show (4 : Int32) = nI 4 from rfl, nI_add, nI_add, nI_add, qa, Option.bind_some]
          rcases TT_num (lo := 0) (hi := 999) hp (by omega) hlt (by omega) (by omega) ta' with ⟨vb, Hb, Gb, lfb, ltb, x1, x2, x3, x4, tb, x5, x6, x7, x8⟩ | ⟨F, T, vb, Hb, Gb, x1, x2, tf⟩
          · obtain ⟨Hc, pc, tc⟩ := TT_put (c := 3) hp (by omega) hlt (by decide) (nI vb) tb
            obtain ⟨Gc, qc, tc', uc⟩ := TT_tell (c := 3) (k := 250 + 5 * N 6 + 3) (by omega) hlt (by decide) rfl (nI vb) tc
            obtain ⟨Gd, qd, td, ud⟩ := TT_tell (c := 4) (k := 250 + 5 * N 6 + 4) (by omega) hlt (by decide) rfl 0 tc'
            have tl := tT_lt B n (a + 1 + 1 + 1 + 1 + 1)
            have iw : f_M_isWord 8 Gd = some (if tT B n (a + 1 + 1 + 1 + 1 + 1) = 8 then 1 else 0) := M_isWord (w := 8) td.1.1 td.1.2.1 td.1.2.2.2.2.1 (by omega)
            rw [show f_Reader_number 0 999 Ha = _ from x1, sh_b2_some, show f_Rows_put (7 * sp + 6) (nI (N 6)) (nI 3) (nI vb) Hb = _ from pc, Option.bind_some, C_up td.1, Option.bind_some, show f_M_takesInt 0 999 Ga = _ from x2, sh_b2_some, if_neg q_10, x3, qc, Option.bind_some, qd, Option.bind_some, iw, Option.bind_some]
            -- the end, with the row's cells known
            have last : ∀ {ae lfe lte : Nat} {He Ge : sh_H} (ve : Nat), ve ≤ 10 ∨ lfe ≠ 0 → (lfe = 0 → lfb = 0) → a < ae → TT B n sz ae lfe lte sp 6 (N 6) z A V (N 0) (N 1) (up1 (up1 (up1 (up1 (up1 (fun _ => 0) 0 c0) 1 (nI v)) 2 (nI va)) 3 (nI vb)) 4 (nI ve)) (up1 (up1 (up1 (up1 (up1 (fun c => G.1 13 46 (2000 + tb_b 6 + tb_s 6 * N 6 + c)) 0 (G2.1 12 0 19 + 1)) 1 (nI v)) 2 (nI va)) 3 (nI vb)) 4 (nI ve)) He Ge H G → TO B n sz a sp H G (f_Reader_tellBoat_b117 NF He) (sh_b2 (f_M_tellBoat_b248 NF (nI (N 6)) Ge) (fun v1 h2 => if ai_nar 1 v1 = 0 then some (0, h2) else semi h2)) := by
              intro ae lfe lte He Ge ve hve hlf hae te
              obtain ⟨Gf, qf, tf', uf⟩ := TT_count (by omega) hlt (nI (N 6 + 1)) te
              unfold f_Reader_tellBoat_b117 f_M_tellBoat_b248
              rw [nI_1, show f_M_tell 6 (nI (N 6 + 1)) Ge = _ from qf, Option.bind_some, sh_b2_some, q_nar1, q_nar1, if_neg q_10]
              rcases TT_semi hp (by omega) hlt tf' with ⟨Hx, Gx, z1, z2, z3, z4⟩ | ⟨F, T, Hx, Gx, z1, z2, tf⟩
              · rw [z1, z2]
                refine Or.inl ⟨Hx, Gx, _, lfe, lte, up0 N 6 (N 6 + 1), z, A, V, rfl, rfl, z3.1, CX_next (N0' := N 0) (N1' := N 1) hp (by decide) rfl hlt cx z3.2.1 ((z4 _ (by omega) (by omega)).trans uf) z3.2.2.1 z3.2.2.2.1 cx.2.2.2.2.1 (Nat.le_refl _) (fun _ _ => rfl) (by omega) rfl rfl z3.2.2.2.2.1 (fun le => ?_), by omega, z3.2.1.2.2.2.2.1.r (by decide), z3.2.1.2.2.2.2.2.r (by decide) hlt⟩
                obtain ⟨l9, y7, y8⟩ := x5 (hlf le)
                obtain ⟨l6, y5, y6⟩ := o5 l9
                obtain ⟨l2, y3, y4⟩ := k5 (m3 l6)
                obtain ⟨l0, r, r1, r2, r3⟩ := f3 l2
                rw [r2, r3, nI_1]
                exact ⟨l0, rel6, ⟨r + 1, by omega, by omega, rfl⟩, ⟨v, y3, y4, rfl⟩, ⟨va, y5, y6, rfl⟩, ⟨vb, y7, y8, rfl⟩, ⟨ve, Nat.zero_le _, by rcases hve with h | h; exact h; exact absurd le h, rfl⟩⟩
              · rw [z1, z2]
                exact Or.inr ⟨F, T, Hx, Gx, rfl, rfl, tf⟩
            by_cases c8 : tT B n (a + 1 + 1 + 1 + 1 + 1) = 8
            · rw [if_pos (show nI (tT B n (a + 1 + 1 + 1 + 1 + 1)) = 8 by rw [c8]; rfl), if_pos c8, if_neg q_10]
              rcases TT_pass hp (by omega) hlt ⟨by omega, by omega⟩ td with ⟨He, Ge, z1, z2, te⟩ | ⟨F, T, He, Ge, z1, z2, tf⟩
              · rw [z1, Option.bind_some, z2, sh_b2_some, if_neg q_10]
                rcases TT_num (lo := 0) (hi := 10) hp (by omega) hlt (by omega) (by omega) te with ⟨ve, Hf, Gf, lff, ltf, y1, y2, y3, y4, tf, y5, y6, y7, y8⟩ | ⟨F, T, ve, Hf, Gf, y1, y2, tf⟩
                · obtain ⟨Hg, pg, tg⟩ := TT_put (c := 4) hp (by omega) hlt (by decide) (nI ve) tf
                  obtain ⟨Gg, qg, tg', ug⟩ := TT_tell (c := 4) (k := 250 + 5 * N 6 + 4) (by omega) hlt (by decide) rfl (nI ve) tg
                  rw [show f_Reader_number 0 10 He = _ from y1, sh_b2_some, show f_Rows_put (7 * sp + 6) (nI (N 6)) (nI 4) (nI ve) Hf = _ from pg, Option.bind_some, show f_M_takesInt 0 10 Ge = _ from y2, sh_b2_some, if_neg q_10, y3, qg, Option.bind_some]
                  have uu : up1 (up1 (up1 (up1 (up1 (up1 (fun c => G.1 13 46 (2000 + tb_b 6 + tb_s 6 * N 6 + c)) 0 (G2.1 12 0 19 + 1)) 1 (nI v)) 2 (nI va)) 3 (nI vb)) 4 0) 4 (nI ve) = up1 (up1 (up1 (up1 (up1 (fun c => G.1 13 46 (2000 + tb_b 6 + tb_s 6 * N 6 + c)) 0 (G2.1 12 0 19 + 1)) 1 (nI v)) 2 (nI va)) 3 (nI vb)) 4 (nI ve) := by
                    funext d
                    by_cases e : d = 4
                    · rw [up1_eq e, up1_eq e]
                    · rw [up1_ne e, up1_ne e, up1_ne e]
                  rw [uu] at tg'
                  exact last ve (by
                    by_cases le : lff = 0
                    · exact Or.inl (y5 le).2.2
                    · exact Or.inr le) (fun le => (y5 le).1) (by omega) tg'
                · rw [show f_Reader_number 0 10 He = _ from y1, sh_b2_some, show f_M_takesInt 0 10 Ge = _ from y2, sh_b2_some, if_pos rfl, q_nar0, sh_b2_some, q_nar0, if_pos rfl]
                  exact TO_fail tf (DW_put hp (by omega) tf.2.1 (fun H d => DW_b117 d)) rfl
              · rw [z1, Option.bind_some, z2, sh_b2_some, if_pos rfl, q_nar0, sh_b2_some, q_nar0, if_pos rfl]
                exact TO_fail tf (DW_num hp tf.2.1 (fun v H d => DW_put hp (by omega) d (fun H d => DW_b117 d))) rfl
            · rw [if_neg (show ¬ nI (tT B n (a + 1 + 1 + 1 + 1 + 1)) = 8 from nI_ne (b := 8) c8 (by omega) (by omega)), if_neg c8, if_pos rfl]
              have vv : TT B n sz (a + 1 + 1 + 1 + 1 + 1) lfb ltb sp 6 (N 6) z A V (N 0) (N 1) (up1 (up1 (up1 (up1 (up1 (fun _ => 0) 0 c0) 1 (nI v)) 2 (nI va)) 3 (nI vb)) 4 (nI 0)) (up1 (up1 (up1 (up1 (up1 (fun c => G.1 13 46 (2000 + tb_b 6 + tb_s 6 * N 6 + c)) 0 (G2.1 12 0 19 + 1)) 1 (nI v)) 2 (nI va)) 3 (nI vb)) 4 (nI 0)) Hc Gd H G := by
                have uu : up1 (up1 (up1 (up1 (up1 (fun _ => (0 : Int32)) 0 c0) 1 (nI v)) 2 (nI va)) 3 (nI vb)) 4 (nI 0) = up1 (up1 (up1 (up1 (fun _ => 0) 0 c0) 1 (nI v)) 2 (nI va)) 3 (nI vb) := by
                  funext d
                  by_cases e : d = 4
                  · rw [e, up1_eq rfl]; rfl
                  · rw [up1_ne e]
                rw [uu]
                exact td
              exact last 0 (Or.inl (by omega)) id (by omega) vv
          · rw [show f_Reader_number 0 999 Ha = _ from x1, sh_b2_some, show f_M_takesInt 0 999 Ga = _ from x2, sh_b2_some, if_pos rfl, q_nar0, sh_b2_some, q_nar0, if_pos rfl]
            exact TO_fail tf (DW_put hp (by omega) tf.2.1 (fun H d => DW_b47r hp d)) rfl
        · rw [show f_Reader_number 1 999 H8 = _ from o1, sh_b2_some, show f_M_takesInt 1 999 G6 = _ from o2, sh_b2_some, if_pos rfl, q_nar0, sh_b2_some, q_nar0, if_pos rfl]
          exact TO_fail tf (DW_put hp (by omega) tf.2.1 (fun H d => DW_num hp d (fun v H d => DW_put hp (by omega) d (fun H d => DW_b47r hp d)))) rfl
      · rw [show f_Reader_number 0 11 H2 = _ from k1, sh_b2_some, show f_M_takesInt 0 11 G3 = _ from k2, sh_b2_some, if_pos rfl, q_nar0, sh_b2_some, q_nar0, if_pos rfl]
        exact TO_fail tf (DW_boat hp tf.2.1 (fun w => DW_if (DW_b47 hp tf.2.1) (DW_later hp tf.2.1 (fun H d => DW_b47 hp d)))) rfl
    · rw [f1, sh_b2_some, f2, sh_b2_some, if_pos rfl, q_nar0, sh_b2_some, q_nar0, if_pos rfl]
      exact TO_fail tf (DW_num hp tf.2.1 (fun v H d => DW_boat hp d (fun w => DW_if (DW_b47 hp d) (DW_later hp d (fun H d => DW_b47 hp d))))) rfl
  · rw [e1, sh_b2_some]
    refine TO_fail tf (DW_place hp tf.2.1 (fun v H d => DW_num hp d (fun v H d => DW_boat hp d (fun w => DW_if (DW_b47 hp d) (DW_later hp d (fun H d => DW_b47 hp d)))))) ?_
    rcases e2 with ⟨h1, h2⟩ | ⟨h1, h2⟩
    · have : N 6 < 12 := h1
      rw [if_neg (show ¬ nI (N 6) = 12 from nI_ne (b := 12) (by omega) (by omega) (by omega)), h2, sh_b2_some, if_pos rfl, q_nar0, sh_b2_some, q_nar0, if_pos rfl]
    · have : N 6 = 12 := h1
      rw [if_pos (show nI (N 6) = 12 by rw [this]; rfl), h2, sh_b2_some, q_nar0, if_pos rfl]
