/-! PAIR: read: a new name -/
theorem NR_add {B : Nat → Nat} {n N0 N1 a t r : Nat} {H G H' G' : sh_H} (h : NR B n N0 N1 H G) (ha : tT B n a = 20) (ht : t < 2) (hr : r = NN t N0 N1) (new : ∀ j, j < N0 + N1 → ¬ G.2.1 14 7 j = lN (tY B n a)) (c1 : ∀ i j, i = 1 ∨ i = 2 → ¬ (i = 1 + t ∧ j = r) → H'.2.1 14 i j = H.2.1 14 i j) (c2 : H'.2.1 14 (1 + t) r = lN (tX B n a)) (g1 : ∀ j, j ≠ N0 + N1 → G'.2.1 14 7 j = G.2.1 14 7 j) (g2 : G'.2.1 14 7 (N0 + N1) = lN (tY B n a)) (g3 : ∀ i j, i = 47 ∨ i = 48 → j ≠ N0 + N1 → G'.1 13 i j = G.1 13 i j) (g4 : G'.1 13 47 (N0 + N1) = nI t) (g5 : G'.1 13 48 (N0 + N1) = nI r) : NR B n (N0 + (if t = 0 then 1 else 0)) (N1 + (if t = 0 then 0 else 1)) H' G' := by
  obtain ⟨x, s, m, h1, h2, h3, h4, h5⟩ := h
  have es : N0 + (if t = 0 then 1 else 0) + (N1 + (if t = 0 then 0 else 1)) = N0 + N1 + 1 := by
    by_cases z : t = 0
    · rw [if_pos z, if_pos z]; omega
    · rw [if_neg z, if_neg z]; omega
  have en : ∀ q, q < 2 → NN q (N0 + (if t = 0 then 1 else 0)) (N1 + (if t = 0 then 0 else 1)) = NN q N0 N1 + (if q = t then 1 else 0) := by
    intro q hq
    unfold NN
    rcases (show q = 0 ∨ q = 1 by omega) with rfl | rfl
    · rcases (show t = 0 ∨ t = 1 by omega) with rfl | rfl <;> simp
    · rcases (show t = 0 ∨ t = 1 by omega) with rfl | rfl <;> simp
  have tn : ∀ k, k < N0 + N1 → ¬ tX B n (x k) = tX B n a := by
    intro k hk e
    obtain ⟨a1, a2, a3, a4, a5, a6, a7⟩ := h1 k hk
    apply new k hk
    rw [a4, (tX_iff a1 ha).mp e]
  refine ⟨fun k => if k = N0 + N1 then a else x k, fun k => if k = N0 + N1 then t else s k, fun k => if k = N0 + N1 then r else m k, fun k hk => ?_, fun q i hq hi => ?_, fun k k' hk hk' e => ?_, fun i hi hi6 => ?_, fun i hi hi4 => ?_⟩
  · rw [es] at hk
    by_cases z : k = N0 + N1
    · subst z
      simp only [if_pos]
      refine ⟨ha, ht, ?_, g2, g4, g5, c2⟩
      rw [en t ht, if_pos rfl, hr]
      omega
    · simp only [if_neg z]
      obtain ⟨a1, a2, a3, a4, a5, a6, a7⟩ := h1 k (by omega)
      refine ⟨a1, a2, ?_, (g1 k z).trans a4, (g3 47 k (Or.inl rfl) z).trans a5, (g3 48 k (Or.inr rfl) z).trans a6, (c1 _ _ (by omega) ?_).trans a7⟩
      · rw [en _ a2]; omega
      · intro ⟨q1, q2⟩
        have : s k = t := by omega
        rw [this, ← hr] at a3
        omega
  · rw [en q hq] at hi
    by_cases z : i < NN q N0 N1
    · obtain ⟨k, k1, k2, k3⟩ := h2 q i hq z
      refine ⟨k, by rw [es]; omega, ?_, ?_⟩
      · show (if k = N0 + N1 then t else s k) = q
        rw [if_neg (by omega)]; exact k2
      · show (if k = N0 + N1 then r else m k) = i
        rw [if_neg (by omega)]; exact k3
    · by_cases w : q = t
      · rw [if_pos w] at hi
        refine ⟨N0 + N1, by rw [es]; omega, ?_, ?_⟩
        · show (if N0 + N1 = N0 + N1 then t else s _) = q
          rw [if_pos rfl]; exact w.symm
        · show (if N0 + N1 = N0 + N1 then r else m _) = i
          rw [if_pos rfl, hr, ← w]; omega
      · rw [if_neg w] at hi
        omega
  · rw [es] at hk hk'
    by_cases z : k = N0 + N1
    · by_cases z' : k' = N0 + N1
      · omega
      · simp only [if_pos z, if_neg z'] at e
        exact absurd e.symm (tn k' (by omega))
    · by_cases z' : k' = N0 + N1
      · simp only [if_neg z, if_pos z'] at e
        exact absurd e (tn k (by omega))
      · simp only [if_neg z, if_neg z'] at e
        exact h3 k k' (by omega) (by omega) e
  · rw [c1 1 i (Or.inl rfl)]
    · exact h4 i (by omega) hi6
    · intro ⟨q1, q2⟩
      have : t = 0 := by omega
      rw [if_pos this] at hi
      unfold NN at hr
      rw [if_pos this] at hr
      omega
  · rw [c1 2 i (Or.inr rfl)]
    · exact h5 i (by omega) hi4
    · intro ⟨q1, q2⟩
      have : ¬ t = 0 := by omega
      rw [if_neg this] at hi
      unfold NN at hr
      rw [if_neg this] at hr
      omega
theorem S_new {B : Nat → Nat} {n sz a lf lt t r N0 N1 : Nat} {H G : sh_H} (p : PS B n sz a lf lt H G) (ht : t < 2) (hr : r = NN t N0 N1) (hb : r < sh_l14 (1 + t)) (n6 : N0 ≤ 6) (n4 : N1 ≤ 4) (hnn : G.1 12 0 15 = nI (N0 + N1)) (nr : lf = 0 → NR B n N0 N1 H G) : (∃ H' G' lf' lt', f_Reader_newName NF (1 + t) (nI r) H = some H' ∧ f_M_names NF (nI t) (nI r) G = some (1, G') ∧ PS B n sz (a + 1) lf' lt' H' G' ∧ fN H' H ∧ gN G' G ∧ G'.1 12 0 15 = nI (N0 + N1 + 1) ∧ (lf' = 0 → lf = 0 ∧ NR B n (N0 + (if t = 0 then 1 else 0)) (N1 + (if t = 0 then 0 else 1)) H' G')) ∨ (∃ F T H' G', f_Reader_newName NF (1 + t) (nI r) H = some H' ∧ f_M_names NF (nI t) (nI r) G = some (0, G') ∧ T < sz ∧ DE F T H' ∧ FA B n F T G' ∧ fN H' H ∧ gN G' G) := by
  have tk := p.1
  have ha := p.2.1
  have h3 := p.2.2.1
  have h4 := p.2.2.2.1
  have g7 := p.2.2.2.2.1
  have a4 := p.a4
  have l6 := l14_6 ht
  unfold f_Reader_newName
  rw [h3, C_val tk ha, Option.bind_some, C_indexOf (l := 1) (by rw [l14_n.1]; omega), Option.bind_some, C_indexOf (l := 2) (by rw [l14_n.2]; omega), Option.bind_some]
  generalize ev : H.2.1 14 0 a = v
  generalize ei : ixr (H.2.1 14 1) v (sh_l14 1) 0 = i1
  generalize ej : ixr (H.2.1 14 2) v (sh_l14 2) 0 = i2
  have cx : ∃ H1, (if i1 = -1 then (if i2 = -1 then f_Reader_newName_b45 NF (1 + t) (nI r) v H else f_Reader_newName_b36 NF (1 + t) (nI r) v H) else f_Reader_newName_b36 NF (1 + t) (nI r) v H) = f_Reader_newName_b45 NF (1 + t) (nI r) v H1 ∧ f5 H1 H ∧ H1.1 5 0 3 = nI a ∧ H1.1 5 0 4 = 0 ∧ ((i1 = -1 ∧ i2 = -1) → CL lf lt H1) ∧ (¬ (i1 = -1 ∧ i2 = -1) → CL (upf lf 3) (upt lf lt a) H1) := by
    obtain ⟨H', e1, e2, e3, e4⟩ := C_later (k := 3) (x := a) p.cl (by omega)
    have b36 : f_Reader_newName_b36 NF (1 + t) (nI r) v H = f_Reader_newName_b45 NF (1 + t) (nI r) v H' := by
      unfold f_Reader_newName_b36
      rw [h3, show f_Reader_failLater 3 (nI a) H = some H' from e1, Option.bind_some]
    by_cases d1 : i1 = -1
    · by_cases d2 : i2 = -1
      · rw [if_pos d1, if_pos d2]
        exact ⟨H, rfl, f5.rf H, h3, h4, fun _ => p.cl, fun z => absurd ⟨d1, d2⟩ z⟩
      · rw [if_pos d1, if_neg d2, b36]
        exact ⟨H', rfl, f5_of e3 e4, (e3 _ _ _ (by omega)).trans h3, (e3 _ _ _ (by omega)).trans h4, fun z => absurd z.2 d2, fun _ => e2⟩
    · rw [if_neg d1, b36]
      exact ⟨H', rfl, f5_of e3 e4, (e3 _ _ _ (by omega)).trans h3, (e3 _ _ _ (by omega)).trans h4, fun z => absurd z.1 d1, fun _ => e2⟩
  obtain ⟨H1, x1, x2, x3, x4, x5, x6⟩ := cx
  rw [x1]
  have t1 : TK B n sz H1 G := TK_f x2 (f12.rf G) tk
  have b45 : f_Reader_newName_b45 NF (1 + t) (nI r) v H1 = Option.bind (f_Reader_expect 20 H1) (fun h1 => some (sh_pJ h1 14 (1 + t) r v)) := by
    unfold f_Reader_newName_b45
    cases f_Reader_expect 20 H1 with
    | none => rfl
    | some h1 =>
      rw [Option.bind_some, Option.bind_some, if_neg (nI_pos (by omega)), q_len, if_pos (nI_lt hb (by omega)), if_pos (q_in hb (by omega)), q_cl (by omega), sh_let]
  rw [b45]
  unfold f_M_names
  have fj : ∀ {X Y : sh_H}, f5 X Y → fN (sh_pJ X 14 (1 + t) r v) Y := fun q => ⟨q.1, fun c i j h => by rw [pJ_2, if_neg (by omega), q.2], by show _ = _; rw [pJ_3, q.2]⟩
  by_cases s : tT B n a = 20
  · have gg : tG B n a := ⟨by omega, by omega⟩
    rw [show (20 : Int32) = nI 20 from rfl, C_exp_y t1 ha x3 s]
    have ty := M_take_y (s := 20) (m := 0) tk ha g7 (Or.inl ⟨rfl, rfl⟩) s
    by_cases a400 : a < 400
    · have su := sz_up tk ha gg a400
      rw [C_acc x3 x4 a400, Option.bind_some, show f_M_takes 0 G = f_M_pass G from ty, M_pas g7 a400, sh_b2_some, if_neg q_10, g7]
      have f2 : f12 (sh_pI G 12 0 7 (nI (a + 1))) G := (f12.rf G).pI (by omega)
      have t2 : TK B n sz H1 (sh_pI G 12 0 7 (nI (a + 1))) := TK_f (f5.rf _) f2 t1
      have m2 : ML2 B n lf lt (sh_pI G 12 0 7 (nI (a + 1))) := ML2_to (fun j hj => pI_ne (by omega)) p.ml
      obtain ⟨G2, lf', lt', r1, r2, r3, r4, r5, r6⟩ := M_nm (nn := N0 + N1) t2 ha (by omega) ((pI_ne (by omega)).trans hnn) (f_M_names_b56 NF) (nI t) (nI r) (N0 + N1) 0 NF lf lt (sh_pI G 12 0 7 (nI (a + 1))) (by omega) (NF_gt (by omega)) m2 (fun z => Or.inl (p.lt z)) (fun _ _ _ _ => rfl) rfl
      rw [show f_M_names_l18 NF (f_M_names_b56 NF) NF (nI t) (nI r) (nI a) 0 (sh_pI G 12 0 7 (nI (a + 1))) = _ from r1]
      have c2 : G2.1 12 0 15 = nI (N0 + N1) := (r3 _ _ _ (by omega)).trans ((pI_ne (by omega)).trans hnn)
      have l2 : G2.2 = G.2 := r4
      have g72 : G2.1 12 0 7 = nI (a + 1) := (r3 _ _ _ (by omega)).trans (pI_at _ _ _ _ _)
      have f3 : f12 G2 G := (f12_of r3 r4).tr f2
      -- the model writes the name
      have ne : f_M_names_b56 NF (nI t) (nI r) (nI a) G2 = some (1, sh_pI (sh_pI (sh_pI (sh_pJ G2 14 7 (N0 + N1) (G2.2.1 14 5 a)) 13 47 (N0 + N1) (nI t)) 13 48 (N0 + N1) (nI r)) 12 0 15 (nI (N0 + N1 + 1))) := by
        have i12 : ai_in (nI (N0 + N1)) 12 := q_in (by omega) (by omega)
        have cl : (nI (N0 + N1)).toNatClampNeg = N0 + N1 := q_cl (by omega)
        have e1 : (sh_pJ G2 14 7 (N0 + N1) (G2.2.1 14 5 a)).1 12 0 15 = nI (N0 + N1) := c2
        have e2 : (sh_pI (sh_pJ G2 14 7 (N0 + N1) (G2.2.1 14 5 a)) 13 47 (N0 + N1) (nI t)).1 12 0 15 = nI (N0 + N1) := (pI_ne (by omega)).trans e1
        have e3 : (sh_pI (sh_pI (sh_pJ G2 14 7 (N0 + N1) (G2.2.1 14 5 a)) 13 47 (N0 + N1) (nI t)) 13 48 (N0 + N1) (nI r)).1 12 0 15 = nI (N0 + N1) := (pI_ne (by omega)).trans e2
        unfold f_M_names_b56
        rw [if_pos (q_in (by omega) (by omega)), c2, if_pos i12, cl, q_cl (by omega), sh_let, e1, if_pos i12, cl, sh_let, e2, if_pos i12, cl, sh_let, e3, sh_let, nI_1, q_nar1]
      rw [ne]
      generalize eG4 : sh_pI (sh_pI (sh_pI (sh_pJ G2 14 7 (N0 + N1) (G2.2.1 14 5 a)) 13 47 (N0 + N1) (nI t)) 13 48 (N0 + N1) (nI r)) 12 0 15 (nI (N0 + N1 + 1)) = G4
      have k1 : ∀ c i j, ¬ (c = 12 ∧ j = 15) → ¬ (c = 13 ∧ (i = 47 ∨ i = 48) ∧ j = N0 + N1) → G4.1 c i j = G2.1 c i j := by
        intro c i j z1 z2
        rw [← eG4, pI_ne (by omega), pI_ne (by omega), pI_ne (by omega)]
        rfl
      have k2 : ∀ c i j, ¬ (c = 14 ∧ i = 7 ∧ j = N0 + N1) → G4.2.1 c i j = G2.2.1 c i j := by
        intro c i j z1
        rw [← eG4]
        show (sh_pJ G2 14 7 (N0 + N1) (G2.2.1 14 5 a)).2.1 c i j = _
        rw [pJ_2, if_neg z1]
      have k3 : G4.2.2 = G2.2.2 := by rw [← eG4]; rfl
      have k4 : G4.1 12 0 15 = nI (N0 + N1 + 1) := by rw [← eG4]; exact pI_at _ _ _ _ _
      have k5 : G4.1 13 47 (N0 + N1) = nI t := by rw [← eG4, pI_ne (by omega), pI_ne (by omega), pI_at]
      have k6 : G4.1 13 48 (N0 + N1) = nI r := by rw [← eG4, pI_ne (by omega), pI_at]
      have k7 : G4.2.1 14 7 (N0 + N1) = G2.2.1 14 5 a := by
        rw [← eG4]
        show (sh_pJ G2 14 7 (N0 + N1) (G2.2.1 14 5 a)).2.1 14 7 (N0 + N1) = _
        rw [pJ_2, if_pos ⟨rfl, rfl, rfl⟩]
      have gn : gN G4 G := ⟨fun c i j z1 z2 => (k1 c i j (by omega) (by omega)).trans (f3.1 c i j (by omega)), fun c i j z => (k2 c i j (by omega)).trans (by rw [l2]), k3.trans (by rw [l2])⟩
      have tk4 : TK B n sz (sh_pJ (sh_pI H1 5 0 3 (nI (a + 1))) 14 (1 + t) r v) G4 := TK_to (fun c i j z => (pI_ne (h := H1) (by omega)).trans (x2.1 c i j (by omega))) (fun j => by rw [pJ_2, if_neg (by omega)]; show H1.2.1 14 0 j = _; rw [x2.2]) (fun i j z1 z2 => gn.1 13 i j (by omega) (by omega)) (fun j => gn.2.1 14 5 j (by omega)) tk
      have mk : ∀ lf1 lt1, CL lf1 lt1 H1 → lf1 = lf' → lt1 = lt' → (lf1 ≠ 0 → lt1 < a + 1) → PS B n sz (a + 1) lf1 lt1 (sh_pJ (sh_pI H1 5 0 3 (nI (a + 1))) 14 (1 + t) r v) G4 := fun lf1 lt1 q1 q2 q3 q4 => PS_mk tk4 su ((pJ_f _ _ _).trans (pI_at H1 _ _ _ _)) ((pJ_f _ _ _).trans ((pI_ne (h := H1) (by omega)).trans x4)) ((k1 _ _ _ (by omega) (by omega)).trans g72) (CL_to (fun j hj => (pJ_f _ _ _).trans (pI_ne (h := H1) (by omega))) q1) (by rw [q2, q3]; exact ML2_to (fun j hj => k1 _ _ _ (by omega) (by omega)) r2) q4
      by_cases l0 : lf = 0
      · have vx : H.2.1 14 0 a = lN (tX B n a) := (tk.2.2.2.2.1 a ha).2.2.1 s
        have vy : G.2.1 14 5 a = lN (tY B n a) := (tk.2.2.2.2.2.1 a ha).2.2.2.2.2 s
        have nr0 := nr l0
        have evx : v = lN (tX B n a) := ev.symm.trans vx
        rw [evx] at ei ej
        -- told already?
        have iff : (∃ j, 0 ≤ j ∧ j < N0 + N1 ∧ G.2.1 14 7 j = G.2.1 14 5 a) ↔ ¬ (i1 = -1 ∧ i2 = -1) := by
          have hs : ∀ j, j < N0 + N1 → G.1 13 47 j = nI 0 ∨ G.1 13 47 j = nI 1 := by
            obtain ⟨x, s', m, q1, -⟩ := nr0
            intro j hj
            obtain ⟨a1, a2, a3, a4, a5, a6, a7⟩ := q1 j hj
            rcases (show s' j = 0 ∨ s' j = 1 by omega) with h | h
            · exact Or.inl (by rw [a5, h])
            · exact Or.inr (by rw [a5, h])
          have f0 := NR_find (t := 0) nr0 n6 n4 s (by omega) vy
          have f1 := NR_find (t := 1) nr0 n6 n4 s (by omega) vy
          rw [show 1 + 0 = 1 from rfl, ei] at f0
          rw [show 1 + 1 = 2 from rfl, ej] at f1
          have nn6 : ∀ t, NN t N0 N1 ≤ 6 := fun t => by unfold NN; split <;> omega
          constructor
          · rintro ⟨j, -, j1, j2⟩ ⟨e1, e2⟩
            rcases hs j j1 with h | h
            · rcases f0 with ⟨r0, k0, b1, b2, b3, b4, b5⟩ | ⟨b1, b2⟩
              · have := nn6 0; exact nI_nm1 (r := r0) (by omega) (b3.symm.trans e1)
              · exact b2 j j1 ⟨j2, h⟩
            · rcases f1 with ⟨r0, k0, b1, b2, b3, b4, b5⟩ | ⟨b1, b2⟩
              · have := nn6 1; exact nI_nm1 (r := r0) (by omega) (b3.symm.trans e2)
              · exact b2 j j1 ⟨j2, h⟩
          · intro z
            rcases f0 with ⟨r0, k0, b1, b2, b3, b4, b5⟩ | ⟨b1, b2⟩
            · exact ⟨k0, Nat.zero_le _, b2, ((b4 k0 b2).mpr rfl).1⟩
            · rcases f1 with ⟨r0, k0, b1', b2', b3, b4, b5⟩ | ⟨b1', b2'⟩
              · exact ⟨k0, Nat.zero_le _, b2', ((b4 k0 b2').mpr rfl).1⟩
              · exact absurd ⟨b1, b1'⟩ z
        by_cases fnd : i1 = -1 ∧ i2 = -1
        · obtain ⟨q1, q2⟩ := r6 (fun z => absurd fnd (iff.mp z))
          refine Or.inl ⟨_, G4, lf, lt, rfl, rfl, mk lf lt (x5 fnd) q1.symm q2.symm (fun z => absurd l0 z), fj x2.pI, gn, k4, fun _ => ⟨l0, ?_⟩⟩
          refine NR_add nr0 s ht hr (fun j hj e => absurd fnd (iff.mp ⟨j, Nat.zero_le _, hj, e.trans vy.symm⟩)) (fun i j z1 z2 => ?_) ?_ (fun j z => ?_) ?_ (fun i j z1 z2 => ?_) k5 k6
          · rw [pJ_2, if_neg (by omega)]; show H1.2.1 14 i j = _; rw [x2.2]
          · rw [pJ_2, if_pos ⟨rfl, rfl, rfl⟩]; exact evx
          · rw [k2 _ _ _ (by omega), l2]
          · rw [k7, l2]; exact vy
          · rw [k1 _ _ _ (by omega) (by omega)]; exact f3.1 13 i j (by omega)
        · obtain ⟨q1, q2⟩ := r5 (iff.mpr fnd)
          refine Or.inl ⟨_, G4, upf lf 3, upt lf lt a, rfl, rfl, mk _ _ (x6 fnd) q1.symm q2.symm (fun z => ?_), fj x2.pI, gn, k4, fun z => ?_⟩
          · unfold upt; rw [if_pos l0]; omega
          · rw [l0] at z; exact absurd z (by decide)
      · have cl1 : CL lf lt H1 := by
          by_cases cn : i1 = -1 ∧ i2 = -1
          · exact x5 cn
          · have := x6 cn
            rw [upf_n l0, upt_n l0] at this
            exact this
        have ml1 : lf' = lf ∧ lt' = lt := by
          by_cases d : ∃ j, 0 ≤ j ∧ j < N0 + N1 ∧ (sh_pI G 12 0 7 (nI (a + 1))).2.1 14 7 j = (sh_pI G 12 0 7 (nI (a + 1))).2.1 14 5 a
          · obtain ⟨q1, q2⟩ := r5 d
            rw [upf_n l0] at q1
            rw [upt_n l0] at q2
            exact ⟨q1, q2⟩
          · exact r6 d
        exact Or.inl ⟨_, G4, lf, lt, rfl, rfl, mk lf lt cl1 ml1.1.symm ml1.2.symm (fun z => by have := p.lt z; omega), fj x2.pI, gn, k4, fun z => absurd z l0⟩
    · obtain rfl : a = 400 := by omega
      obtain ⟨H2, y1, y2, y3⟩ := C_acc4 x3 x4
      obtain ⟨G2, z1, z2, z3⟩ := M_pas4 tk ha g7
      rw [y1, Option.bind_some, show f_M_takes 0 G = f_M_pass G from ty, z1, sh_b2_some, if_pos rfl, q_nar0]
      exact Or.inr ⟨2, 400, _, G2, rfl, rfl, ha, ⟨y2.1, y2.2.1, y2.2.2⟩, z2, fj (y3.tr x2), z3.N⟩
  · obtain ⟨H', r1, r2, r3⟩ := C_exp_n (s := 20) t1 ha x3 x4 (by omega) s
    obtain ⟨G', g1, g2, g3⟩ := M_take_n (s := 20) (m := 0) tk ha g7 (Or.inl ⟨rfl, rfl⟩) s
    rw [show f_Reader_expect 20 H1 = some H' from r1, Option.bind_some, show f_M_takes 0 G = some (0, G') from g1, sh_b2_some, if_pos rfl, q_nar0]
    exact Or.inr ⟨1, a, _, G', rfl, rfl, ha, ⟨r2.1, r2.2.1, r2.2.2⟩, g2, fj (r3.tr x2), g3.N⟩
