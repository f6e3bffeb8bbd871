/-! PAIR: read: one tell, all tells -/
theorem bs_id (x : Option sh_H) : Option.bind x (fun h => some h) = x := by cases x <;> rfl
theorem mso_n {S : Nat} : (¬ S < 13 → mso S ≠ 3) ∧ (¬ S = 23 → mso S ≠ 4) := by
  refine ⟨fun h e => ?_, fun h e => ?_⟩
  · unfold mso at e
    rw [if_neg h] at e
    repeat' split at e
    all_goals omega
  · unfold mso at e
    rw [if_neg h] at e
    repeat' split at e
    all_goals omega
theorem M_one {B : Nat → Nat} {n sz a lf lt : Nat} {H G : sh_H} (p : PS B n sz a lf lt H G) : f_M_tellOne NF G = f_M_tellOne_b26 NF (if tT B n a < 13 then nI (tT B n a) else -1) G := by
  have a4 := p.a4
  have mt := p.1.2.2.2.2.2.1 a p.2.1
  unfold f_M_tellOne
  rw [p.2.2.2.2.1, if_pos (q_in (by omega) (by omega)), if_pos (q_in (by omega) (by omega)), q_cl (by omega), mt.1]
  by_cases c : tT B n a < 13
  · rw [if_pos c, if_pos (show nI (mso (tT B n a)) = (3 : Int32) by unfold mso; rw [if_pos c]; rfl), mt.2.2.1 (Or.inl c)]
  · rw [if_neg c, if_neg (show ¬ nI (mso (tT B n a)) = (3 : Int32) from nI_ne (b := 3) (mso_n.1 c) (by have := mso_lt (tT B n a); omega) (by omega))]
theorem R_bad {B : Nat → Nat} {n sz a lf lt sp z : Nat} {N : Nat → Nat} {A V : Nat → Nat} {H G : sh_H} (hp : sp < 2) (p : PS B n sz a lf lt H G) (cx : CX B n a lf sp N z A V H G) : TO B n sz a sp H G (f_Reader_tell_b174 NF H) (sh_b2 (sh_b2 (f_M_wrong (1 : Int32) G) (fun v15 h16 => (some ((ai_nar 1 v15), h16)))) (fun v1 h2 => if v1 = 0 then some (0, h2) else semi h2)) := by
  obtain ⟨H', e, d, f⟩ := C_fail p (F := 1) (Or.inl rfl)
  obtain ⟨G', e', fa, f'⟩ := M_wrongs (F := 1) p.1 p.2.1 p.2.2.2.2.1
  have c6 := cx.2.1 6 (by omega)
  unfold f_Reader_tell_b174
  rw [bs_id, show f_Reader_fail 1 H = some H' from e, show sh_b2 (f_M_wrong (1 : Int32) G) (fun v15 h16 => (some ((ai_nar 1 v15), h16))) = some (0, G') from e', sh_b2_some, if_pos rfl]
  exact Or.inr ⟨1, a, H', G', rfl, rfl, p.2.1, ⟨d, f.r, RC_of cx.1 (fun r i _ _ => f.1 _ _ _ (by omega)), N 6, c6.1, (f.1 _ _ _ (by omega)).trans c6.2.1⟩, fa, f'.y⟩
theorem tell_n (x : Int32) (sp : Nat) (H : sh_H) (h : x = 5 ∨ (¬ x = 0 ∧ ¬ x = 1 ∧ ¬ x = 2 ∧ ¬ x = 3 ∧ ¬ x = 4 ∧ ¬ x = 6 ∧ ¬ x = 7)) : f_Reader_tell NF sp x H = f_Reader_tell_b174 NF H := by
  unfold f_Reader_tell
  rcases h with rfl | ⟨h0, h1, h2, h3, h4, h6, h7⟩
  · rw [if_neg (by decide), if_neg (by decide), if_neg (by decide), if_neg (by decide), if_neg (by decide), if_pos rfl]
  · rw [if_neg h0, if_neg h1, if_neg h2, if_neg h3, if_neg h4, if_neg h6, if_neg h7, ite_self]
theorem one_n (x : Int32) (G : sh_H) (h0 : ¬ x = 0) (h1 : ¬ x = 1) (h2 : ¬ x = 2) (h3 : ¬ x = 3) (h4 : ¬ x = 4) (h6 : ¬ x = 6) (h7 : ¬ x = 7) : f_M_tellOne_b26 NF x G = sh_b2 (f_M_wrong (1 : Int32) G) (fun v15 h16 => (some ((ai_nar 1 v15), h16))) := by
  unfold f_M_tellOne_b26
  rw [if_neg h0, if_neg h1, if_neg h2, if_neg h3, if_neg h4, if_neg h6, if_neg h7]
theorem R_tell {B : Nat → Nat} {n sz a lf lt sp z : Nat} {N : Nat → Nat} {A V : Nat → Nat} {H G : sh_H} (hp : sp < 2) (p : PS B n sz a lf lt H G) (h23 : tT B n a ≠ 23) (cx : CX B n a lf sp N z A V H G) : TO B n sz a sp H G (f_Reader_tell NF sp (nI (tT B n a)) H) (sh_b2 (f_M_tellOne NF G) (fun v1 h2 => if v1 = 0 then some (0, h2) else semi h2)) := by
  rw [M_one p]
  have lt100 := tT_lt B n a
  have gg : tT B n a < 8 → tG B n a := fun h => ⟨by omega, by omega⟩
  generalize hk : tT B n a = k at gg lt100
  have ne : ∀ b, k ≠ b → b < 100 → ¬ nI k = nI b := fun b h hb => nI_ne h (by omega) (by omega)
  by_cases c8 : k < 8
  · rw [if_pos (show k < 13 by omega)]
    have g := gg c8
    by_cases k5 : k = 5
    · subst k5
      show TO B n sz a sp H G (f_Reader_tell NF sp (5 : Int32) H) (sh_b2 (f_M_tellOne_b26 NF (5 : Int32) G) _)
      rw [tell_n _ _ _ (Or.inl rfl), one_n _ _ (by decide) (by decide) (by decide) (by decide) (by decide) (by decide) (by decide)]
      exact R_bad hp p cx
    match k, c8, k5 with
    | 0, _, _ =>
      unfold f_Reader_tell f_M_tellOne_b26
      rw [if_pos (show nI 0 = (0 : Int32) from rfl), if_pos (show nI 0 = (0 : Int32) from rfl), b2_nar, bs_id]
      exact R_kind hp p g cx
    | 1, _, _ =>
      unfold f_Reader_tell f_M_tellOne_b26
      rw [if_neg (by decide), if_pos (show nI 1 = (1 : Int32) from rfl), if_neg (by decide), if_pos (show nI 1 = (1 : Int32) from rfl), b2_nar, bs_id]
      exact R_island hp p g cx
    | 2, _, _ =>
      unfold f_Reader_tell f_M_tellOne_b26
      rw [if_neg (by decide), if_neg (by decide), if_pos (show nI 2 = (2 : Int32) from rfl), if_neg (by decide), if_neg (by decide), if_pos (show nI 2 = (2 : Int32) from rfl), b2_nar]
      simp only [bs_id]
      exact R_want (j := 2) hp (Or.inl rfl) p g cx
    | 3, _, _ =>
      unfold f_Reader_tell f_M_tellOne_b26
      rw [if_neg (by decide), if_neg (by decide), if_neg (by decide), if_pos (show nI 3 = (3 : Int32) from rfl), if_neg (by decide), if_neg (by decide), if_neg (by decide), if_pos (show nI 3 = (3 : Int32) from rfl), b2_nar]
      simp only [bs_id]
      exact R_want (j := 3) hp (Or.inr rfl) p g cx
    | 4, _, _ =>
      unfold f_Reader_tell f_M_tellOne_b26
      rw [if_neg (by decide), if_neg (by decide), if_neg (by decide), if_neg (by decide), if_pos (show nI 4 = (4 : Int32) from rfl), if_neg (by decide), if_neg (by decide), if_neg (by decide), if_neg (by decide), if_pos (show nI 4 = (4 : Int32) from rfl), b2_nar]
      simp only [bs_id]
      exact R_flow hp p g cx
    | 6, _, _ =>
      unfold f_Reader_tell f_M_tellOne_b26
      rw [if_neg (by decide), if_neg (by decide), if_neg (by decide), if_neg (by decide), if_neg (by decide), if_neg (by decide), if_pos (show nI 6 = (6 : Int32) from rfl), if_neg (by decide), if_neg (by decide), if_neg (by decide), if_neg (by decide), if_neg (by decide), if_pos (show nI 6 = (6 : Int32) from rfl), b2_nar]
      simp only [bs_id]
      exact R_wear hp p g cx
    | 7, _, _ =>
      unfold f_Reader_tell f_M_tellOne_b26
      rw [if_neg (by decide), if_neg (by decide), if_neg (by decide), if_neg (by decide), if_neg (by decide), if_neg (by decide), if_neg (by decide), if_pos (show nI 7 = (7 : Int32) from rfl), if_neg (by decide), if_neg (by decide), if_neg (by decide), if_neg (by decide), if_neg (by decide), if_neg (by decide), if_pos (show nI 7 = (7 : Int32) from rfl), b2_nar, bs_id]
      exact R_boat hp p g cx
  · rw [tell_n _ _ _ (Or.inr ⟨ne 0 (by omega) (by omega), ne 1 (by omega) (by omega), ne 2 (by omega) (by omega), ne 3 (by omega) (by omega), ne 4 (by omega) (by omega), ne 6 (by omega) (by omega), ne 7 (by omega) (by omega)⟩)]
    by_cases c13 : k < 13
    · rw [if_pos c13, one_n _ _ (ne 0 (by omega) (by omega)) (ne 1 (by omega) (by omega)) (ne 2 (by omega) (by omega)) (ne 3 (by omega) (by omega)) (ne 4 (by omega) (by omega)) (ne 6 (by omega) (by omega)) (ne 7 (by omega) (by omega))]
      exact R_bad hp p cx
    · rw [if_neg c13, one_n _ _ (by decide) (by decide) (by decide) (by decide) (by decide) (by decide) (by decide)]
      exact R_bad hp p cx
/-! all tells -/
theorem wrong_0 {x : Int32} {G : sh_H} {v : Int32} {G' : sh_H} (h : f_M_wrong x G = some (v, G')) : v = 0 := by
  unfold f_M_wrong at h
  simp only [sh_let] at h
  split at h
  · rw [q_nar0] at h
    cases h
    rfl
  · cases h
theorem b41_0 {G : sh_H} {v : Int32} {G' : sh_H} (h : f_M_parses_b41 NF G = some (v, G')) : v = 0 := by
  unfold f_M_parses_b41 at h
  cases e : f_M_wrong 1 G with
  | none => rw [e] at h; cases h
  | some y =>
    obtain ⟨w, K⟩ := y
    have := wrong_0 e
    rw [e, this, sh_b2_some, q_nar0] at h
    cases h
    rfl
def prs (k10 : sh_H → Option (Int32 × sh_H)) (X : Option (Int32 × sh_H)) : Option (Int32 × sh_H) := sh_b2 X (fun v1 h2 => (if v1 = 0 then (some ((ai_nar 1 (0 : Int32)), h2)) else (Option.bind (f_M_isSign (59 : Int32) h2) (fun v3 => (if v3 = 0 then f_M_parses_b41 NF h2 else (sh_b2 (f_M_pass h2) (fun v4 h5 => (if v4 = 0 then (some ((ai_nar 1 (0 : Int32)), h5)) else k10 h5))))))))
theorem prs_eq {k10 : sh_H → Option (Int32 × sh_H)} {X : Option (Int32 × sh_H)} {v : Int32} {G' : sh_H} (h : sh_b2 X (fun v1 h2 => if v1 = 0 then some (0, h2) else semi h2) = some (v, G')) (hv : v = 0 ∨ v = 1) : prs k10 X = if v = 0 then some (0, G') else k10 G' := by
  unfold prs
  cases X with
  | none => cases h
  | some y =>
    obtain ⟨w, K⟩ := y
    rw [sh_b2_some] at h ⊢
    by_cases c : w = 0
    · rw [if_pos c] at h ⊢
      cases h
      rw [if_pos rfl, q_nar0]
    · rw [if_neg c] at h ⊢
      unfold semi at h
      cases e : f_M_isSign 59 K with
      | none => rw [e] at h; cases h
      | some s =>
        rw [e, Option.bind_some] at h
        rw [Option.bind_some]
        by_cases c1 : s = 0
        · rw [if_pos c1] at h ⊢
          rw [h, b41_0 h, if_pos rfl]
        · rw [if_neg c1] at h ⊢
          cases e2 : f_M_pass K with
          | none => rw [e2] at h; cases h
          | some q =>
            obtain ⟨u, L⟩ := q
            rw [e2, sh_b2_some] at h
            rw [sh_b2_some]
            by_cases c2 : u = 0
            · rw [if_pos c2] at h ⊢
              cases h
              rw [if_pos rfl, q_nar0]
            · rw [if_neg c2] at h ⊢
              cases h
              rw [if_neg q_10]
theorem M_p10 {B : Nat → Nat} {n sz a lf lt um : Nat} {H G : sh_H} (p : PS B n sz a lf lt H G) : f_M_parses_l10 NF (f_M_parses_b41 NF) (um + 1) G = if tT B n a = 23 then some (1, G) else prs (f_M_parses_l10 NF (f_M_parses_b41 NF) um) (f_M_tellOne NF G) := by
  have a4 := p.a4
  have c := tT_cl B n a
  show f_M_parses_c10 NF (f_M_parses_b41 NF) (f_M_parses_l10 NF (f_M_parses_b41 NF) um) G = _
  unfold f_M_parses_c10 prs
  rw [p.2.2.2.2.1, if_pos (q_in (by omega) (by omega)), q_cl (by omega), M_so p]
  by_cases h : tT B n a = 23
  · rw [if_pos h, h, if_pos (show nI (mso 23) = (4 : Int32) by decide), q_nar1]
  · rw [if_neg h, if_neg (show ¬ nI (mso (tT B n a)) = (4 : Int32) from nI_ne (b := 4) (mso_n.2 h) (by have := mso_lt (tT B n a); omega) (by omega))]
def LO (B : Nat → Nat) (n sz sp : Nat) (H G : sh_H) (K : sh_H → Option (Int32 × sh_H)) (e m : Option (Int32 × sh_H)) : Prop := (∃ H' G' a' lf' lt' N' z' A' V', e = K H' ∧ m = some (1, G') ∧ PS B n sz a' lf' lt' H' G' ∧ CX B n a' lf' sp N' z' A' V' H' G' ∧ yC sp H' H ∧ yM G' G) ∨ (∃ F T H' G', e = K H' ∧ m = some (0, G') ∧ TF B n sz sp H G F T H' G')
theorem R_loop {B : Nat → Nat} {n sz sp : Nat} (hp : sp < 2) (K : sh_H → Option (Int32 × sh_H)) : ∀ (u um i a lf lt : Nat) (N : Nat → Nat) (z : Nat) (A V : Nat → Nat) (H G : sh_H), 500 ≤ u + a → 500 ≤ um + a → 2 * i ≤ a → PS B n sz a lf lt H G → CX B n a lf sp N z A V H G → LO B n sz sp H G K (f_Reader_examine_l45 NF K u sp (nI i) H) (f_M_parses_l10 NF (f_M_parses_b41 NF) um G) := by
  intro u
  induction u with
  | zero =>
    intro um i a lf lt N z A V H G h1 h2 h3 p cx
    have := p.a4
    omega
  | succ u ih =>
    intro um i a lf lt N z A V H G h1 h2 h3 p cx
    have a4 := p.a4
    obtain ⟨um, rfl⟩ : ∃ m, um = m + 1 := ⟨um - 1, by omega⟩
    rw [M_p10 p]
    have cut : ∀ R, R = f_Reader_examine_c45 NF K (f_Reader_examine_l45 NF K u) sp (nI i) H → f_Reader_examine_l45 NF K (u + 1) sp (nI i) H = R := fun R e => e.symm
    rw [cut _ rfl]
    unfold f_Reader_examine_c45
    rw [if_pos (show nI i < (400 : Int32) from nI_lt (b := 400) (by omega) (by omega)), if_pos p.2.2.2.1, C_up p, Option.bind_some, Option.bind_some]
    by_cases h : tT B n a = 23
    · rw [if_pos (show nI (tT B n a) = (23 : Int32) by rw [h]; rfl), if_pos h]
      exact Or.inl ⟨H, G, a, lf, lt, N, z, A, V, rfl, rfl, p, cx, yC.rf sp H, yM.rf G⟩
    · have l1 := tT_lt B n a
      rw [if_neg (show ¬ nI (tT B n a) = (23 : Int32) from nI_ne (b := 23) h (by omega) (by omega)), if_neg h]
      rcases R_tell hp p h cx with ⟨H', G', a', lf', lt', N', z', A', V', e, m, p', cx', ha, y1, y2⟩ | ⟨F, T, H', G', e, m, tf⟩
      · rw [e, Option.bind_some, prs_eq m (Or.inr rfl), if_neg q_10, nI_1]
        rcases ih um (i + 1) a' lf' lt' N' z' A' V' H' G' (by omega) (by omega) (by omega) p' cx' with ⟨H2, G2, a2, lf2, lt2, N2, z2, A2, V2, e2, m2, p2, c2, w1, w2⟩ | ⟨F, T, H2, G2, e2, m2, tf⟩
        · exact Or.inl ⟨H2, G2, a2, lf2, lt2, N2, z2, A2, V2, e2, m2, p2, c2, w1.tr y1, w2.tr y2⟩
        · refine Or.inr ⟨F, T, H2, G2, e2, m2, tf.1, ?_, tf.2.2.1, tf.2.2.2.tr y2⟩
          obtain ⟨d1, d2, d3, d4⟩ := tf.2.1
          exact ⟨d1, d2.tr y1, d3, d4⟩
      · rw [e, Option.bind_some, prs_eq m (Or.inl rfl), if_pos rfl, nI_1]
        refine Or.inr ⟨F, T, H', G', ?_, rfl, tf⟩
        obtain ⟨u, rfl⟩ : ∃ m, u = m + 1 := ⟨u - 1, by omega⟩
        have cut : ∀ R, R = f_Reader_examine_c45 NF K (f_Reader_examine_l45 NF K u) sp (nI (i + 1)) H' → f_Reader_examine_l45 NF K (u + 1) sp (nI (i + 1)) H' = R := fun R e => e.symm
        rw [cut _ rfl]
        unfold f_Reader_examine_c45
        rw [if_neg tf.2.1.1.ne, ite_self]
