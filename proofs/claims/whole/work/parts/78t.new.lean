/-! PAIR: read: kinds, places, new names -/
theorem b2_eta {α : Type} (x : Option (α × sh_H)) : sh_b2 x (fun v h => some (v, h)) = x := by
  cases x with
  | none => rfl
  | some y => rfl
theorem b2_eta' {α β : Type} (e : Option Int64) (f : Int64 → Option Int32) (g : Int32 → Option (α × sh_H)) (k : α → sh_H → Option (β × sh_H)) : Option.bind e (fun v1 => Option.bind (f v1) (fun v2 => sh_b2 (g v2) k)) = sh_b2 (Option.bind e (fun v1 => Option.bind (f v1) (fun v2 => g v2))) k := by
  cases e with
  | none => rfl
  | some v =>
    show Option.bind (f v) _ = sh_b2 (Option.bind (f v) _) k
    cases f v with
    | none => rfl
    | some w => rfl
theorem S_kind {B : Nat → Nat} {n sz a lf lt N0 N1 : Nat} {H G : sh_H} (p : PS B n sz a lf lt H G) (n6 : N0 ≤ 6) (n4 : N1 ≤ 4) (hnn : G.1 12 0 15 = nI (N0 + N1)) (nr : lf = 0 → NR B n N0 N1 H G) : (∃ c H' G', f_Reader_kindTold NF H = some (c, H') ∧ f_M_takesName NF 0 G = some (1, G') ∧ f5 H' H ∧ f12 G' G ∧ ((lf = 0 ∧ PS B n sz (a + 1) lf lt H' G' ∧ ∃ r, r < N0 ∧ c = nI r ∧ G'.1 12 0 19 = nI r) ∨ (∃ lf' lt', lf' ≠ 0 ∧ PS B n sz (a + 1) lf' lt' H' G'))) ∨ FV B n sz H G (f_Reader_kindTold NF H) (f_M_takesName NF 0 G) := by
  have e : f_Reader_kindTold NF H = Option.bind (f_Tokens_valueOf (H.1 5 0 3) H) (fun v1 => Option.bind (f_Reader_indexOf NF (1 + 0) v1 H) (fun v2 => f_Reader_nameTold v2 H)) := by
    unfold f_Reader_kindTold
    rw [b2_eta', b2_eta]
  rw [e]
  exact S_told (t := 0) p (by omega) n6 n4 hnn nr
theorem C_placeTold0 (H : sh_H) : f_Reader_placeTold_b18 NF H = sh_b2 (Option.bind (f_Tokens_valueOf (H.1 5 0 3) H) (fun v1 => Option.bind (f_Reader_indexOf NF (1 + 1) v1 H) (fun v2 => f_Reader_nameTold v2 H))) (fun v3 h4 => if v3 = -1 then some (-1, h4) else some (v3 + 1, h4)) := by
  unfold f_Reader_placeTold_b18
  rw [b2_eta']
theorem nI_nm1 {r : Nat} (h : r < 2 ^ 31) : ¬ nI r = -1 := fun z => nI_pos h (by rw [z]; decide)
theorem S_place {B : Nat → Nat} {n sz a lf lt N0 N1 : Nat} {H G : sh_H} (p : PS B n sz a lf lt H G) (n6 : N0 ≤ 6) (n4 : N1 ≤ 4) (hnn : G.1 12 0 15 = nI (N0 + N1)) (nr : lf = 0 → NR B n N0 N1 H G) : (∃ c H' G', f_Reader_placeTold_b18 NF H = some (c, H') ∧ f_M_takesName NF 1 G = some (1, G') ∧ f5 H' H ∧ f12 G' G ∧ ((lf = 0 ∧ PS B n sz (a + 1) lf lt H' G' ∧ ∃ r, r < N1 ∧ c = nI (r + 1) ∧ G'.1 12 0 19 = nI r) ∨ (∃ lf' lt', lf' ≠ 0 ∧ PS B n sz (a + 1) lf' lt' H' G'))) ∨ FV B n sz H G (f_Reader_placeTold_b18 NF H) (f_M_takesName NF 1 G) := by
  rw [C_placeTold0]
  rcases S_told (t := 1) p (by omega) n6 n4 hnn nr with ⟨c, H', G', e1, e2, e3, e4, e5⟩ | ⟨F, T, v, H', G', e1, e2, e3⟩
  · rw [e1, sh_b2_some]
    rcases e5 with ⟨l0, q, r, r1, r2, r3⟩ | ⟨lf', lt', l1, q⟩
    · have r4 : r < N1 := r1
      rw [r2, if_neg (nI_nm1 (by omega)), nI_1]
      exact Or.inl ⟨_, H', G', rfl, e2, e3, e4, Or.inl ⟨l0, q, r, r4, rfl, r3⟩⟩
    · by_cases d : c = -1
      · rw [if_pos d]
        exact Or.inl ⟨_, H', G', rfl, e2, e3, e4, Or.inr ⟨lf', lt', l1, q⟩⟩
      · rw [if_neg d]
        exact Or.inl ⟨_, H', G', rfl, e2, e3, e4, Or.inr ⟨lf', lt', l1, q⟩⟩
  · rw [e1, sh_b2_some]
    by_cases d : v = -1
    · rw [if_pos d]
      exact Or.inr ⟨F, T, _, H', G', rfl, e2, e3⟩
    · rw [if_neg d]
      exact Or.inr ⟨F, T, _, H', G', rfl, e2, e3⟩
theorem PS_f12 {B : Nat → Nat} {n sz a lf lt : Nat} {H G G' : sh_H} (p : PS B n sz a lf lt H G) (f : f12 G' G) (e : ∀ j, j = 7 ∨ j = 8 ∨ j = 9 ∨ j = 10 ∨ j = 11 → G'.1 12 0 j = G.1 12 0 j) : PS B n sz a lf lt H G' := PS_mk (TK_f (f5.rf H) f p.1) p.2.1 p.2.2.1 p.2.2.2.1 ((e 7 (by omega)).trans p.2.2.2.2.1) p.cl (ML2_to (fun j hj => e j (by omega)) p.ml) p.lt
theorem S_placeH {B : Nat → Nat} {n sz a lf lt N0 N1 : Nat} {H G : sh_H} (p : PS B n sz a lf lt H G) (n6 : N0 ≤ 6) (n4 : N1 ≤ 4) (hnn : G.1 12 0 15 = nI (N0 + N1)) (nr : lf = 0 → NR B n N0 N1 H G) : (∃ c H' G', f_Reader_placeTold NF 1 H = some (c, H') ∧ f_M_takesPlace NF G = some (1, G') ∧ f5 H' H ∧ f12 G' G ∧ ((lf = 0 ∧ PS B n sz (a + 1) lf lt H' G' ∧ ∃ r, r ≤ N1 ∧ c = nI r ∧ G'.1 12 0 19 = nI r) ∨ (∃ lf' lt', lf' ≠ 0 ∧ PS B n sz (a + 1) lf' lt' H' G'))) ∨ FV B n sz H G (f_Reader_placeTold NF 1 H) (f_M_takesPlace NF G) := by
  have tl := tT_lt B n a
  have iw : f_M_isWord 5 G = some (if tT B n a = 5 then 1 else 0) := M_isWord (w := 5) p.1 p.2.1 p.2.2.2.2.1 (by omega)
  unfold f_Reader_placeTold f_M_takesPlace f_M_takesPlace_b36
  rw [if_neg q_10, C_up p, Option.bind_some, iw, Option.bind_some]
  by_cases c : tT B n a = 5
  · rw [if_pos c, if_neg q_10, if_pos (show nI (tT B n a) = 5 by rw [c]; rfl), sh_let]
    have p' : PS B n sz a lf lt H (sh_pI G 12 0 19 0) := PS_f12 p ((f12.rf G).pI (by omega)) (fun j hj => pI_ne (by omega))
    rcases S_pass p' ⟨by omega, by omega⟩ with ⟨H', G', e1, e2, e3, e4, e5⟩ | ⟨F, T, H', G', e1, e2, e3, e4, e5, e6, e7⟩
    · rw [e1, e2, Option.bind_some, sh_b2_some, q_nar1]
      have f2 : f12 G' G := e5.tr ((f12.rf G).pI (by omega))
      by_cases l0 : lf = 0
      · refine Or.inl ⟨0, H', G', rfl, rfl, e4, f2, Or.inl ⟨l0, e3, 0, by omega, rfl, ?_⟩⟩
        have pm : f_M_pass (sh_pI G 12 0 19 0) = some (1, G') := e2
        unfold f_M_pass at pm
        by_cases h : (sh_pI G 12 0 19 0).1 12 0 7 < (400 : Int32)
        · rw [if_pos h, sh_let, q_nar1] at pm
          have := (Prod.mk.inj (Option.some.inj pm)).2
          rw [← this]
          exact (pI_ne (by omega)).trans (pI_at _ _ _ _ _)
        · rw [if_neg h] at pm
          obtain ⟨G2, g1, g2, g3⟩ := M_wrong (F := 2) p'.1 p'.2.1 p'.2.2.2.2.1
          rw [show f_M_wrong 2 (sh_pI G 12 0 19 0) = some (0, G2) from g1, sh_b2_some, q_nar0] at pm
          have := (Prod.mk.inj (Option.some.inj pm)).1
          exact absurd this (by decide)
      · exact Or.inl ⟨0, H', G', rfl, rfl, e4, f2, Or.inr ⟨lf, lt, l0, e3⟩⟩
    · rw [e1, e2, Option.bind_some, sh_b2_some, q_nar0]
      exact Or.inr ⟨F, T, 0, H', G', rfl, rfl, e3, e4, e5, e6, e7.tr ((f12.rf G).pI (by omega))⟩
  · rw [if_neg c, if_pos rfl, if_neg (show ¬ nI (tT B n a) = 5 from nI_ne (b := 5) c (by omega) (by omega))]
    rcases S_place p n6 n4 hnn nr with ⟨c, H', G', e1, e2, e3, e4, e5⟩ | ⟨F, T, v, H', G', e1, e2, e3⟩
    · rw [e1, e2, sh_b2_some, if_neg q_10, q_nar1]
      rcases e5 with ⟨l0, q, r, r1, r2, r3⟩ | ⟨lf', lt', l1, q⟩
      · rw [r3, if_neg (nI_pos (by omega)), sh_let, nI_1]
        exact Or.inl ⟨c, H', _, rfl, rfl, e3, e4.pI (by omega), Or.inl ⟨l0, PS_f12 q ((f12.rf _).pI (by omega)) (fun j hj => pI_ne (by omega)), r + 1, by omega, r2, pI_at _ _ _ _ _⟩⟩
      · have hh : ∀ s1 : Int32, ∃ G2, sh_let (sh_pI G' 12 0 19 s1) (fun h1 => some ((1 : Int32), h1)) = some (1, G2) ∧ f12 G2 G ∧ PS B n sz (a + 1) lf' lt' H' G2 := fun s1 => ⟨_, rfl, e4.pI (by omega), PS_f12 q ((f12.rf _).pI (by omega)) (fun j hj => pI_ne (by omega))⟩
        by_cases d : G'.1 12 0 19 < 0
        · rw [if_pos d]
          obtain ⟨G2, z1, z2, z3⟩ := hh (-1)
          exact Or.inl ⟨c, H', G2, rfl, z1, e3, z2, Or.inr ⟨lf', lt', l1, z3⟩⟩
        · rw [if_neg d]
          obtain ⟨G2, z1, z2, z3⟩ := hh (G'.1 12 0 19 + 1)
          exact Or.inl ⟨c, H', G2, rfl, z1, e3, z2, Or.inr ⟨lf', lt', l1, z3⟩⟩
    · rw [e1, e2, sh_b2_some, if_pos rfl, q_nar0]
      exact Or.inr ⟨F, T, v, H', G', rfl, rfl, e3⟩
/-- what a new name changes -/
def fN (H' H : sh_H) : Prop := (∀ c i j, c ≠ 5 → H'.1 c i j = H.1 c i j) ∧ (∀ c i j, ¬ (c = 14 ∧ (i = 1 ∨ i = 2)) → H'.2.1 c i j = H.2.1 c i j) ∧ H'.2.2 = H.2.2
def gN (G' G : sh_H) : Prop := (∀ c i j, ¬ (c = 12 ∧ j ≠ 0 ∧ j ≠ 2) → ¬ (c = 13 ∧ (i = 47 ∨ i = 48)) → G'.1 c i j = G.1 c i j) ∧ (∀ c i j, ¬ (c = 14 ∧ i = 7) → G'.2.1 c i j = G.2.1 c i j) ∧ G'.2.2 = G.2.2
theorem f5.N {H' H : sh_H} (x : f5 H' H) : fN H' H := ⟨x.1, fun _ _ _ _ => by rw [x.2], by rw [x.2]⟩
theorem f12.N {H' H : sh_H} (x : f12 H' H) : gN H' H := ⟨fun c i j h1 h2 => x.1 c i j (by omega), fun _ _ _ _ => by rw [x.2], by rw [x.2]⟩
/-- the model looks for the name among those told -/
theorem M_nm {B : Nat → Nat} {n sz a nn : Nat} {H0 G0 : sh_H} (t : TK B n sz H0 G0) (ha : a < sz) (hn : nn ≤ 12) (hnn : G0.1 12 0 15 = nI nn) (K : Int32 → Int32 → Int32 → sh_H → Option (Int32 × sh_H)) (l1 l2 : Int32) : ∀ (q k u lf lt : Nat) (G : sh_H), k + q = nn → q < u → ML2 B n lf lt G → (lf ≠ 0 → lt < a ∨ (lt = a ∧ lf ≤ 3)) → (∀ c i j, ¬ (c = 12 ∧ i = 0 ∧ (j = 10 ∨ j = 11)) → G.1 c i j = G0.1 c i j) → G.2 = G0.2 → ∃ G' lf' lt', f_M_names_l18 NF K u l1 l2 (nI a) (nI k) G = K l1 l2 (nI a) G' ∧ ML2 B n lf' lt' G' ∧ (∀ c i j, ¬ (c = 12 ∧ i = 0 ∧ (j = 10 ∨ j = 11)) → G'.1 c i j = G0.1 c i j) ∧ G'.2 = G0.2 ∧ ((∃ j, k ≤ j ∧ j < nn ∧ G0.2.1 14 7 j = G0.2.1 14 5 a) → lf' = upf lf 3 ∧ lt' = upt lf lt a) ∧ (¬ (∃ j, k ≤ j ∧ j < nn ∧ G0.2.1 14 7 j = G0.2.1 14 5 a) → lf' = lf ∧ lt' = lt) := by
  have sz4 := t.2.2.1
  intro q
  induction q with
  | zero =>
    intro k u lf lt G e1 e2 m l f1 f2
    obtain ⟨u, rfl⟩ : ∃ m, u = m + 1 := ⟨u - 1, by omega⟩
    refine ⟨G, lf, lt, ?_, m, f1, f2, fun ⟨j, j1, j2, _⟩ => absurd j2 (by omega), fun _ => ⟨rfl, rfl⟩⟩
    show f_M_names_c18 NF K (f_M_names_l18 NF K u) l1 l2 (nI a) (nI k) G = _
    unfold f_M_names_c18
    rw [(f1 12 0 15 (by omega)).trans hnn, if_neg (nI_nlt (by omega) (by omega))]
  | succ q ih =>
    intro k u lf lt G e1 e2 m l f1 f2
    obtain ⟨u, rfl⟩ : ∃ m, u = m + 1 := ⟨u - 1, by omega⟩
    have tG' : TK B n sz H0 G := TK_f (f5.rf _) (f12_of f1 f2) t
    have cut : ∀ R, R = f_M_names_c18 NF K (f_M_names_l18 NF K u) l1 l2 (nI a) (nI k) G → f_M_names_l18 NF K (u + 1) l1 l2 (nI a) (nI k) G = R := fun R e => e.symm
    rw [cut _ rfl]
    unfold f_M_names_c18 f_M_names_b50
    rw [(f1 12 0 15 (by omega)).trans hnn, if_pos (nI_lt (by omega) (by omega)), if_pos (q_in (by omega) (by omega)), if_pos (q_in (by omega) (by omega)), q_cl (by omega), q_cl (by omega), nI_1]
    by_cases c : G.2.1 14 7 k = G.2.1 14 5 a
    · have c0 : G0.2.1 14 7 k = G0.2.1 14 5 a := by rw [← f2]; exact c
      obtain ⟨G1, g1, g2, g3, g4⟩ := M_tells (k := 3) tG' ha m (by omega) l
      rw [if_pos ((lg_cmp_eq _ _).mpr c), show f_M_tells 3 (nI a) G = some G1 from g1, Option.bind_some]
      obtain ⟨G', lf', lt', r1, r2, r3, r4, r5, r6⟩ := ih (k + 1) u (upf lf 3) (upt lf lt a) G1 (by omega) (by omega) g2 (fun z => by
        unfold upf upt
        by_cases w : lf = 0
        · rw [if_pos w, if_pos w]; exact Or.inr ⟨rfl, Nat.le_refl _⟩
        · rw [if_neg w, if_neg w]; exact l w) (fun c i j h => (g3 c i j h).trans (f1 c i j h)) (g4.trans f2)
      refine ⟨G', lf', lt', r1, r2, r3, r4, fun _ => ?_, fun z => absurd ⟨k, Nat.le_refl _, by omega, c0⟩ z⟩
      have i1 : upf (upf lf 3) 3 = upf lf 3 := by unfold upf; by_cases w : lf = 0 <;> simp [w]
      have i2 : upt (upf lf 3) (upt lf lt a) a = upt lf lt a := by unfold upt upf; by_cases w : lf = 0 <;> simp [w]
      by_cases d : ∃ j, k + 1 ≤ j ∧ j < nn ∧ G0.2.1 14 7 j = G0.2.1 14 5 a
      · obtain ⟨q1, q2⟩ := r5 d
        exact ⟨q1.trans i1, q2.trans i2⟩
      · exact r6 d
    · have c0 : ¬ G0.2.1 14 7 k = G0.2.1 14 5 a := by rw [← f2]; exact c
      rw [if_neg (fun z => c ((lg_cmp_eq _ _).mp z))]
      obtain ⟨G', lf', lt', r1, r2, r3, r4, r5, r6⟩ := ih (k + 1) u lf lt G (by omega) (by omega) m l f1 f2
      refine ⟨G', lf', lt', r1, r2, r3, r4, fun ⟨j, j1, j2, j3⟩ => r5 ⟨j, ?_, j2, j3⟩, fun z => r6 (fun ⟨j, j1, j2, j3⟩ => z ⟨j, by omega, j2, j3⟩)⟩
      by_cases w : j = k
      · rw [w] at j3; exact absurd j3 c0
      · omega
