/-! PAIR: read: tells of boats -/
/-- a boat told already: the model -/
def mB (G : sh_H) (s k : Nat) : Prop := 0 < G.1 13 46 (2250 + 5 * s) ∧ G.1 13 46 (2250 + 5 * k) = G.1 13 46 (2250 + 5 * s) ∧ G.1 13 46 (2251 + 5 * k) = G.1 12 0 19
theorem M_bt {B : Nat → Nat} {n sz x s : Nat} {H0 G0 : sh_H} (t : TK B n sz H0 G0) (hx : x < sz) (hs : s < 12) (K : Int32 → Int32 → sh_H → Option (Int32 × sh_H)) : ∀ (q k u lf lt : Nat) (G : sh_H), k + q = s → q < u → ML2 B n lf lt G → ((∃ j, k ≤ j ∧ j < s ∧ mB G0 s j) → lf ≠ 0 → lt < x ∨ (lt = x ∧ lf ≤ 3)) → (∀ c i j, ¬ (c = 12 ∧ i = 0 ∧ (j = 10 ∨ j = 11)) → G.1 c i j = G0.1 c i j) → G.2 = G0.2 → ∃ G' lf' lt', f_M_tellBoat_l86 NF K u (nI s) (nI (250 + 5 * s)) (nI x) (nI k) G = K (nI s) (nI (250 + 5 * s)) G' ∧ ML2 B n lf' lt' G' ∧ (∀ c i j, ¬ (c = 12 ∧ i = 0 ∧ (j = 10 ∨ j = 11)) → G'.1 c i j = G0.1 c i j) ∧ G'.2 = G0.2 ∧ ((∃ j, k ≤ j ∧ j < s ∧ mB G0 s j) → lf' = upf lf 3 ∧ lt' = upt lf lt x) ∧ (¬ (∃ j, k ≤ j ∧ j < s ∧ mB G0 s j) → lf' = lf ∧ lt' = lt) := by
  intro q
  induction q with
  | zero =>
    intro k u lf lt G e1 e2 m l f1 f2
    obtain ⟨u, rfl⟩ : ∃ m, u = m + 1 := ⟨u - 1, by omega⟩
    refine ⟨G, lf, lt, ?_, m, f1, f2, fun ⟨j, j1, j2, _⟩ => absurd j2 (by omega), fun _ => ⟨rfl, rfl⟩⟩
    show f_M_tellBoat_c86 NF K (f_M_tellBoat_l86 NF K u) (nI s) (nI (250 + 5 * s)) (nI x) (nI k) G = _
    unfold f_M_tellBoat_c86
    rw [if_neg (nI_nlt (by omega) (by omega))]
  | succ q ih =>
    intro k u lf lt G e1 e2 m l f1 f2
    obtain ⟨u, rfl⟩ : ∃ m, u = m + 1 := ⟨u - 1, by omega⟩
    have tG' : TK B n sz H0 G := TK_f (f5.rf _) (f12_of f1 f2) t
    have c46 : ∀ y, G.1 13 46 y = G0.1 13 46 y := fun y => f1 _ _ _ (by omega)
    have c19 : G.1 12 0 19 = G0.1 12 0 19 := f1 _ _ _ (by omega)
    have eb : (250 : Int32) + 5 * nI k = nI (250 + 5 * k) := nIe 250 5 k
    have noM : ¬ mB G0 s k → f_M_tellBoat_l86 NF K (u + 1) (nI s) (nI (250 + 5 * s)) (nI x) (nI k) G = f_M_tellBoat_l86 NF K u (nI s) (nI (250 + 5 * s)) (nI x) (nI (k + 1)) G := by
      intro nm
      show f_M_tellBoat_c86 NF K (f_M_tellBoat_l86 NF K u) (nI s) (nI (250 + 5 * s)) (nI x) (nI k) G = _
      unfold f_M_tellBoat_c86 f_M_tellBoat_b147
      rw [if_pos (nI_lt (by omega) (by omega)), M_told2 (by omega), Option.bind_some, nI_1, eb, M_told2 (by omega), Option.bind_some, nI_1, M_told2 (by omega), Option.bind_some, Option.bind_some, c46, c46, c46, c19, show 2000 + (250 + 5 * s) = 2250 + 5 * s by omega, show 2000 + (250 + 5 * k) = 2250 + 5 * k by omega, show 2000 + (250 + 5 * k + 1) = 2251 + 5 * k by omega]
      by_cases d1 : 0 < G0.1 13 46 (2250 + 5 * s)
      · rw [if_pos d1]
        by_cases d2 : G0.1 13 46 (2250 + 5 * k) = G0.1 13 46 (2250 + 5 * s)
        · rw [if_pos d2, if_neg (fun z => nm ⟨d1, d2, z⟩)]
        · rw [if_neg d2]
      · rw [if_neg d1]
    by_cases c : mB G0 s k
    · obtain ⟨G1, g1, g2, g3, g4⟩ := M_tells (k := 3) tG' hx m (by omega) (l ⟨k, Nat.le_refl _, by omega, c⟩)
      have st : f_M_tellBoat_l86 NF K (u + 1) (nI s) (nI (250 + 5 * s)) (nI x) (nI k) G = f_M_tellBoat_l86 NF K u (nI s) (nI (250 + 5 * s)) (nI x) (nI (k + 1)) G1 := by
        show f_M_tellBoat_c86 NF K (f_M_tellBoat_l86 NF K u) (nI s) (nI (250 + 5 * s)) (nI x) (nI k) G = _
        unfold f_M_tellBoat_c86 f_M_tellBoat_b147
        rw [if_pos (nI_lt (by omega) (by omega)), M_told2 (by omega), Option.bind_some, nI_1, eb, M_told2 (by omega), Option.bind_some, nI_1, M_told2 (by omega), Option.bind_some, Option.bind_some, c46, c46, c46, c19, show 2000 + (250 + 5 * s) = 2250 + 5 * s by omega, show 2000 + (250 + 5 * k) = 2250 + 5 * k by omega, show 2000 + (250 + 5 * k + 1) = 2251 + 5 * k by omega, if_pos c.1, if_pos c.2.1, if_pos c.2.2, show f_M_tells 3 (nI x) G = some G1 from g1, Option.bind_some]
      obtain ⟨G', lf', lt', r1, r2, r3, r4, r5, r6⟩ := ih (k + 1) u (upf lf 3) (upt lf lt x) G1 (by omega) (by omega) g2 (fun _ z => by
        unfold upf upt
        by_cases w : lf = 0
        · rw [if_pos w, if_pos w]; exact Or.inr ⟨rfl, Nat.le_refl _⟩
        · rw [if_neg w, if_neg w]; exact l ⟨k, Nat.le_refl _, by omega, c⟩ w) (fun c i j h => (g3 c i j h).trans (f1 c i j h)) (g4.trans f2)
      refine ⟨G', lf', lt', st.trans r1, r2, r3, r4, fun _ => ?_, fun z => absurd ⟨k, Nat.le_refl _, by omega, c⟩ z⟩
      have i1 : upf (upf lf 3) 3 = upf lf 3 := by unfold upf; by_cases w : lf = 0 <;> simp [w]
      have i2 : upt (upf lf 3) (upt lf lt x) x = upt lf lt x := by unfold upt upf; by_cases w : lf = 0 <;> simp [w]
      by_cases d : ∃ j, k + 1 ≤ j ∧ j < s ∧ mB G0 s j
      · obtain ⟨q1, q2⟩ := r5 d
        exact ⟨q1.trans i1, q2.trans i2⟩
      · exact r6 d
    · obtain ⟨G', lf', lt', r1, r2, r3, r4, r5, r6⟩ := ih (k + 1) u lf lt G (by omega) (by omega) m (fun ⟨j, j1, j2, j3⟩ => l ⟨j, by omega, j2, j3⟩) f1 f2
      refine ⟨G', lf', lt', (noM c).trans r1, r2, r3, r4, fun ⟨j, j1, j2, j3⟩ => r5 ⟨j, ?_, j2, j3⟩, fun z => r6 (fun ⟨j, j1, j2, j3⟩ => z ⟨j, by omega, j2, j3⟩)⟩
      by_cases w : j = k
      · rw [w] at j3; exact absurd j3 c
      · omega
/-- the class -/
theorem C_bt {sp m : Nat} {H : sh_H} (hp : sp < 2) (hC : RC H) (hm : m ≤ 12) (hz : H.1 6 (7 * sp + 6) 3 = nI m) (x y : Int32) : ∃ w, f_Text_boatOf NF sp x y H = some w ∧ (w = -1 ↔ ∀ k, k < m → ¬ (H.1 13 (9 * sp + 6) (k * 5) = x ∧ H.1 13 (9 * sp + 6) (k * 5 + 1) = y)) := by
  obtain ⟨r1, r2, r3⟩ := rc_tx sp hp 6 (by omega)
  have lp : ∀ (q i u : Nat), i + q = m → q < u → ∃ w, f_Text_boatOf_l2 NF u sp x y (nI i) H = some w ∧ (w = -1 ↔ ∀ k, i ≤ k → k < m → ¬ (H.1 13 (9 * sp + 6) (k * 5) = x ∧ H.1 13 (9 * sp + 6) (k * 5 + 1) = y)) := by
    intro q
    induction q with
    | zero =>
      intro i u e1 e2
      obtain ⟨u, rfl⟩ : ∃ m, u = m + 1 := ⟨u - 1, by omega⟩
      refine ⟨-1, ?_, ⟨fun _ k k1 k2 => absurd k2 (by omega), fun _ => rfl⟩⟩
      show f_Text_boatOf_c2 NF (f_Text_boatOf_l2 NF u) sp x y (nI i) H = _
      unfold f_Text_boatOf_c2 f_Rows_size
      rw [hz, Option.bind_some, if_neg (nI_nlt (by omega) (by omega))]
    | succ q ih =>
      intro i u e1 e2
      obtain ⟨u, rfl⟩ : ∃ m, u = m + 1 := ⟨u - 1, by omega⟩
      obtain ⟨w, w1, w2⟩ := ih (i + 1) u (by omega) (by omega)
      have g0 : f_Rows_get (7 * sp + 6) (nI i) 0 H = some (H.1 13 (9 * sp + 6) (i * 5)) := by
        have := rows_get (r := 7 * sp + 6) (b := 0) hC (by omega) hz (by rw [r2]; exact hm) (show i < 2 ^ 31 by omega) (by omega)
        rw [if_pos ⟨by omega, by rw [r3]; decide⟩, r1, r3] at this
        exact this
      have g1 : f_Rows_get (7 * sp + 6) (nI i) 1 H = some (H.1 13 (9 * sp + 6) (i * 5 + 1)) := by
        have := rows_get (r := 7 * sp + 6) (b := 1) hC (by omega) hz (by rw [r2]; exact hm) (show i < 2 ^ 31 by omega) (by omega)
        rw [if_pos ⟨by omega, by rw [r3]; decide⟩, r1, r3] at this
        exact this
      have cut : ∀ R, R = f_Text_boatOf_c2 NF (f_Text_boatOf_l2 NF u) sp x y (nI i) H → f_Text_boatOf_l2 NF (u + 1) sp x y (nI i) H = R := fun R e => e.symm
      rw [cut _ rfl]
      unfold f_Text_boatOf_c2 f_Rows_size f_Text_boatOf_b41
      rw [hz, Option.bind_some, if_pos (nI_lt (by omega) (by omega)), g0, Option.bind_some, g1, Option.bind_some, nI_1, w1]
      have miss : ¬ (H.1 13 (9 * sp + 6) (i * 5) = x ∧ H.1 13 (9 * sp + 6) (i * 5 + 1) = y) → (w = -1 ↔ ∀ k, i ≤ k → k < m → ¬ (H.1 13 (9 * sp + 6) (k * 5) = x ∧ H.1 13 (9 * sp + 6) (k * 5 + 1) = y)) := by
        intro ne
        rw [w2]
        constructor
        · intro h k k1 k2
          by_cases e : k = i
          · rw [e]; exact ne
          · exact h k (by omega) k2
        · intro h k k1 k2; exact h k (by omega) k2
      by_cases d1 : H.1 13 (9 * sp + 6) (i * 5) = x
      · by_cases d2 : H.1 13 (9 * sp + 6) (i * 5 + 1) = y
        · rw [if_pos d1, if_pos d2]
          refine ⟨nI i, rfl, ⟨fun z => absurd z (nI_nm1 (by omega)), fun h => absurd ⟨d1, d2⟩ (h i (Nat.le_refl _) (by omega))⟩⟩
        · rw [if_pos d1, if_neg d2]
          exact ⟨w, rfl, miss (fun z => d2 z.2)⟩
      · rw [if_neg d1]
        exact ⟨w, rfl, miss (fun z => d1 z.1)⟩
  obtain ⟨w, w1, w2⟩ := lp m 0 NF (by omega) (NF_gt (by omega))
  exact ⟨w, w1, w2.trans ⟨fun h k k2 => h k (Nat.zero_le _) k2, fun h k _ k2 => h k k2⟩⟩
theorem TT_pass {B : Nat → Nat} {n sz a lf lt sp j s z : Nat} {A V : Nat → Nat} {N0 N1 : Nat} {Vr Ur : Nat → Int32} {H G H0 G0 : sh_H} (hp : sp < 2) (hj : j < 7) (hs : s < sh_m j) (g : tG B n a) (t : TT B n sz a lf lt sp j s z A V N0 N1 Vr Ur H G H0 G0) : (∃ H' G', f_Reader_accept H = some H' ∧ f_M_pass G = some (1, G') ∧ TT B n sz (a + 1) lf lt sp j s z A V N0 N1 Vr Ur H' G' H0 G0) ∨ (∃ F T H' G', f_Reader_accept H = some H' ∧ f_M_pass G = some (0, G') ∧ TF B n sz sp H0 G0 F T H' G') := by
  rcases S_pass t.1 g with ⟨H', G', e1, e2, e3, e4, e5⟩ | ⟨F, T, H', G', e1, e2, e3, e4, e5, e6, e7⟩
  · exact Or.inl ⟨H', G', e1, e2, e3, TS_f hj hs e4 e5 t.2.1, QS_f e4 e5 id t.2.2⟩
  · exact Or.inr ⟨F, T, H', G', e1, e2, TF_of hp hj hs t e3 e4 e5 e6.r (fun i k => e6.1 _ _ _ (by omega)) e7.y⟩
theorem DW_b117 {sp F T : Nat} {H H0 : sh_H} (d : DS sp F T H H0) : DW sp F T H0 (f_Reader_tellBoat_b117 NF H) := DW_expect d (DW_some d)
theorem DW_b47r {sp F T : Nat} {H H0 : sh_H} {x : Int32} (hp : sp < 2) (d : DS sp F T H H0) : DW sp F T H0 (Option.bind (f_Reader_upcoming H) (fun v10 => (if v10 = (8 : Int32) then (Option.bind (f_Reader_accept H) (fun h11 => (sh_b2 (f_Reader_number (0 : Int32) (10 : Int32) h11) (fun v12 h13 => (Option.bind (f_Rows_put (7 * sp + 6) x (4 : Int32) v12 h13) (fun h14 => f_Reader_tellBoat_b117 NF h14)))))) else f_Reader_tellBoat_b117 NF H))) := DW_up (fun v => DW_if (DW_acc d (DW_num hp d (fun v H d => DW_put hp (by omega) d (fun H d => DW_b117 d)))) (DW_b117 d))
theorem DW_b47 {sp F T : Nat} {H H0 : sh_H} {x v4 v6 : Int32} (hp : sp < 2) (d : DS sp F T H H0) : DW sp F T H0 (f_Reader_tellBoat_b47 NF (7 * sp + 6) x v4 v6 H) := DW_put hp (by omega) d (fun H d => DW_put hp (by omega) d (fun H d => DW_num hp d (fun v H d => DW_put hp (by omega) d (fun H d => DW_num hp d (fun v H d => DW_put hp (by omega) d (fun H d => DW_b47r hp d))))))
