/-! PAIR: read: steps within a tell -/
def NM (B : Nat → Nat) (n lf N0 N1 : Nat) (H G : sh_H) : Prop := G.1 12 0 15 = nI (N0 + N1) ∧ (lf = 0 → NR B n N0 N1 H G)
def QS (B : Nat → Nat) (n lf sp z : Nat) (A V : Nat → Nat) (N0 N1 : Nat) (H G : sh_H) : Prop := CC sp z A V H ∧ CM z A V G ∧ NM B n lf N0 N1 H G ∧ ∃ nb, nb ≤ 12 ∧ H.1 6 (7 * sp + 6) 3 = nI nb
theorem QS_to {B : Nat → Nat} {n lf lf' sp z : Nat} {A V : Nat → Nat} {N0 N1 : Nat} {H G H' G' : sh_H} (c1 : ∀ c i x, c = 2 ∨ c = 6 ∨ (c = 13 ∧ i = 9 * sp + 7) → H'.1 c i x = H.1 c i x) (c2 : ∀ i x, i = 1 ∨ i = 2 → H'.2.1 14 i x = H.2.1 14 i x) (m1 : ∀ c i x, (c = 12 ∧ i = 0 ∧ x = 15) ∨ (c = 13 ∧ (i = 47 ∨ i = 48)) ∨ (c = 13 ∧ i = 46 ∧ (x = 2010 ∨ 3000 ≤ x)) → G'.1 c i x = G.1 c i x) (m2 : ∀ x, G'.2.1 14 7 x = G.2.1 14 7 x) (l : lf' = 0 → lf = 0) (q : QS B n lf sp z A V N0 N1 H G) : QS B n lf' sp z A V N0 N1 H' G' := by
  obtain ⟨q1, q2, ⟨q3, q4⟩, nb, q5, q6⟩ := q
  exact ⟨CC_to (c1 _ _ _ (by omega)) (fun k => c1 _ _ _ (by omega)) q1, ⟨(m1 _ _ _ (by omega)).trans q2.1, fun k hk => ⟨(m1 _ _ _ (by omega)).trans (q2.2 k hk).1, (m1 _ _ _ (by omega)).trans (q2.2 k hk).2⟩⟩, ⟨(m1 _ _ _ (by omega)).trans q3, fun h => NR_to (fun i j h => c2 i j h) m2 (fun i j h => m1 _ _ _ (by omega)) (q4 (l h))⟩, nb, q5, (c1 _ _ _ (by omega)).trans q6⟩
theorem QS_f {B : Nat → Nat} {n lf lf' sp z : Nat} {A V : Nat → Nat} {N0 N1 : Nat} {H G H' G' : sh_H} (x : f5 H' H) (y : f12 G' G) (l : lf' = 0 → lf = 0) (q : QS B n lf sp z A V N0 N1 H G) : QS B n lf' sp z A V N0 N1 H' G' := QS_to (fun c i k h => x.1 c i k (by omega)) (fun i k h => by rw [x.2]) (fun c i k h => y.1 c i k (by omega)) (fun k => by rw [y.2]) l q
def TT (B : Nat → Nat) (n sz a lf lt sp j s z : Nat) (A V : Nat → Nat) (N0 N1 : Nat) (Vr Ur : Nat → Int32) (H G H0 G0 : sh_H) : Prop := PS B n sz a lf lt H G ∧ TS sp j s Vr Ur H G H0 G0 ∧ QS B n lf sp z A V N0 N1 H G
/-- the class dead, the model failed -/
def TF (B : Nat → Nat) (n sz sp : Nat) (H0 G0 : sh_H) (F T : Nat) (H' G' : sh_H) : Prop := T < sz ∧ DS sp F T H' H0 ∧ FA B n F T G' ∧ yM G' G0
theorem f12.y {G' G : sh_H} (x : f12 G' G) : yM G' G := ⟨fun c i k n1 n2 n3 => x.1 c i k (by omega), fun _ _ _ _ => by rw [x.2], by rw [x.2]⟩
theorem gN.y {G' G : sh_H} (x : gN G' G) : yM G' G := ⟨fun c i k n1 n2 n3 => x.1 c i k n1 (by omega), x.2.1, x.2.2⟩
theorem xM.y {G' G : sh_H} (x : xM G' G) : yM G' G := ⟨fun c i k n1 n2 n3 => x.1 c i k (by omega) (by omega) (by omega), fun _ _ _ _ => by rw [x.2], by rw [x.2]⟩
theorem TF_of {B : Nat → Nat} {n sz a lf lt sp j s z : Nat} {A V : Nat → Nat} {N0 N1 : Nat} {Vr Ur : Nat → Int32} {H G H0 G0 H' G' : sh_H} {F T : Nat} (hp : sp < 2) (hj : j < 7) (hs : s < sh_m j) (t : TT B n sz a lf lt sp j s z A V N0 N1 Vr Ur H G H0 G0) (ht : T < sz) (d : DE F T H') (fa : FA B n F T G') (x : yC sp H' H) (x6 : ∀ i k, H'.1 6 i k = H.1 6 i k) (y : yM G' G) : TF B n sz sp H0 G0 F T H' G' := by
  obtain ⟨-, ⟨t1, t2, t3, t4, t5, t6⟩, -, -, -, nb, q5, q6⟩ := t
  exact ⟨ht, ⟨d, x.tr (t5.r hj), RC_of t1 (fun r k _ _ => x6 _ _), nb, q5, (x6 _ _).trans q6⟩, fa, y.tr (t6.r hj hs)⟩
theorem TT_put {B : Nat → Nat} {n sz a lf lt sp j s z c : Nat} {A V : Nat → Nat} {N0 N1 : Nat} {Vr Ur : Nat → Int32} {H G H0 G0 : sh_H} (hp : sp < 2) (hj : j < 7) (hs : s < sh_m j) (hc : c < sh_w j) (v : Int32) (t : TT B n sz a lf lt sp j s z A V N0 N1 Vr Ur H G H0 G0) : ∃ H', f_Rows_put (7 * sp + j) (nI s) (nI c) v H = some H' ∧ TT B n sz a lf lt sp j s z A V N0 N1 (up1 Vr c v) Ur H' G H0 G0 := by
  obtain ⟨t1, t2, t3⟩ := t
  obtain ⟨H', e1, e2, e3⟩ := T_put hp hj hs hc v t2
  refine ⟨H', e1, ?_, e2, ?_⟩
  · rw [e3]; exact PS_to (fun c i k h => pI_ne (by omega)) (fun _ => rfl) (fun _ _ _ _ => rfl) (fun _ => rfl) t1
  · rw [e3]; exact QS_to (fun c i k h => pI_ne (by omega)) (fun _ _ _ => rfl) (fun _ _ _ _ => rfl) (fun _ => rfl) id t3
theorem TT_tell {B : Nat → Nat} {n sz a lf lt sp j s z c k : Nat} {A V : Nat → Nat} {N0 N1 : Nat} {Vr Ur : Nat → Int32} {H G H0 G0 : sh_H} (hj : j < 7) (hs : s < sh_m j) (hc : c < tb_s j) (hk : k = tb_b j + tb_s j * s + c) (v : Int32) (t : TT B n sz a lf lt sp j s z A V N0 N1 Vr Ur H G H0 G0) : ∃ G', f_M_tell (nI k) v G = some G' ∧ TT B n sz a lf lt sp j s z A V N0 N1 Vr (up1 Ur c v) H G' H0 G0 ∧ ∀ x, G'.1 12 0 x = G.1 12 0 x := by
  obtain ⟨t1, t2, t3⟩ := t
  have r := tb_row hj hs
  have al := tb_all j hj
  obtain ⟨G', e1, e2, e3⟩ := T_tell hj hs hc hk v t2
  refine ⟨G', e1, ⟨?_, e2, ?_⟩, fun x => by rw [e3]; exact pI_ne (by omega)⟩
  · rw [e3]; exact PS_to (fun _ _ _ _ => rfl) (fun _ => rfl) (fun c i k h => pI_ne (by omega)) (fun _ => rfl) t1
  · rw [e3]; exact QS_to (fun _ _ _ _ => rfl) (fun _ _ _ => rfl) (fun c i k h => pI_ne (by omega)) (fun _ => rfl) id t3
theorem TT_count {B : Nat → Nat} {n sz a lf lt sp j s z : Nat} {A V : Nat → Nat} {N0 N1 : Nat} {Vr Ur : Nat → Int32} {H G H0 G0 : sh_H} (hj : j < 7) (hs : s < sh_m j) (v : Int32) (t : TT B n sz a lf lt sp j s z A V N0 N1 Vr Ur H G H0 G0) : ∃ G', f_M_tell (nI j) v G = some G' ∧ TT B n sz a lf lt sp j s z A V N0 N1 Vr Ur H G' H0 G0 ∧ G'.1 13 46 (2000 + j) = v := by
  obtain ⟨t1, t2, t3⟩ := t
  obtain ⟨G', e1, e2, e3⟩ := T_count hj hs v t2
  refine ⟨G', e1, ⟨?_, e2, ?_⟩, by rw [e3]; exact pI_at _ _ _ _ _⟩
  · rw [e3]; exact PS_to (fun _ _ _ _ => rfl) (fun _ => rfl) (fun c i k h => pI_ne (by omega)) (fun _ => rfl) t1
  · rw [e3]; exact QS_to (fun _ _ _ _ => rfl) (fun _ _ _ => rfl) (fun c i k h => pI_ne (by omega)) (fun _ => rfl) id t3
theorem TT_num {B : Nat → Nat} {n sz a lf lt sp j s z lo hi : Nat} {A V : Nat → Nat} {N0 N1 : Nat} {Vr Ur : Nat → Int32} {H G H0 G0 : sh_H} (hp : sp < 2) (hj : j < 7) (hs : s < sh_m j) (hh : hi ≤ 9999) (hl : lo ≤ 9999) (t : TT B n sz a lf lt sp j s z A V N0 N1 Vr Ur H G H0 G0) : (∃ v H' G' lf' lt', f_Reader_number (nI lo) (nI hi) H = some (nI v, H') ∧ f_M_takesInt (nI lo) (nI hi) G = some (1, G') ∧ G'.1 12 0 19 = nI v ∧ v ≤ 9999 ∧ TT B n sz (a + 1) lf' lt' sp j s z A V N0 N1 Vr Ur H' G' H0 G0 ∧ (lf' = 0 → lf = 0 ∧ lo ≤ v ∧ v ≤ hi) ∧ (lf' ≠ 0 → lf' = lf ∧ lt' = lt ∨ lf = 0 ∧ ¬ (lo ≤ v ∧ v ≤ hi) ∧ lt' = a) ∧ (∀ x, 2000 ≤ x → x < 4000 → G'.1 13 46 x = G.1 13 46 x) ∧ f5 H' H) ∨ (∃ F T v H' G', f_Reader_number (nI lo) (nI hi) H = some (v, H') ∧ f_M_takesInt (nI lo) (nI hi) G = some (0, G') ∧ TF B n sz sp H0 G0 F T H' G') := by
  rcases S_number t.1 hh hl with ⟨v, H', G', e1, e2, e3, e4, e5, e6, e7⟩ | ⟨F, T, v, H', G', e1, e2, e3, e4, e5, e6, e7⟩
  · have g46 : ∀ x, 2000 ≤ x → x < 4000 → G'.1 13 46 x = G.1 13 46 x := fun x _ _ => e6.1 _ _ _ (by omega)
    rcases e7 with ⟨h1, h2, h3⟩ | ⟨h1, h2⟩
    · exact Or.inl ⟨v, H', G', lf, lt, e1, e2, e3, e4, ⟨h3, TS_f hj hs e5 e6 t.2.1, QS_f e5 e6 id t.2.2⟩, fun z => ⟨z, h1, h2⟩, fun _ => Or.inl ⟨rfl, rfl⟩, g46, e5⟩
    · refine Or.inl ⟨v, H', G', upf lf 5, upt lf lt a, e1, e2, e3, e4, ⟨h2, TS_f hj hs e5 e6 t.2.1, QS_f e5 e6 (fun z => ?_) t.2.2⟩, fun z => ?_, fun z => ?_, g46, e5⟩
      · by_cases l : lf = 0
        · exact l
        · rw [upf_n l] at z; exact z
      · by_cases l : lf = 0
        · rw [l] at z; exact absurd z (by decide)
        · rw [upf_n l] at z; exact absurd z l
      · by_cases l : lf = 0
        · exact Or.inr ⟨l, h1, by unfold upt; rw [if_pos l]⟩
        · exact Or.inl ⟨upf_n l, upt_n l⟩
  · exact Or.inr ⟨F, T, v, H', G', e1, e2, TF_of hp hj hs t e3 e4 e5 e6.r (fun i k => e6.1 _ _ _ (by omega)) e7.y⟩
theorem TT_kind {B : Nat → Nat} {n sz a lf lt sp j s z : Nat} {A V : Nat → Nat} {N0 N1 : Nat} {Vr Ur : Nat → Int32} {H G H0 G0 : sh_H} (hp : sp < 2) (hj : j < 7) (hs : s < sh_m j) (n6 : N0 ≤ 6) (n4 : N1 ≤ 4) (t : TT B n sz a lf lt sp j s z A V N0 N1 Vr Ur H G H0 G0) : (∃ c H' G' lf' lt', f_Reader_kindTold NF H = some (c, H') ∧ f_M_takesName NF 0 G = some (1, G') ∧ TT B n sz (a + 1) lf' lt' sp j s z A V N0 N1 Vr Ur H' G' H0 G0 ∧ (lf' = 0 → lf = 0 ∧ ∃ r, r < N0 ∧ c = nI r ∧ G'.1 12 0 19 = nI r) ∧ (∀ x, 2000 ≤ x → x < 4000 → G'.1 13 46 x = G.1 13 46 x)) ∨ (∃ F T v H' G', f_Reader_kindTold NF H = some (v, H') ∧ f_M_takesName NF 0 G = some (0, G') ∧ TF B n sz sp H0 G0 F T H' G') := by
  rcases S_kind t.1 n6 n4 t.2.2.2.2.1.1 t.2.2.2.2.1.2 with ⟨c, H', G', e1, e2, e3, e4, e5⟩ | ⟨F, T, v, H', G', e1, e2, e3, e4, e5, e6, e7⟩
  · have g46 : ∀ x, 2000 ≤ x → x < 4000 → G'.1 13 46 x = G.1 13 46 x := fun x _ _ => e4.1 _ _ _ (by omega)
    rcases e5 with ⟨l0, q, r⟩ | ⟨lf', lt', l1, q⟩
    · exact Or.inl ⟨c, H', G', lf, lt, e1, e2, ⟨q, TS_f hj hs e3 e4 t.2.1, QS_f e3 e4 id t.2.2⟩, fun _ => ⟨l0, r⟩, g46⟩
    · exact Or.inl ⟨c, H', G', lf', lt', e1, e2, ⟨q, TS_f hj hs e3 e4 t.2.1, QS_f e3 e4 (fun z => absurd z l1) t.2.2⟩, fun z => absurd z l1, g46⟩
  · exact Or.inr ⟨F, T, v, H', G', e1, e2, TF_of hp hj hs t e3 e4 e5 e6.r (fun i k => e6.1 _ _ _ (by omega)) e7.y⟩
theorem C_place0 (H : sh_H) : f_Reader_placeTold NF 0 H = f_Reader_placeTold_b18 NF H := if_pos rfl
theorem TT_place {B : Nat → Nat} {n sz a lf lt sp j s z : Nat} {A V : Nat → Nat} {N0 N1 : Nat} {Vr Ur : Nat → Int32} {H G H0 G0 : sh_H} (hp : sp < 2) (hj : j < 7) (hs : s < sh_m j) (n6 : N0 ≤ 6) (n4 : N1 ≤ 4) (t : TT B n sz a lf lt sp j s z A V N0 N1 Vr Ur H G H0 G0) : (∃ c H' G' lf' lt', f_Reader_placeTold NF 0 H = some (c, H') ∧ f_M_takesName NF 1 G = some (1, G') ∧ TT B n sz (a + 1) lf' lt' sp j s z A V N0 N1 Vr Ur H' G' H0 G0 ∧ (lf' = 0 → lf = 0 ∧ ∃ r, r < N1 ∧ c = nI (r + 1) ∧ G'.1 12 0 19 = nI r) ∧ (∀ x, 2000 ≤ x → x < 4000 → G'.1 13 46 x = G.1 13 46 x)) ∨ (∃ F T v H' G', f_Reader_placeTold NF 0 H = some (v, H') ∧ f_M_takesName NF 1 G = some (0, G') ∧ TF B n sz sp H0 G0 F T H' G') := by
  rw [C_place0]
  rcases S_place t.1 n6 n4 t.2.2.2.2.1.1 t.2.2.2.2.1.2 with ⟨c, H', G', e1, e2, e3, e4, e5⟩ | ⟨F, T, v, H', G', e1, e2, e3, e4, e5, e6, e7⟩
  · have g46 : ∀ x, 2000 ≤ x → x < 4000 → G'.1 13 46 x = G.1 13 46 x := fun x _ _ => e4.1 _ _ _ (by omega)
    rcases e5 with ⟨l0, q, r⟩ | ⟨lf', lt', l1, q⟩
    · exact Or.inl ⟨c, H', G', lf, lt, e1, e2, ⟨q, TS_f hj hs e3 e4 t.2.1, QS_f e3 e4 id t.2.2⟩, fun _ => ⟨l0, r⟩, g46⟩
    · exact Or.inl ⟨c, H', G', lf', lt', e1, e2, ⟨q, TS_f hj hs e3 e4 t.2.1, QS_f e3 e4 (fun z => absurd z l1) t.2.2⟩, fun z => absurd z l1, g46⟩
  · exact Or.inr ⟨F, T, v, H', G', e1, e2, TF_of hp hj hs t e3 e4 e5 e6.r (fun i k => e6.1 _ _ _ (by omega)) e7.y⟩
theorem TT_placeH {B : Nat → Nat} {n sz a lf lt sp j s z : Nat} {A V : Nat → Nat} {N0 N1 : Nat} {Vr Ur : Nat → Int32} {H G H0 G0 : sh_H} (hp : sp < 2) (hj : j < 7) (hs : s < sh_m j) (n6 : N0 ≤ 6) (n4 : N1 ≤ 4) (t : TT B n sz a lf lt sp j s z A V N0 N1 Vr Ur H G H0 G0) : (∃ c H' G' lf' lt', f_Reader_placeTold NF 1 H = some (c, H') ∧ f_M_takesPlace NF G = some (1, G') ∧ TT B n sz (a + 1) lf' lt' sp j s z A V N0 N1 Vr Ur H' G' H0 G0 ∧ (lf' = 0 → lf = 0 ∧ ∃ r, r ≤ N1 ∧ c = nI r ∧ G'.1 12 0 19 = nI r) ∧ (∀ x, 2000 ≤ x → x < 4000 → G'.1 13 46 x = G.1 13 46 x) ∧ H'.1 5 0 3 = nI (a + 1)) ∨ (∃ F T v H' G', f_Reader_placeTold NF 1 H = some (v, H') ∧ f_M_takesPlace NF G = some (0, G') ∧ TF B n sz sp H0 G0 F T H' G') := by
  rcases S_placeH t.1 n6 n4 t.2.2.2.2.1.1 t.2.2.2.2.1.2 with ⟨c, H', G', e1, e2, e3, e4, e5⟩ | ⟨F, T, v, H', G', e1, e2, e3, e4, e5, e6, e7⟩
  · have g46 : ∀ x, 2000 ≤ x → x < 4000 → G'.1 13 46 x = G.1 13 46 x := fun x _ _ => e4.1 _ _ _ (by omega)
    rcases e5 with ⟨l0, q, r⟩ | ⟨lf', lt', l1, q⟩
    · exact Or.inl ⟨c, H', G', lf, lt, e1, e2, ⟨q, TS_f hj hs e3 e4 t.2.1, QS_f e3 e4 id t.2.2⟩, fun _ => ⟨l0, r⟩, g46, q.2.2.1⟩
    · exact Or.inl ⟨c, H', G', lf', lt', e1, e2, ⟨q, TS_f hj hs e3 e4 t.2.1, QS_f e3 e4 (fun z => absurd z l1) t.2.2⟩, fun z => absurd z l1, g46, q.2.2.1⟩
  · exact Or.inr ⟨F, T, v, H', G', e1, e2, TF_of hp hj hs t e3 e4 e5 e6.r (fun i k => e6.1 _ _ _ (by omega)) e7.y⟩
/-- a later fault in both at an earlier token, in the middle of a tell -/
theorem TT_later {B : Nat → Nat} {n sz a lf lt sp j s z k x : Nat} {A V : Nat → Nat} {N0 N1 : Nat} {Vr Ur : Nat → Int32} {H G H0 G0 : sh_H} (hj : j < 7) (hs : s < sh_m j) (hk : 1 ≤ k ∧ k ≤ 5) (hx : x < a) (hl : lf ≠ 0 → lt < x ∨ (lt = x ∧ lf ≤ k)) (t : TT B n sz a lf lt sp j s z A V N0 N1 Vr Ur H G H0 G0) : ∃ H' G', f_Reader_failLater (nI k) (nI x) H = some H' ∧ f_M_tells (nI k) (nI x) G = some G' ∧ TT B n sz a (upf lf k) (upt lf lt x) sp j s z A V N0 N1 Vr Ur H' G' H0 G0 ∧ (∀ y, y ≠ 10 → y ≠ 11 → G'.1 12 0 y = G.1 12 0 y) ∧ (∀ y, G'.1 13 46 y = G.1 13 46 y) := by
  have p := t.1
  obtain ⟨H', e1, e2, e3, e4⟩ := C_later (k := k) (x := x) p.cl hk
  obtain ⟨G', g1, g2, g3, g4⟩ := M_tells (k := k) (x := x) p.1 (by have := p.2.1; omega) p.ml hk hl
  have f := f5_of e3 e4
  have g := f12_of g3 g4
  refine ⟨H', G', e1, g1, ⟨PS_mk (TK_f f g p.1) p.2.1 ((e3 _ _ _ (by omega)).trans p.2.2.1) ((e3 _ _ _ (by omega)).trans p.2.2.2.1) ((g3 _ _ _ (by omega)).trans p.2.2.2.2.1) e2 g2 (fun z => ?_), TS_f hj hs f g t.2.1, QS_f f g (fun z => ?_) t.2.2⟩, fun y h1 h2 => g3 _ _ _ (by omega), fun y => g3 _ _ _ (by omega)⟩
  · unfold upt
    by_cases l : lf = 0
    · rw [if_pos l]; exact hx
    · rw [if_neg l]; exact p.lt l
  · by_cases l : lf = 0
    · exact l
    · rw [upf_n l] at z; exact z
/-- the class alone, or the model alone, when there is a later fault already -/
theorem TT_laterC {B : Nat → Nat} {n sz a lf lt sp j s z k x : Nat} {A V : Nat → Nat} {N0 N1 : Nat} {Vr Ur : Nat → Int32} {H G H0 G0 : sh_H} (hk : 1 ≤ k ∧ k ≤ 5) (hl : lf ≠ 0) (t : TT B n sz a lf lt sp j s z A V N0 N1 Vr Ur H G H0 G0) : f_Reader_failLater (nI k) (nI x) H = some H := by
  have c := t.1.cl
  have := c.2.1
  unfold f_Reader_failLater
  rw [c.1, if_neg (nI_ne0 (by omega) (by omega))]
/-- the end of a tell: ; -/
def semi (G : sh_H) : Option (Int32 × sh_H) := Option.bind (f_M_isSign 59 G) (fun v3 => if v3 = 0 then f_M_parses_b41 NF G else sh_b2 (f_M_pass G) (fun v4 h5 => if v4 = 0 then some (0, h5) else some (1, h5)))
theorem TT_semi {B : Nat → Nat} {n sz a lf lt sp j s z : Nat} {A V : Nat → Nat} {N0 N1 : Nat} {Vr Ur : Nat → Int32} {H G H0 G0 : sh_H} (hp : sp < 2) (hj : j < 7) (hs : s < sh_m j) (t : TT B n sz a lf lt sp j s z A V N0 N1 Vr Ur H G H0 G0) : (∃ H' G', f_Reader_expect 59 H = some H' ∧ semi G = some (1, G') ∧ TT B n sz (a + 1) lf lt sp j s z A V N0 N1 Vr Ur H' G' H0 G0 ∧ (∀ x, 2000 ≤ x → x < 4000 → G'.1 13 46 x = G.1 13 46 x)) ∨ (∃ F T H' G', f_Reader_expect 59 H = some H' ∧ semi G = some (0, G') ∧ TF B n sz sp H0 G0 F T H' G') := by
  obtain ⟨i1, i2⟩ := S_sign (s := 59) t.1 (by omega)
  unfold semi
  rw [show f_M_isSign 59 G = _ from i1, Option.bind_some]
  rcases i2 with ⟨c, ⟨H', G', e1, e2, e3, e4, e5⟩ | ⟨F, T, H', G', e1, e2, e3, e4, e5, e6, e7⟩⟩ | ⟨c, H', G', e1, e2, e3, e4, e5, e6⟩
  · rw [if_pos c, if_neg q_10, e2, sh_b2_some, if_neg q_10]
    exact Or.inl ⟨H', G', e1, rfl, ⟨e3, TS_f hj hs e4 e5 t.2.1, QS_f e4 e5 id t.2.2⟩, fun x _ _ => e5.1 _ _ _ (by omega)⟩
  · rw [if_pos c, if_neg q_10, e2, sh_b2_some, if_pos rfl]
    exact Or.inr ⟨F, T, H', G', e1, rfl, TF_of hp hj hs t e3 e4 e5 e6.r (fun i k => e6.1 _ _ _ (by omega)) e7.y⟩
  · rw [if_neg c, if_pos rfl]
    unfold f_M_parses_b41
    rw [e2, sh_b2_some, q_nar0]
    exact Or.inr ⟨1, a, H', G', e1, rfl, TF_of hp hj hs t t.1.2.1 e3 e4 e5.r (fun i k => e5.1 _ _ _ (by omega)) e6.y⟩
/-- the first token of a tell, and its row -/
theorem TT_open {B : Nat → Nat} {n sz a lf lt sp j s z : Nat} {A V : Nat → Nat} {N0 N1 : Nat} {H G : sh_H} (hp : sp < 2) (hj : j < 7) (p : PS B n sz a lf lt H G) (gg : tG B n a) (hC : RC H) (hz : H.1 6 (7 * sp + j) 3 = nI s) (hm : s ≤ sh_m j) (q : QS B n lf sp z A V N0 N1 H G) : (s < sh_m j ∧ ∃ H' G', f_Reader_open NF (7 * sp + j) H = some (nI s, H') ∧ f_M_pass G = some (1, G') ∧ TT B n sz (a + 1) lf lt sp j s z A V N0 N1 (fun _ => 0) (fun c => G.1 13 46 (2000 + tb_b j + tb_s j * s + c)) H' G' H G ∧ (∀ x, G'.1 13 46 x = G.1 13 46 x)) ∨ (∃ F T v H' G', f_Reader_open NF (7 * sp + j) H = some (v, H') ∧ ((s < sh_m j ∧ f_M_pass G = some (0, G')) ∨ (s = sh_m j ∧ sh_b2 (f_M_wrong 2 G) (fun v2 h3 => some (ai_nar 1 v2, h3)) = some (0, G'))) ∧ TF B n sz sp H G F T H' G') := by
  obtain ⟨r1, r2, r3⟩ := rc_tx sp hp j hj
  have al := tb_all j hj
  have dead : ∀ {F T H' G'}, T < sz → DE F T H' → FA B n F T G' → f5 H' H → f12 G' G → TF B n sz sp H G F T H' G' := by
    intro F T H' G' h1 h2 h3 h4 h5
    obtain ⟨nb, q5, q6⟩ := q.2.2.2
    exact ⟨h1, ⟨h2, h4.r, RC_of hC (fun r k _ _ => h4.1 _ _ _ (by omega)), nb, q5, (h4.1 _ _ _ (by omega)).trans q6⟩, h3, h5.y⟩
  unfold f_Reader_open f_Reader_open_b12
  by_cases c : s < sh_m j
  · rw [isFull_no hC (by omega) hz (by rw [r2]; exact c), Option.bind_some, if_pos rfl]
    rcases S_pass p gg with ⟨H1, G1, e1, e2, e3, e4, e5⟩ | ⟨F, T, H', G', e1, e2, e3, e4, e5, e6, e7⟩
    · have hC1 : RC H1 := RC_of hC (fun r k _ _ => e4.1 _ _ _ (by omega))
      have z1 : H1.1 6 (7 * sp + j) 3 = nI s := (e4.1 _ _ _ (by omega)).trans hz
      rw [e1, Option.bind_some, if_pos e3.2.2.2.1, rows_add hC1 (by omega) z1 (by rw [r2]; exact c), sh_b2_some]
      have ne : ∀ c i x, ¬ (c = 6 ∧ i = 7 * sp + j ∧ x = 3) → ¬ (c = 13 ∧ i = 9 * sp + j) → (hR H1 (7 * sp + j) (s + 1) (zrow (fun j' => H1.1 13 (sh_rc (7 * sp + j)) j') (s * sh_w (7 * sp + j)) (sh_w (7 * sp + j)))).1 c i x = H1.1 c i x := fun c i x h1 h2 => hR_ne (by rw [r1]; omega) h1
      have at' : ∀ x, (hR H1 (7 * sp + j) (s + 1) (zrow (fun j' => H1.1 13 (sh_rc (7 * sp + j)) j') (s * sh_w (7 * sp + j)) (sh_w (7 * sp + j)))).1 13 (9 * sp + j) x = zrow (fun j' => H1.1 13 (9 * sp + j) j') (s * sh_w j) (sh_w j) x := by
        intro x
        have := hR_at H1 (7 * sp + j) (s + 1) (zrow (fun j' => H1.1 13 (sh_rc (7 * sp + j)) j') (s * sh_w (7 * sp + j)) (sh_w (7 * sp + j))) x
        rw [r1, r3] at this
        rw [r3, r1]
        exact this
      refine Or.inl ⟨c, _, G1, rfl, e2, ⟨?_, ⟨hR_RC hC1, hR_sz _ _ _ _, fun d hd => ?_, fun d hd => e5.1 _ _ _ (by omega), ⟨fun c' i x n1 n2 n3 n4 n5 => ?_, fun _ _ _ _ => by show H1.2.1 _ _ _ = _; rw [e4.2], by show H1.2.2 = _; rw [e4.2]⟩, e5.N.t⟩, ?_⟩, fun x => e5.1 _ _ _ (by omega)⟩
      · exact PS_to (fun c' i x h => ne _ _ _ (by omega) (by omega)) (fun _ => rfl) (fun _ _ _ _ => rfl) (fun _ => rfl) e3
      · rw [at']
        exact if_pos ⟨by omega, by omega⟩
      · by_cases w : c' = 13 ∧ i = 9 * sp + j
        · rw [w.1, w.2, at']
          unfold zrow
          rw [if_neg (by omega)]
          exact e4.1 _ _ _ (by omega)
        · rw [ne _ _ _ n2 w]; exact e4.1 _ _ _ n1
      · have q1 := QS_f e4 e5 id q
        obtain ⟨nb, q5, q6⟩ := q1.2.2.2
        refine ⟨CC_to (ne _ _ _ (by omega) (by omega)) (fun k => ne _ _ _ (by omega) (by omega)) q1.1, q1.2.1, ⟨q1.2.2.1.1, fun h => NR_to (fun _ _ _ => rfl) (fun _ => rfl) (fun _ _ _ => rfl) (q1.2.2.1.2 h)⟩, ?_⟩
        by_cases w : j = 6
        · subst w
          exact ⟨s + 1, by omega, hR_sz _ _ _ _⟩
        · exact ⟨nb, q5, (ne _ _ _ (by omega) (by omega)).trans q6⟩
    · rw [e1, Option.bind_some, if_neg e4.ne]
      exact Or.inr ⟨F, T, -1, H', G', rfl, Or.inl ⟨c, e2⟩, dead e3 e4 e5 e6 e7⟩
  · obtain ⟨H1, c1, c2, c3⟩ := C_fail (F := 2) p (Or.inr rfl)
    obtain ⟨G1, g1, g2, g3⟩ := M_wrongs (F := 2) p.1 p.2.1 p.2.2.2.2.1
    rw [isFull_yes hC (by omega) hz (by rw [r2]; omega), Option.bind_some, if_neg q_10, show f_Reader_fail 2 H = some H1 from c1, Option.bind_some, D_accept c2, Option.bind_some, if_neg c2.ne]
    exact Or.inr ⟨2, a, -1, H1, G1, rfl, Or.inr ⟨by omega, g1⟩, dead p.2.1 c2 g2 c3 g3⟩
