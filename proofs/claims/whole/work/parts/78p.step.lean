/-! PAIR: read: steps of the parsers -/
def f5 (H' H : sh_H) : Prop := (∀ c i j, c ≠ 5 → H'.1 c i j = H.1 c i j) ∧ H'.2 = H.2
def f12 (G' G : sh_H) : Prop := (∀ c i j, ¬ (c = 12 ∧ j ≠ 0 ∧ j ≠ 2 ∧ j ≠ 15 ∧ j ≠ 22) → G'.1 c i j = G.1 c i j) ∧ G'.2 = G.2
theorem f5.rf (H : sh_H) : f5 H H := ⟨fun _ _ _ _ => rfl, rfl⟩
theorem f12.rf (H : sh_H) : f12 H H := ⟨fun _ _ _ _ => rfl, rfl⟩
theorem f5.tr {a b c : sh_H} (x : f5 a b) (y : f5 b c) : f5 a c := ⟨fun c i j n => (x.1 c i j n).trans (y.1 c i j n), x.2.trans y.2⟩
theorem f12.tr {a b c : sh_H} (x : f12 a b) (y : f12 b c) : f12 a c := ⟨fun c i j n => (x.1 c i j n).trans (y.1 c i j n), x.2.trans y.2⟩
theorem f5.pI {H' H : sh_H} {i j : Nat} {v : Int32} (x : f5 H' H) : f5 (sh_pI H' 5 i j v) H := ⟨fun c i' j' n => (pI_ne (by omega)).trans (x.1 c i' j' n), x.2⟩
theorem f12.pI {H' H : sh_H} {i j : Nat} {v : Int32} (hj : j ≠ 0 ∧ j ≠ 2 ∧ j ≠ 15 ∧ j ≠ 22) (x : f12 H' H) : f12 (sh_pI H' 12 i j v) H := ⟨fun c i' j' n => (pI_ne (by omega)).trans (x.1 c i' j' n), x.2⟩
theorem TK_to {B : Nat → Nat} {n sz : Nat} {H G H' G' : sh_H} (e1 : ∀ c i j, c = 10 ∨ (c = 13 ∧ (i = 18 ∨ i = 19)) → H'.1 c i j = H.1 c i j) (e2 : ∀ j, H'.2.1 14 0 j = H.2.1 14 0 j) (e3 : ∀ i j, 43 ≤ i → i ≤ 45 → G'.1 13 i j = G.1 13 i j) (e4 : ∀ j, G'.2.1 14 5 j = G.2.1 14 5 j) (t : TK B n sz H G) : TK B n sz H' G' := by
  obtain ⟨t1, t2, t3, t4, t5, t6, t7, t8⟩ := t
  exact ⟨t1, t2, t3, (e1 _ _ _ (by omega)).trans t4, CT_to (fun x j h _ => e1 13 x j (by omega)) (fun j _ => e2 j) t5, MT_to (fun x j h1 h2 _ => e3 x j h1 h2) (fun j _ => e4 j) t6, t7, t8⟩
theorem TK_f {B : Nat → Nat} {n sz : Nat} {H G H' G' : sh_H} (x : f5 H' H) (y : f12 G' G) (t : TK B n sz H G) : TK B n sz H' G' := TK_to (fun c i j h => x.1 c i j (by omega)) (fun j => by rw [x.2]) (fun i j h1 h2 => y.1 13 i j (by omega)) (fun j => by rw [y.2]) t
/-- both at token a; later faults so far: lf (0: none) at token lt -/
def PS (B : Nat → Nat) (n sz a lf lt : Nat) (H G : sh_H) : Prop := TK B n sz H G ∧ a < sz ∧ H.1 5 0 3 = nI a ∧ H.1 5 0 4 = 0 ∧ G.1 12 0 7 = nI a ∧ H.1 5 0 6 = nI lf ∧ lf ≤ 5 ∧ G.1 12 0 10 = nI lf ∧ (lf ≠ 0 → H.1 5 0 7 = nI lt ∧ lt < a ∧ G.1 12 0 11 = nI (tst B n lt)) ∧ G.1 12 0 8 = 0 ∧ G.1 12 0 9 = -1
/-- the class has failed; the model has failed -/
def DE (F T : Nat) (H : sh_H) : Prop := (F = 1 ∨ F = 2) ∧ H.1 5 0 4 = nI F ∧ H.1 5 0 5 = nI T
def FA (B : Nat → Nat) (n F T : Nat) (G : sh_H) : Prop := G.1 12 0 8 = nI F ∧ G.1 12 0 9 = nI (tst B n T)
theorem DE.ne {F T : Nat} {H : sh_H} (d : DE F T H) : ¬ H.1 5 0 4 = 0 := by
  rw [d.2.1]
  rcases d.1 with h | h <;> rw [h] <;> decide
theorem PS.a4 {B : Nat → Nat} {n sz a lf lt : Nat} {H G : sh_H} (p : PS B n sz a lf lt H G) : a ≤ 400 := by have := p.1.2.2.1; have := p.2.1; omega
theorem C_sort {B : Nat → Nat} {n sz a : Nat} {H G : sh_H} (t : TK B n sz H G) (ha : a < sz) : f_Tokens_sortOf (nI a) H = some (nI (tT B n a)) := by
  obtain ⟨t1, t2, t3, t4, t5, t6, t7, t8⟩ := t
  unfold f_Tokens_sortOf f_Tokens_sortOf_b26
  rw [if_neg (nI_pos (by omega)), t4, if_pos (nI_lt ha (by omega)), q_len, if_pos (nI_lt (by omega) (by omega)), if_neg q_10, if_pos (q_in (by omega) (by omega)), q_cl (by omega), (t5 a ha).1]
theorem C_val {B : Nat → Nat} {n sz a : Nat} {H G : sh_H} (t : TK B n sz H G) (ha : a < sz) : f_Tokens_valueOf (nI a) H = some (H.2.1 14 0 a) := by
  obtain ⟨t1, t2, t3, t4, t5, t6, t7, t8⟩ := t
  unfold f_Tokens_valueOf f_Tokens_valueOf_b26
  rw [if_neg (nI_pos (by omega)), t4, if_pos (nI_lt ha (by omega)), q_len, if_pos (nI_lt (by omega) (by omega)), if_neg q_10, if_pos (q_in (by omega) (by omega)), q_cl (by omega)]
theorem C_place {B : Nat → Nat} {n sz a : Nat} {H G : sh_H} (t : TK B n sz H G) (ha : a < sz) : f_Tokens_placeOf (nI a) H = some (nI (tst B n a)) := by
  obtain ⟨t1, t2, t3, t4, t5, t6, t7, t8⟩ := t
  unfold f_Tokens_placeOf f_Tokens_placeOf_b26
  rw [if_neg (nI_pos (by omega)), t4, if_pos (nI_lt ha (by omega)), q_len, if_pos (nI_lt (by omega) (by omega)), if_neg q_10, if_pos (q_in (by omega) (by omega)), q_cl (by omega), (t5 a ha).2.1]
theorem C_up {B : Nat → Nat} {n sz a lf lt : Nat} {H G : sh_H} (p : PS B n sz a lf lt H G) : f_Reader_upcoming H = some (nI (tT B n a)) := by
  unfold f_Reader_upcoming
  rw [p.2.2.1, C_sort p.1 p.2.1]
  rfl
/-- total for any place -/
theorem sort_tot (x : Int32) (H : sh_H) : ∃ v, f_Tokens_sortOf x H = some v := by
  unfold f_Tokens_sortOf f_Tokens_sortOf_b25 f_Tokens_sortOf_b26
  by_cases c1 : x < 0
  · exact ⟨23, by rw [if_pos c1, if_pos rfl]⟩
  · by_cases c2 : x < H.1 10 0 3
    · by_cases c3 : x < Int32.ofNat 401
      · obtain ⟨j, hj, rfl⟩ := nI_of c1
        rw [q_len] at c3
        have := (nI_ltI hj (by omega)).mp c3
        exact ⟨_, by rw [if_neg c1, if_pos c2, q_len, if_pos c3, if_neg q_10, if_pos (q_in this (by omega))]⟩
      · exact ⟨23, by rw [if_neg c1, if_pos c2, if_neg c3, if_pos rfl]⟩
    · exact ⟨23, by rw [if_neg c1, if_neg c2, if_pos rfl]⟩
theorem val_tot (x : Int32) (H : sh_H) : ∃ v, f_Tokens_valueOf x H = some v := by
  unfold f_Tokens_valueOf f_Tokens_valueOf_b25 f_Tokens_valueOf_b26
  by_cases c1 : x < 0
  · exact ⟨0, by rw [if_pos c1, if_pos rfl]⟩
  · by_cases c2 : x < H.1 10 0 3
    · by_cases c3 : x < Int32.ofNat 401
      · obtain ⟨j, hj, rfl⟩ := nI_of c1
        rw [q_len] at c3
        have := (nI_ltI hj (by omega)).mp c3
        exact ⟨_, by rw [if_neg c1, if_pos c2, q_len, if_pos c3, if_neg q_10, if_pos (q_in this (by omega))]⟩
      · exact ⟨0, by rw [if_neg c1, if_pos c2, if_neg c3, if_pos rfl]⟩
    · exact ⟨0, by rw [if_neg c1, if_neg c2, if_pos rfl]⟩
theorem up_tot (H : sh_H) : ∃ v, f_Reader_upcoming H = some v := by
  obtain ⟨v, hv⟩ := sort_tot (H.1 5 0 3) H
  exact ⟨v, by unfold f_Reader_upcoming; rw [hv]; rfl⟩
/-! the dead class -/
theorem D_accept {F T : Nat} {H : sh_H} (d : DE F T H) : f_Reader_accept H = some H := by
  unfold f_Reader_accept f_Reader_accept_b30
  rw [if_neg d.ne, if_neg d.ne]
theorem D_fail {F T : Nat} {H : sh_H} (d : DE F T H) (x : Int32) : f_Reader_fail x H = some H := by
  unfold f_Reader_fail
  rw [if_neg d.ne]
theorem D_expect {F T : Nat} {H : sh_H} (d : DE F T H) (x : Int32) : f_Reader_expect x H = some H := by
  obtain ⟨v, hv⟩ := sort_tot (H.1 5 0 3) H
  unfold f_Reader_expect f_Reader_expect_b20
  rw [hv, Option.bind_some, D_fail d, Option.bind_some, D_accept d, Option.bind_some, ite_self]
theorem D_later {F T : Nat} {H : sh_H} (d : DE F T H) (x y : Int32) : ∃ H', f_Reader_failLater x y H = some H' ∧ DE F T H' ∧ f5 H' H := by
  unfold f_Reader_failLater
  by_cases c : H.1 5 0 6 = 0
  · rw [if_pos c]
    exact ⟨_, rfl, ⟨d.1, (pI_ne (by omega)).trans ((pI_ne (by omega)).trans d.2.1), (pI_ne (by omega)).trans ((pI_ne (by omega)).trans d.2.2)⟩, ((f5.rf H).pI).pI⟩
  · rw [if_neg c]
    exact ⟨H, rfl, d, f5.rf H⟩
/-! steps of both -/
def RS (B : Nat → Nat) (n sz a lf lt : Nat) (H G : sh_H) (e : Option sh_H) (m : Option (Int32 × sh_H)) : Prop := (∃ H' G', e = some H' ∧ m = some (1, G') ∧ PS B n sz a lf lt H' G' ∧ f5 H' H ∧ f12 G' G) ∨ (∃ F T H' G', e = some H' ∧ m = some (0, G') ∧ T < sz ∧ DE F T H' ∧ FA B n F T G' ∧ f5 H' H ∧ f12 G' G)
theorem M_wrong {B : Nat → Nat} {n sz a F : Nat} {H G : sh_H} (t : TK B n sz H G) (ha : a < sz) (hg : G.1 12 0 7 = nI a) : ∃ G', f_M_wrong (nI F) G = some (0, G') ∧ FA B n F a G' ∧ f12 G' G := by
  have h4 := t.2.2.1
  refine ⟨sh_pI (sh_pI G 12 0 8 (nI F)) 12 0 9 (nI (tst B n a)), ?_, ⟨(pI_ne (by omega)).trans (pI_at _ _ _ _ _), pI_at _ _ _ _ _⟩, (((f12.rf G).pI (by omega)).pI (by omega))⟩
  unfold f_M_wrong
  rw [sh_let, show (sh_pI G 12 0 8 (nI F)).1 12 0 7 = nI a from (pI_ne (by omega)).trans hg, if_pos (q_in (by omega) (by omega)), q_cl (by omega), show (sh_pI G 12 0 8 (nI F)).1 13 44 a = nI (tst B n a) from (pI_ne (by omega)).trans (t.2.2.2.2.2.1 a ha).2.1, sh_let, q_nar0]
theorem C_fail {B : Nat → Nat} {n sz a lf lt F : Nat} {H G : sh_H} (p : PS B n sz a lf lt H G) (hF : F = 1 ∨ F = 2) : ∃ H', f_Reader_fail (nI F) H = some H' ∧ DE F a H' ∧ f5 H' H := by
  refine ⟨sh_pI (sh_pI H 5 0 4 (nI F)) 5 0 5 (nI a), ?_, ⟨hF, (pI_ne (by omega)).trans (pI_at _ _ _ _ _), pI_at _ _ _ _ _⟩, ((f5.rf H).pI).pI⟩
  unfold f_Reader_fail
  rw [if_pos p.2.2.2.1, sh_let, show (sh_pI H 5 0 4 (nI F)).1 5 0 3 = nI a from (pI_ne (by omega)).trans p.2.2.1, sh_let]
theorem PS_up {B : Nat → Nat} {n sz a lf lt : Nat} {H G : sh_H} (p : PS B n sz a lf lt H G) (g : tG B n a) (h4 : a < 400) : PS B n sz (a + 1) lf lt (sh_pI H 5 0 3 (nI (a + 1))) (sh_pI G 12 0 7 (nI (a + 1))) := by
  obtain ⟨p1, p2, p3, p4, p5, p6, p7, p8, p9, pa⟩ := p
  have sz2 : a + 1 < sz := by
    rcases p1.2.2.2.2.2.2.2 with h | h
    · omega
    · by_cases c : a + 1 < sz
      · exact c
      · exact absurd (by rw [show sz - 1 = a by omega]; exact g) h
  refine ⟨TK_f ((f5.rf H).pI) ((f12.rf G).pI (by omega)) p1, sz2, pI_at _ _ _ _ _, (pI_ne (by omega)).trans p4, pI_at _ _ _ _ _, (pI_ne (by omega)).trans p6, p7, (pI_ne (by omega)).trans p8, fun z => ?_, (pI_ne (by omega)).trans pa.1, (pI_ne (by omega)).trans pa.2⟩
  obtain ⟨q1, q2, q3⟩ := p9 z
  exact ⟨(pI_ne (by omega)).trans q1, by omega, (pI_ne (by omega)).trans q3⟩
theorem S_pass {B : Nat → Nat} {n sz a lf lt : Nat} {H G : sh_H} (p : PS B n sz a lf lt H G) (g : tG B n a) : RS B n sz (a + 1) lf lt H G (f_Reader_accept H) (f_M_pass G) := by
  have a4 := p.a4
  have e3 := p.2.2.1
  have e4 := p.2.2.2.1
  have e7 := p.2.2.2.2.1
  unfold f_Reader_accept f_Reader_accept_b30 f_M_pass
  by_cases h4 : a < 400
  · refine Or.inl ⟨_, _, ?_, ?_, PS_up p g h4, (f5.rf H).pI, (f12.rf G).pI (by omega)⟩
    · rw [if_pos e4, e3, if_pos (show nI a < (400 : Int32) from nI_lt (b := 400) h4 (by omega)), if_pos e4, sh_let, nI_1]
    · rw [e7, if_pos (show nI a < (400 : Int32) from nI_lt (b := 400) h4 (by omega)), sh_let, nI_1, q_nar1]
  · obtain ⟨G', g1, g2, g3⟩ := M_wrong (F := 2) p.1 p.2.1 e7
    refine Or.inr ⟨2, a, sh_pI (sh_pI H 5 0 4 2) 5 0 5 (nI a), G', ?_, ?_, p.2.1, ⟨Or.inr rfl, (pI_ne (by omega)).trans (pI_at _ _ _ _ _), pI_at _ _ _ _ _⟩, g2, ((f5.rf H).pI).pI, g3⟩
    · have n2 : ¬ (sh_pI (sh_pI H 5 0 4 2) 5 0 5 (nI a)).1 5 0 4 = 0 := by
        rw [show (sh_pI (sh_pI H 5 0 4 2) 5 0 5 (nI a)).1 5 0 4 = 2 from (pI_ne (by omega)).trans (pI_at _ _ _ _ _)]; decide
      rw [if_pos e4, e3, if_neg (show ¬ nI a < (400 : Int32) from nI_nlt (a := a) (b := 400) (by omega) (by omega)), sh_let, show (sh_pI H 5 0 4 2).1 5 0 3 = nI a from (pI_ne (by omega)).trans e3, sh_let, if_neg n2]
    · rw [e7, if_neg (show ¬ nI a < (400 : Int32) from nI_nlt (a := a) (b := 400) (by omega) (by omega)), show f_M_wrong 2 G = some (0, G') from g1, sh_b2_some, q_nar0]
theorem C_expect_y {B : Nat → Nat} {n sz a lf lt s : Nat} {H G : sh_H} (p : PS B n sz a lf lt H G) (e : tT B n a = s) : f_Reader_expect (nI s) H = f_Reader_accept H := by
  unfold f_Reader_expect f_Reader_expect_b20
  rw [p.2.2.1, C_sort p.1 p.2.1, Option.bind_some, if_pos (by rw [e])]
  cases f_Reader_accept H <;> rfl
theorem C_expect_n {B : Nat → Nat} {n sz a lf lt s : Nat} {H G : sh_H} (p : PS B n sz a lf lt H G) (hs : s < 100) (e : ¬ tT B n a = s) : ∃ H', f_Reader_expect (nI s) H = some H' ∧ DE 1 a H' ∧ f5 H' H := by
  obtain ⟨H', h1, h2, h3⟩ := C_fail (F := 1) p (Or.inl rfl)
  have := tT_lt B n a
  refine ⟨H', ?_, h2, h3⟩
  unfold f_Reader_expect f_Reader_expect_b20
  rw [p.2.2.1, C_sort p.1 p.2.1, Option.bind_some, if_neg (nI_ne e (by omega) (by omega)), show f_Reader_fail 1 H = some H' from h1, Option.bind_some, D_accept h2]
  rfl
theorem M_so {B : Nat → Nat} {n sz a lf lt : Nat} {H G : sh_H} (p : PS B n sz a lf lt H G) : G.1 13 43 a = nI (mso (tT B n a)) := (p.1.2.2.2.2.2.1 a p.2.1).1
theorem mso_lt (S : Nat) : mso S < 6 := by
  unfold mso
  repeat' split
  all_goals omega
/-- a name or an int is taken -/
theorem S_takes {B : Nat → Nat} {n sz a lf lt s m : Nat} {H G : sh_H} (p : PS B n sz a lf lt H G) (hs : (s = 20 ∧ m = 0) ∨ (s = 21 ∧ m = 1)) : (tT B n a = s ∧ RS B n sz (a + 1) lf lt H G (f_Reader_expect (nI s) H) (f_M_takes (nI m) G)) ∨ (∃ H' G', f_Reader_expect (nI s) H = some H' ∧ f_M_takes (nI m) G = some (0, G') ∧ DE 1 a H' ∧ FA B n 1 a G' ∧ f5 H' H ∧ f12 G' G) := by
  have a4 := p.a4
  have e7 := p.2.2.2.2.1
  have ml := mso_lt (tT B n a)
  have tl := tT_lt B n a
  have cl := tT_cl B n a
  unfold f_M_takes
  rw [e7, if_pos (q_in (by omega) (by omega)), q_cl (by omega), M_so p]
  by_cases c : tT B n a = s
  · have em : mso (tT B n a) = m := by
      rw [c]
      rcases hs with ⟨h1, h2⟩ | ⟨h1, h2⟩ <;> rw [h1, h2] <;> rfl
    refine Or.inl ⟨c, ?_⟩
    rw [C_expect_y p c, if_pos (by rw [em])]
    rcases S_pass p ⟨by omega, by omega⟩ with ⟨H', G', h1, h2, h3⟩ | ⟨F, T, H', G', h1, h2, h3⟩
    · exact Or.inl ⟨H', G', h1, by rw [h2, sh_b2_some, q_nar1], h3⟩
    · exact Or.inr ⟨F, T, H', G', h1, by rw [h2, sh_b2_some, q_nar0], h3⟩
  · have em : ¬ mso (tT B n a) = m := by
      unfold mso
      repeat' split
      all_goals omega
    obtain ⟨H', h1, h2, h3⟩ := C_expect_n p (by omega) c
    obtain ⟨G', g1, g2, g3⟩ := M_wrong (F := 1) p.1 p.2.1 e7
    refine Or.inr ⟨H', G', h1, ?_, h2, g2, h3, g3⟩
    rw [if_neg (nI_ne em (by omega) (by omega)), show f_M_wrong 1 G = some (0, G') from g1, sh_b2_some, q_nar0]
theorem M_isSign {B : Nat → Nat} {n sz a c s : Nat} {H G : sh_H} (t : TK B n sz H G) (ha : a < sz) (hg : G.1 12 0 7 = nI a) (hc : (c = s ∧ 40 ≤ s ∧ s < 100) ∨ (c = 300 ∧ s = 22)) : f_M_isSign (nI c) G = some (if tT B n a = s then 1 else 0) := by
  have a4 := t.2.2.1
  have ml := mso_lt (tT B n a)
  have tl := tT_lt B n a
  have cl := tT_cl B n a
  obtain ⟨m1, m2, m3, m4, m5, m6⟩ := t.2.2.2.2.2.1 a ha
  unfold f_M_isSign f_M_isSign_b30
  have i1 : ai_in (nI a) 2001 := q_in (by omega) (by omega)
  rw [hg, if_pos i1, if_pos i1, q_cl (by omega), m1, q_nar0, q_nar1]
  by_cases e2 : mso (tT B n a) = 2
  · rw [e2, if_pos (show nI 2 = 2 from rfl)]
    have sc : 40 ≤ tT B n a ∨ tT B n a = 22 := by
      unfold mso at e2
      rcases cl with h | h | h | h | h | h | h
      · rw [if_pos h] at e2; omega
      · rw [h] at e2; exact absurd e2 (by decide)
      · rw [h] at e2; exact absurd e2 (by decide)
      · exact Or.inr h
      · rw [h] at e2; exact absurd e2 (by decide)
      · rw [h] at e2; exact absurd e2 (by decide)
      · omega
    rcases sc with h | h
    · rw [m3 (Or.inr h)]
      by_cases d : tT B n a = s
      · rw [if_pos d, if_pos (by rw [d]; congr 1; omega)]
      · rw [if_neg d, if_neg (nI_ne (by omega) (by omega) (by omega))]
    · rw [m5 h]
      by_cases d : tT B n a = s
      · rw [if_pos d, if_pos (by congr 1; omega)]
      · rw [if_neg d, if_neg (nI_ne (by omega) (by omega) (by omega))]
  · have d : ¬ tT B n a = s := by
      intro z
      apply e2
      rw [z]
      unfold mso
      rcases hc with ⟨h1, h2, h3⟩ | ⟨h1, h2⟩
      · rw [if_neg (by omega), if_neg (by omega), if_neg (by omega), if_neg (by omega), if_neg (by omega)]
      · rw [h2]; rfl
    rw [if_neg (show ¬ nI (mso (tT B n a)) = 2 from nI_ne (b := 2) e2 (by omega) (by omega)), if_neg d]
theorem M_isWord {B : Nat → Nat} {n sz a w : Nat} {H G : sh_H} (t : TK B n sz H G) (ha : a < sz) (hg : G.1 12 0 7 = nI a) (hw : w < 13) : f_M_isWord (nI w) G = some (if tT B n a = w then 1 else 0) := by
  have a4 := t.2.2.1
  have ml := mso_lt (tT B n a)
  have tl := tT_lt B n a
  obtain ⟨m1, m2, m3, m4, m5, m6⟩ := t.2.2.2.2.2.1 a ha
  unfold f_M_isWord f_M_isWord_b30
  have i1 : ai_in (nI a) 2001 := q_in (by omega) (by omega)
  rw [hg, if_pos i1, if_pos i1, q_cl (by omega), m1, q_nar0, q_nar1]
  by_cases e : tT B n a < 13
  · have em : mso (tT B n a) = 3 := if_pos e
    rw [em, if_pos (show nI 3 = 3 from rfl), m3 (Or.inl e)]
    by_cases d : tT B n a = w
    · rw [if_pos d, if_pos (by rw [d])]
    · rw [if_neg d, if_neg (nI_ne d (by omega) (by omega))]
  · have em : ¬ mso (tT B n a) = 3 := by
      unfold mso
      rw [if_neg e]
      repeat' split
      all_goals omega
    rw [if_neg (show ¬ nI (mso (tT B n a)) = 3 from nI_ne (b := 3) em (by omega) (by omega)), if_neg (by omega)]
/-- a sign is taken -/
theorem S_sign {B : Nat → Nat} {n sz a lf lt s : Nat} {H G : sh_H} (p : PS B n sz a lf lt H G) (hs : 40 ≤ s ∧ s < 100) : f_M_isSign (nI s) G = some (if tT B n a = s then 1 else 0) ∧ ((tT B n a = s ∧ RS B n sz (a + 1) lf lt H G (f_Reader_expect (nI s) H) (f_M_pass G)) ∨ (¬ tT B n a = s ∧ ∃ H' G', f_Reader_expect (nI s) H = some H' ∧ f_M_wrong 1 G = some (0, G') ∧ DE 1 a H' ∧ FA B n 1 a G' ∧ f5 H' H ∧ f12 G' G)) := by
  refine ⟨M_isSign p.1 p.2.1 p.2.2.2.2.1 (Or.inl ⟨rfl, hs.1, hs.2⟩), ?_⟩
  by_cases c : tT B n a = s
  · refine Or.inl ⟨c, ?_⟩
    rw [C_expect_y p c]
    exact S_pass p ⟨by omega, by omega⟩
  · obtain ⟨H', h1, h2, h3⟩ := C_expect_n p hs.2 c
    obtain ⟨G', g1, g2, g3⟩ := M_wrong (F := 1) p.1 p.2.1 p.2.2.2.2.1
    exact Or.inr ⟨c, H', G', h1, g1, h2, g2, h3, g3⟩
