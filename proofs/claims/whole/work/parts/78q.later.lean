/-! PAIR: read: later faults, numbers -/
def upf (lf k : Nat) : Nat := if lf = 0 then k else lf
def upt (lf lt x : Nat) : Nat := if lf = 0 then x else lt
def CL (lf lt : Nat) (H : sh_H) : Prop := H.1 5 0 6 = nI lf ∧ lf ≤ 5 ∧ (lf ≠ 0 → H.1 5 0 7 = nI lt)
def ML2 (B : Nat → Nat) (n lf lt : Nat) (G : sh_H) : Prop := G.1 12 0 10 = nI lf ∧ lf ≤ 5 ∧ (lf ≠ 0 → G.1 12 0 11 = nI (tst B n lt)) ∧ G.1 12 0 8 = 0 ∧ G.1 12 0 9 = -1
theorem PS.cl {B : Nat → Nat} {n sz a lf lt : Nat} {H G : sh_H} (p : PS B n sz a lf lt H G) : CL lf lt H := ⟨p.2.2.2.2.2.1, p.2.2.2.2.2.2.1, fun z => (p.2.2.2.2.2.2.2.2.1 z).1⟩
theorem PS.ml {B : Nat → Nat} {n sz a lf lt : Nat} {H G : sh_H} (p : PS B n sz a lf lt H G) : ML2 B n lf lt G := ⟨p.2.2.2.2.2.2.2.1, p.2.2.2.2.2.2.1, fun z => (p.2.2.2.2.2.2.2.2.1 z).2.2, p.2.2.2.2.2.2.2.2.2⟩
theorem PS.lt {B : Nat → Nat} {n sz a lf lt : Nat} {H G : sh_H} (p : PS B n sz a lf lt H G) (z : lf ≠ 0) : lt < a := (p.2.2.2.2.2.2.2.2.1 z).2.1
theorem PS_mk {B : Nat → Nat} {n sz a lf lt : Nat} {H G : sh_H} (t : TK B n sz H G) (ha : a < sz) (h3 : H.1 5 0 3 = nI a) (h4 : H.1 5 0 4 = 0) (g7 : G.1 12 0 7 = nI a) (cl : CL lf lt H) (ml : ML2 B n lf lt G) (l : lf ≠ 0 → lt < a) : PS B n sz a lf lt H G := ⟨t, ha, h3, h4, g7, cl.1, cl.2.1, ml.1, fun z => ⟨cl.2.2 z, l z, ml.2.2.1 z⟩, ml.2.2.2⟩
theorem CL_to {lf lt : Nat} {H H' : sh_H} (e : ∀ j, j = 6 ∨ j = 7 → H'.1 5 0 j = H.1 5 0 j) (c : CL lf lt H) : CL lf lt H' := ⟨(e 6 (Or.inl rfl)).trans c.1, c.2.1, fun z => (e 7 (Or.inr rfl)).trans (c.2.2 z)⟩
theorem ML2_to {B : Nat → Nat} {n lf lt : Nat} {G G' : sh_H} (e : ∀ j, j = 8 ∨ j = 9 ∨ j = 10 ∨ j = 11 → G'.1 12 0 j = G.1 12 0 j) (c : ML2 B n lf lt G) : ML2 B n lf lt G' := ⟨(e 10 (by omega)).trans c.1, c.2.1, fun z => (e 11 (by omega)).trans (c.2.2.1 z), (e 8 (by omega)).trans c.2.2.2.1, (e 9 (by omega)).trans c.2.2.2.2⟩
theorem C_later {lf lt k x : Nat} {H : sh_H} (c : CL lf lt H) (hk : 1 ≤ k ∧ k ≤ 5) : ∃ H', f_Reader_failLater (nI k) (nI x) H = some H' ∧ CL (upf lf k) (upt lf lt x) H' ∧ (∀ c i j, ¬ (c = 5 ∧ i = 0 ∧ (j = 6 ∨ j = 7)) → H'.1 c i j = H.1 c i j) ∧ H'.2 = H.2 := by
  obtain ⟨c1, c2, c3⟩ := c
  unfold f_Reader_failLater upf upt
  by_cases z : lf = 0
  · rw [c1, if_pos z, if_pos z, z, if_pos (show nI 0 = 0 from rfl), sh_let, sh_let]
    exact ⟨_, rfl, ⟨(pI_ne (by omega)).trans (pI_at _ _ _ _ _), hk.2, fun _ => pI_at _ _ _ _ _⟩, fun c i j h => (pI_ne (by omega)).trans (pI_ne (by omega)), rfl⟩
  · rw [c1, if_neg z, if_neg z, if_neg (nI_ne0 (by omega) (by omega))]
    exact ⟨H, rfl, ⟨c1, c2, c3⟩, fun _ _ _ _ => rfl, rfl⟩
theorem M_tells {B : Nat → Nat} {n sz lf lt k x : Nat} {H G : sh_H} (t : TK B n sz H G) (hx : x < sz) (c : ML2 B n lf lt G) (hk : 1 ≤ k ∧ k ≤ 5) (hl : lf ≠ 0 → lt < x ∨ (lt = x ∧ lf ≤ k)) : ∃ G', f_M_tells (nI k) (nI x) G = some G' ∧ ML2 B n (upf lf k) (upt lf lt x) G' ∧ (∀ c i j, ¬ (c = 12 ∧ i = 0 ∧ (j = 10 ∨ j = 11)) → G'.1 c i j = G.1 c i j) ∧ G'.2 = G.2 := by
  obtain ⟨c1, c2, c3, c4, c5⟩ := c
  have sz4 := t.2.2.1
  have px := (t.2.2.2.2.2.1 x hx).2.1
  have gd : ∀ j, j < x → tG B n j := fun j hj => t.2.2.2.2.2.2.1 j (by omega)
  have pb := tst_le (B := B) (n := n) (i := x) gd
  have n2 := t.1
  unfold f_M_tells f_M_tells_b39 upf upt
  rw [if_pos (q_in (by omega) (by omega)), q_cl (by omega), px, c1]
  by_cases z : lf = 0
  · rw [if_pos z, if_pos z, z, if_pos (show nI 0 = 0 from rfl), sh_let, sh_let]
    exact ⟨_, rfl, ⟨(pI_ne (by omega)).trans (pI_at _ _ _ _ _), hk.2, fun _ => pI_at _ _ _ _ _, (pI_ne (by omega)).trans ((pI_ne (by omega)).trans c4), (pI_ne (by omega)).trans ((pI_ne (by omega)).trans c5)⟩, fun c i j h => (pI_ne (by omega)).trans (pI_ne (by omega)), rfl⟩
  · rw [if_neg z, if_neg z, if_neg (nI_ne0 (by omega) (by omega)), c3 z]
    rcases hl z with h | ⟨h, h2⟩
    · have := tst_lt (B := B) (n := n) h gd
      rw [if_pos (nI_lt this (by omega))]
      exact ⟨G, rfl, ⟨c1, c2, c3, c4, c5⟩, fun _ _ _ _ => rfl, rfl⟩
    · rw [h, if_neg (nI_nlt (Nat.le_refl _) (by omega)), if_pos rfl, if_neg (nI_nlt h2 (by omega))]
      exact ⟨G, rfl, ⟨c1, c2, fun z => by rw [← h]; exact c3 z, c4, c5⟩, fun _ _ _ _ => rfl, rfl⟩
theorem sz_up {B : Nat → Nat} {n sz a : Nat} {H G : sh_H} (t : TK B n sz H G) (ha : a < sz) (g : tG B n a) (h4 : a < 400) : a + 1 < sz := by
  rcases t.2.2.2.2.2.2.2 with h | h
  · omega
  · by_cases c : a + 1 < sz
    · exact c
    · exact absurd (by rw [show sz - 1 = a by omega]; exact g) h
theorem C_acc {a : Nat} {H : sh_H} (h3 : H.1 5 0 3 = nI a) (h4 : H.1 5 0 4 = 0) (ha : a < 400) : f_Reader_accept H = some (sh_pI H 5 0 3 (nI (a + 1))) := by
  unfold f_Reader_accept f_Reader_accept_b30
  rw [if_pos h4, h3, if_pos (show nI a < (400 : Int32) from nI_lt (b := 400) ha (by omega)), if_pos h4, sh_let, nI_1]
theorem C_acc4 {H : sh_H} (h3 : H.1 5 0 3 = nI 400) (h4 : H.1 5 0 4 = 0) : ∃ H', f_Reader_accept H = some H' ∧ DE 2 400 H' ∧ f5 H' H := by
  refine ⟨sh_pI (sh_pI H 5 0 4 2) 5 0 5 (nI 400), ?_, ⟨Or.inr rfl, (pI_ne (by omega)).trans (pI_at _ _ _ _ _), pI_at _ _ _ _ _⟩, ((f5.rf H).pI).pI⟩
  have n2 : ¬ (sh_pI (sh_pI H 5 0 4 2) 5 0 5 (nI 400)).1 5 0 4 = 0 := by
    rw [show (sh_pI (sh_pI H 5 0 4 2) 5 0 5 (nI 400)).1 5 0 4 = 2 from (pI_ne (by omega)).trans (pI_at _ _ _ _ _)]; decide
  unfold f_Reader_accept f_Reader_accept_b30
  rw [if_pos h4, h3, if_neg (show ¬ nI 400 < (400 : Int32) by decide), sh_let, show (sh_pI H 5 0 4 2).1 5 0 3 = nI 400 from (pI_ne (by omega)).trans h3, sh_let, if_neg n2]
theorem M_pas {a : Nat} {G : sh_H} (g7 : G.1 12 0 7 = nI a) (ha : a < 400) : f_M_pass G = some (1, sh_pI G 12 0 7 (nI (a + 1))) := by
  unfold f_M_pass
  rw [g7, if_pos (show nI a < (400 : Int32) from nI_lt (b := 400) ha (by omega)), sh_let, nI_1, q_nar1]
theorem M_pas4 {B : Nat → Nat} {n sz : Nat} {H G : sh_H} (t : TK B n sz H G) (hs : 400 < sz) (g7 : G.1 12 0 7 = nI 400) : ∃ G', f_M_pass G = some (0, G') ∧ FA B n 2 400 G' ∧ f12 G' G := by
  obtain ⟨G', g1, g2, g3⟩ := M_wrong (F := 2) t hs g7
  refine ⟨G', ?_, g2, g3⟩
  unfold f_M_pass
  rw [g7, if_neg (show ¬ nI 400 < (400 : Int32) by decide), show f_M_wrong 2 G = some (0, G') from g1, sh_b2_some, q_nar0]
theorem C_exp_y {B : Nat → Nat} {n sz a s : Nat} {H G : sh_H} (t : TK B n sz H G) (ha : a < sz) (h3 : H.1 5 0 3 = nI a) (e : tT B n a = s) : f_Reader_expect (nI s) H = f_Reader_accept H := by
  unfold f_Reader_expect f_Reader_expect_b20
  rw [h3, C_sort t ha, Option.bind_some, if_pos (by rw [e])]
  cases f_Reader_accept H <;> rfl
theorem C_exp_n {B : Nat → Nat} {n sz a s : Nat} {H G : sh_H} (t : TK B n sz H G) (ha : a < sz) (h3 : H.1 5 0 3 = nI a) (h4 : H.1 5 0 4 = 0) (hs : s < 100) (e : ¬ tT B n a = s) : ∃ H', f_Reader_expect (nI s) H = some H' ∧ DE 1 a H' ∧ f5 H' H := by
  have := tT_lt B n a
  have d : DE 1 a (sh_pI (sh_pI H 5 0 4 1) 5 0 5 (nI a)) := ⟨Or.inl rfl, (pI_ne (by omega)).trans (pI_at _ _ _ _ _), pI_at _ _ _ _ _⟩
  refine ⟨_, ?_, d, ((f5.rf H).pI).pI⟩
  have ff : f_Reader_fail 1 H = some (sh_pI (sh_pI H 5 0 4 1) 5 0 5 (nI a)) := by
    unfold f_Reader_fail
    rw [if_pos h4, sh_let, show (sh_pI H 5 0 4 1).1 5 0 3 = nI a from (pI_ne (by omega)).trans h3, sh_let]
  unfold f_Reader_expect f_Reader_expect_b20
  rw [h3, C_sort t ha, Option.bind_some, if_neg (nI_ne e (by omega) (by omega)), ff, Option.bind_some, D_accept d]
  rfl
theorem f5_of {H' H : sh_H} (e1 : ∀ c i j, ¬ (c = 5 ∧ i = 0 ∧ (j = 6 ∨ j = 7)) → H'.1 c i j = H.1 c i j) (e2 : H'.2 = H.2) : f5 H' H := ⟨fun c i j n => e1 c i j (by omega), e2⟩
theorem f12_of {H' H : sh_H} (e1 : ∀ c i j, ¬ (c = 12 ∧ i = 0 ∧ (j = 10 ∨ j = 11)) → H'.1 c i j = H.1 c i j) (e2 : H'.2 = H.2) : f12 H' H := ⟨fun c i j n => e1 c i j (by omega), e2⟩
/-- a value and its failure -/
def FV {α : Type} (B : Nat → Nat) (n sz : Nat) (H G : sh_H) (e : Option (α × sh_H)) (m : Option (Int32 × sh_H)) : Prop := ∃ F T v H' G', e = some (v, H') ∧ m = some (0, G') ∧ T < sz ∧ DE F T H' ∧ FA B n F T G' ∧ f5 H' H ∧ f12 G' G
theorem mso_eq {S s m : Nat} (cl : S < 13 ∨ S = 20 ∨ S = 21 ∨ S = 22 ∨ S = 23 ∨ S = 24 ∨ isS S) (hs : (s = 20 ∧ m = 0) ∨ (s = 21 ∧ m = 1)) : mso S = m ↔ S = s := by
  rcases hs with ⟨h1, h2⟩ | ⟨h1, h2⟩
  · rw [h1, h2]
    constructor
    · intro e
      unfold mso at e
      repeat' split at e
      all_goals omega
    · intro e; rw [e]; rfl
  · rw [h1, h2]
    constructor
    · intro e
      unfold mso at e
      repeat' split at e
      all_goals omega
    · intro e; rw [e]; rfl
theorem M_take_n {B : Nat → Nat} {n sz a s m : Nat} {H G : sh_H} (t : TK B n sz H G) (ha : a < sz) (g7 : G.1 12 0 7 = nI a) (hs : (s = 20 ∧ m = 0) ∨ (s = 21 ∧ m = 1)) (c : ¬ tT B n a = s) : ∃ G', f_M_takes (nI m) G = some (0, G') ∧ FA B n 1 a G' ∧ f12 G' G := by
  have a4 := t.2.2.1
  have ml := mso_lt (tT B n a)
  obtain ⟨G', g1, g2, g3⟩ := M_wrong (F := 1) t ha g7
  refine ⟨G', ?_, g2, g3⟩
  unfold f_M_takes
  rw [g7, if_pos (q_in (by omega) (by omega)), q_cl (by omega), (t.2.2.2.2.2.1 a ha).1, if_neg (nI_ne (fun z => c ((mso_eq (tT_cl B n a) hs).mp z)) (by omega) (by omega)), show f_M_wrong 1 G = some (0, G') from g1, sh_b2_some, q_nar0]
theorem M_take_y {B : Nat → Nat} {n sz a s m : Nat} {H G : sh_H} (t : TK B n sz H G) (ha : a < sz) (g7 : G.1 12 0 7 = nI a) (hs : (s = 20 ∧ m = 0) ∨ (s = 21 ∧ m = 1)) (c : tT B n a = s) : f_M_takes (nI m) G = f_M_pass G := by
  have a4 := t.2.2.1
  unfold f_M_takes
  rw [g7, if_pos (q_in (by omega) (by omega)), q_cl (by omega), (t.2.2.2.2.2.1 a ha).1, if_pos (by rw [(mso_eq (tT_cl B n a) hs).mpr c])]
  unfold f_M_pass f_M_wrong
  rw [g7]
  by_cases h : nI a < (400 : Int32)
  · rw [if_pos h, sh_let, sh_b2_some, q_nar1, q_nar1]
  · rw [if_neg h, sh_let]
    split
    · rw [sh_let, sh_b2_some, sh_b2_some, q_nar0, q_nar0, q_nar0]
    · rfl
theorem S_number {B : Nat → Nat} {n sz a lf lt lo hi : Nat} {H G : sh_H} (p : PS B n sz a lf lt H G) (hh : hi ≤ 9999) (hl : lo ≤ 9999) : (∃ v H' G', f_Reader_number (nI lo) (nI hi) H = some (nI v, H') ∧ f_M_takesInt (nI lo) (nI hi) G = some (1, G') ∧ G'.1 12 0 19 = nI v ∧ v ≤ 9999 ∧ f5 H' H ∧ f12 G' G ∧ ((lo ≤ v ∧ v ≤ hi ∧ PS B n sz (a + 1) lf lt H' G') ∨ (¬ (lo ≤ v ∧ v ≤ hi) ∧ PS B n sz (a + 1) (upf lf 5) (upt lf lt a) H' G'))) ∨ FV B n sz H G (f_Reader_number (nI lo) (nI hi) H) (f_M_takesInt (nI lo) (nI hi) G) := by
  have t := p.1
  have ha := p.2.1
  have h3 := p.2.2.1
  have h4 := p.2.2.2.1
  have g7 := p.2.2.2.2.1
  have a4 := p.a4
  unfold f_Reader_number f_Reader_number_b23 f_Reader_number_b32 f_M_takesInt f_M_takesInt_b41
  rw [h3, C_val t ha, Option.bind_some]
  -- the class's later fault, or none
  have cx : ∀ v : Int32, ∃ H1, (if v < nI lo then Option.bind (f_Reader_failLater 5 (nI a) H) (fun h2 => Option.bind (f_Reader_expect 21 h2) (fun h1 => some (v, h1))) else if nI hi < v then Option.bind (f_Reader_failLater 5 (nI a) H) (fun h2 => Option.bind (f_Reader_expect 21 h2) (fun h1 => some (v, h1))) else Option.bind (f_Reader_expect 21 H) (fun h1 => some (v, h1))) = Option.bind (f_Reader_expect 21 H1) (fun h1 => some (v, h1)) ∧ f5 H1 H ∧ H1.1 5 0 3 = nI a ∧ H1.1 5 0 4 = 0 ∧ (¬ (v < nI lo ∨ nI hi < v) → CL lf lt H1) ∧ ((v < nI lo ∨ nI hi < v) → CL (upf lf 5) (upt lf lt a) H1) := by
    intro v
    obtain ⟨H', e1, e2, e3, e4⟩ := C_later (k := 5) (x := a) p.cl (by omega)
    have e1' : f_Reader_failLater 5 (nI a) H = some H' := e1
    by_cases c : v < nI lo ∨ nI hi < v
    · refine ⟨H', ?_, f5_of e3 e4, (e3 _ _ _ (by omega)).trans h3, (e3 _ _ _ (by omega)).trans h4, fun z => absurd c z, fun _ => e2⟩
      rw [e1', Option.bind_some]
      by_cases d : v < nI lo
      · rw [if_pos d]
      · rw [if_neg d, if_pos (c.resolve_left d)]
    · refine ⟨H, ?_, f5.rf H, h3, h4, fun _ => p.cl, fun z => absurd z c⟩
      rw [if_neg (fun z => c (Or.inl z)), if_neg (fun z => c (Or.inr z))]
  obtain ⟨H1, x1, x2, x3, x4, x5, x6⟩ := cx (H.2.1 14 0 a).toInt32
  rw [x1]
  have t1 : TK B n sz H1 G := TK_f x2 (f12.rf G) t
  by_cases c : tT B n a = 21
  · have gg : tG B n a := ⟨by omega, by omega⟩
    have ev : (H.2.1 14 0 a).toInt32 = nI (tV B n a) := by rw [(t.2.2.2.2.1 a ha).2.2.2 c, lN_i]
    have vl := tV_le c
    rw [ev] at x5 x6 ⊢
    rw [show (21 : Int32) = nI 21 from rfl, C_exp_y t1 ha x3 c]
    by_cases a400 : a < 400
    · have pp := M_pas g7 a400
      have tk : f_M_takes 1 G = some (1, sh_pI G 12 0 7 (nI (a + 1))) := (M_take_y (s := 21) (m := 1) t ha g7 (Or.inr ⟨rfl, rfl⟩) c).trans pp
      rw [C_acc x3 x4 a400, Option.bind_some, tk, sh_b2_some, if_neg q_10, g7, if_pos (q_in (by omega) (by omega)), q_cl (by omega), sh_let, pI_at]
      have gv : (sh_pI G 12 0 7 (nI (a + 1))).1 13 45 a = nI (tV B n a) := (pI_ne (by omega)).trans ((t.2.2.2.2.2.1 a ha).2.2.2.1 c)
      rw [gv]
      have f2 : f12 (sh_pI (sh_pI G 12 0 7 (nI (a + 1))) 12 0 19 (nI (tV B n a))) G := ((f12.rf G).pI (by omega)).pI (by omega)
      have t2 : TK B n sz (sh_pI H1 5 0 3 (nI (a + 1))) (sh_pI (sh_pI G 12 0 7 (nI (a + 1))) 12 0 19 (nI (tV B n a))) := TK_f (x2.pI) f2 t
      have su := sz_up t ha gg a400
      have m2 : ML2 B n lf lt (sh_pI (sh_pI G 12 0 7 (nI (a + 1))) 12 0 19 (nI (tV B n a))) := ML2_to (fun j hj => (pI_ne (by omega)).trans (pI_ne (by omega))) p.ml
      by_cases o : nI (tV B n a) < nI lo ∨ nI hi < nI (tV B n a)
      · have on : ¬ (lo ≤ tV B n a ∧ tV B n a ≤ hi) := by
          rw [nI_ltI (by omega) (by omega), nI_ltI (by omega) (by omega)] at o
          omega
        obtain ⟨G', g1, g2, g3, g4⟩ := M_tells (k := 5) t2 (x := a) ha m2 (by omega) (fun z => Or.inl (p.lt z))
        have g1' : f_M_tells 5 (nI a) (sh_pI (sh_pI G 12 0 7 (nI (a + 1))) 12 0 19 (nI (tV B n a))) = some G' := g1
        refine Or.inl ⟨tV B n a, sh_pI H1 5 0 3 (nI (a + 1)), G', rfl, ?_, (g3 _ _ _ (by omega)).trans (pI_at _ _ _ _ _), vl, x2.pI, (f12_of g3 g4).tr f2, Or.inr ⟨on, PS_mk (TK_f (f5.rf _) (f12_of g3 g4) t2) su (pI_at _ _ _ _ _) ((pI_ne (by omega)).trans x4) ((g3 _ _ _ (by omega)).trans ((pI_ne (by omega)).trans (pI_at _ _ _ _ _))) (CL_to (fun j hj => pI_ne (by omega)) (x6 o)) g2 (fun z => ?_)⟩⟩
        · rw [g1', Option.bind_some, q_nar1]
          by_cases d : nI (tV B n a) < nI lo
          · rw [if_pos d]
          · rw [if_neg d, if_pos (o.resolve_left d)]
        · unfold upt
          split
          · omega
          · rename_i w; have := p.lt w; omega
      · have on : lo ≤ tV B n a ∧ tV B n a ≤ hi := by
          rw [nI_ltI (by omega) (by omega), nI_ltI (by omega) (by omega)] at o
          omega
        refine Or.inl ⟨tV B n a, sh_pI H1 5 0 3 (nI (a + 1)), _, rfl, ?_, pI_at _ _ _ _ _, vl, x2.pI, f2, Or.inl ⟨on.1, on.2, PS_mk t2 su (pI_at _ _ _ _ _) ((pI_ne (by omega)).trans x4) ((pI_ne (by omega)).trans (pI_at _ _ _ _ _)) (CL_to (fun j hj => pI_ne (by omega)) (x5 o)) m2 (fun z => by have := p.lt z; omega)⟩⟩
        rw [if_neg (fun z => o (Or.inl z)), if_neg (fun z => o (Or.inr z)), q_nar1]
    · obtain rfl : a = 400 := by omega
      obtain ⟨H2, y1, y2, y3⟩ := C_acc4 x3 x4
      obtain ⟨G2, z1, z2, z3⟩ := M_pas4 t ha g7
      have tk : f_M_takes 1 G = some (0, G2) := (M_take_y (s := 21) (m := 1) t ha g7 (Or.inr ⟨rfl, rfl⟩) c).trans z1
      rw [y1, Option.bind_some, tk, sh_b2_some, if_pos rfl, q_nar0]
      exact Or.inr ⟨2, 400, _, H2, G2, rfl, rfl, ha, y2, z2, y3.tr x2, z3⟩
  · obtain ⟨H', r1, r2, r3⟩ := C_exp_n (s := 21) t1 ha x3 x4 (by omega) c
    obtain ⟨G', g1, g2, g3⟩ := M_take_n (s := 21) (m := 1) t ha g7 (Or.inr ⟨rfl, rfl⟩) c
    rw [show f_Reader_expect 21 H1 = some H' from r1, Option.bind_some, show f_M_takes 1 G = some (0, G') from g1, sh_b2_some, if_pos rfl, q_nar0]
    exact Or.inr ⟨1, a, _, H', G', rfl, rfl, ha, r2, g2, r3.tr x2, g3⟩
