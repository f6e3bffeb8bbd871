/-! PAIRS: pay, change -/
theorem bcol1 (b1 b2 : Nat → Nat) : bcol 1 b1 b2 = b1 := if_pos rfl
theorem bcol2 (b1 b2 : Nat → Nat) : bcol 2 b1 b2 = b2 := if_neg (by decide)
theorem ne_m2 {a : Nat} (ha : a < 2 ^ 31) : ¬ nI a = -2 := fun z => by
  have : ¬ nI a < 0 := nI_pos ha
  rw [z] at this
  exact this (by decide)
theorem C_fewTill {nk S : Nat} {w b1 b2 : Nat → Nat} (k1 : nk ≤ 6) (hS : S ≤ 4000) (hw : ∀ k, k < nk → 1 ≤ w k ∧ w k ≤ 500) (hb : ∀ k, k < nk → b1 k < 2 ^ 30) (h : sh_H) (hC : RC h) (t : TL h nk w b1 b2) : ∃ E, f_Coins_fewestOfTill NF (nI S) h = some ((if gf w b1 1048576 nk 0 S < 1048576 then nI (gf w b1 1048576 nk 0 S) else -2), E) ∧ rC 35 E h := by
  obtain ⟨E, E1, E2, E3⟩ := C_fill (l := 35) (Or.inr rfl) k1 hS (lo := 0) (Nat.zero_le _) (Or.inl rfl) hw (by rw [bcol1]; exact hb) h hC t
  rw [clF_md (fun k _ h2 => (hw k (by omega)).1), bcol1] at E3
  have c : E.1 13 35 S = nI (gf w b1 1048576 nk 0 S) := E3 S (Nat.le_refl _)
  have g := gf_I (b := b1) (I := 1048576) (lo := 0) (fun k hk => (hw k hk).1) S
  unfold f_Coins_fewestOfTill
  rw [show f_Coins_fill NF 35 1 0 (nI S) h = some E from E1, Option.bind_some, C_at l34.2 hS, Option.bind_some, c]
  refine ⟨E, ?_, E2⟩
  by_cases l : gf w b1 1048576 nk 0 S < 1048576
  · rw [if_pos (show nI (gf w b1 1048576 nk 0 S) < 1048576 from nI_lt (b := 1048576) l (by omega)), if_pos l]
  · rw [if_neg (show ¬ nI (gf w b1 1048576 nk 0 S) < 1048576 from nI_nlt (b := 1048576) (by omega) (by omega)), if_neg l]
theorem M_payTills {c : Nat} {hc hm : sh_H} (h : St c hc hm) (hc5 : c ≤ 512) {p nk : Nat} (hp : p < 5) (k1 : nk ≤ 6) (a1 a2 a3 : Int32) (e : a1 = nI p) : ∃ E, f_M_pay_b36 NF a1 a2 a3 hm = f_M_pay_b66 NF a2 a3 E ∧ sM E hm ∧ TM E 0 nk (al (mS hm) p) := by
  subst e
  have lp : ∀ (n k u : Nat) (H : sh_H), k + n = 6 → n < u → sM H hm → (∀ j, j < k → H.1 13 54 j = nI (al (mS hm) p j)) → ∃ E, f_M_pay_l39 NF (f_M_pay_b66 NF) u (nI p) a2 a3 (nI k) H = f_M_pay_b66 NF a2 a3 E ∧ sM E hm ∧ TM E 0 nk (al (mS hm) p) := by
    intro n
    induction n with
    | zero =>
      intro k u H e1 e2 x dn
      obtain ⟨u, rfl⟩ : ∃ m, u = m + 1 := ⟨u - 1, by omega⟩
      obtain rfl : k = 6 := by omega
      refine ⟨H, ?_, x, fun j hj => ⟨?_, ?_⟩⟩
      · show f_M_pay_c39 NF (f_M_pay_b66 NF) (f_M_pay_l39 NF (f_M_pay_b66 NF) u) (nI p) a2 a3 (nI 6) H = _
        unfold f_M_pay_c39
        rw [if_neg (show ¬ nI 6 < 6 by decide)]
      · rw [show 6 * 0 + j = j by omega]; exact dn j (by omega)
      · have := (al_of (St_S h) hc5 hp (k := j) (by omega)).1; omega
    | succ n ih =>
      intro k u H e1 e2 x dn
      obtain ⟨u, rfl⟩ : ∃ m, u = m + 1 := ⟨u - 1, by omega⟩
      show ∃ E, f_M_pay_c39 NF (f_M_pay_b66 NF) (f_M_pay_l39 NF (f_M_pay_b66 NF) u) (nI p) a2 a3 (nI k) H = _ ∧ _
      unfold f_M_pay_c39
      rw [if_pos (show nI k < 6 from nI_lt (b := 6) (by omega) (by omega)), M_all' (St_S h) hc5 x hp (by omega), Option.bind_some, if_pos (q_in (k := k) (n := 12) (by omega) (by omega)), sh_let, nI_1, q_cl (by omega)]
      refine ih (k + 1) u _ (by omega) (by omega) (x.pI (by unfold scM; omega)) (fun j hj => ?_)
      by_cases z : j = k
      · rw [z, pI_at]
      · rw [pI_ne (by omega)]; exact dn j (by omega)
  unfold f_M_pay_b36
  exact lp 6 0 NF hm (by omega) (NF_gt (by omega)) (sM.rf hm) (fun j hj => absurd hj (Nat.not_lt_zero _))
theorem pay_core {c : Nat} {hc hm : sh_H} (h : St c hc hm) (hc5 : c ≤ 512) {nk p S : Nat} (k2 : mS hm 0 = nI nk) (k1 : nk ≤ 6) (hp : p < 5) (s2 : S ≤ 2000) (a3 : Int32) (ha : a3 = 0 ∨ (¬ a3 = 0 ∧ ∃ k, k < nk ∧ a3 - 10 = nI k)) : ∃ r, oC (f_CB_pay_b38 NF (nI p) (nI S) a3 hc) r hc ∧ oM (f_M_pay_b36 NF (nI p) (nI S) a3 hm) r hm := by
  have hw : ∀ k, k < nk → 1 ≤ wth (mS hm) k ∧ wth (mS hm) k ≤ 500 := fun k hk => (T_kind h k2 k1 hk).1.2
  have hw1 : ∀ k, k < nk → 1 ≤ wth (mS hm) k := fun k hk => (hw k hk).1
  have hb : ∀ k, k < nk → al (mS hm) p k < 2 ^ 30 := fun k hk => by have := (al_of (St_S h) hc5 hp (k := k) (by omega)).1; omega
  obtain ⟨E, E1, E2, E3⟩ := C_look h hc5 k2 k1 (p := p) (g := 0) hp
  have hCE : RC E := (St_sC E2 h).1
  obtain ⟨E', e1, e2⟩ := C_fewTill k1 (S := S) (by omega) hw hb E hCE E3
  obtain ⟨G, G1, G2, G3⟩ := M_payTills h hc5 (nk := nk) hp k1 (nI p) (nI S) a3 rfl
  obtain ⟨L, L1, L2, L3⟩ := M_layFewest h (side := 0) (most := S) k2 k1 (by omega) (by omega) G G2 G3
  have m0 : MR L (28007 * 0) S (gf (wth (mS hm)) (al (mS hm) p) 1000000 nk 0) := L3 0 (by omega)
  have mf := M_fewestOf (side := 0) (v := S) (by omega) (by omega) (Nat.le_refl _) (fun v => gf_I hw1 v) m0
  have II := gf_II (b := al (mS hm) p) (lo := 0) (v := S) (I := 1048576) (J := 1000000) (S := 2000) (by omega) (by omega) hw1 s2
  have cE : sC E' hc := (e2.s (by omega)).tr E2
  have cM : sM L hm := L2.s.tr G2
  have n10 : ¬ (1048576 : Nat) < 1048576 := by omega
  rw [G1]
  unfold f_CB_pay_b38 f_M_pay_b66
  rw [show f_Coins_look NF hc.2.2.1 0 (nI p) 0 hc = some E from E1, Option.bind_some, e1, sh_b2_some, show f_M_layFewest NF 0 (nI S) G = some L from L1, Option.bind_some, show f_M_fewestOf 0 (nI S) L = _ from mf, Option.bind_some]
  rcases II with ⟨i1, i2⟩ | ⟨i1, i2⟩
  · rw [i1, i2, if_neg n10, if_pos rfl, if_neg (show ¬ nI 1000000 < 1000000 by decide)]
    exact ⟨-2, ⟨E', rfl, cE⟩, ⟨L, rfl, cM⟩⟩
  · have g4 : gf (wth (mS hm)) (al (mS hm) p) 1048576 nk 0 S < 1048576 := by omega
    rw [← i1, if_pos g4, if_neg (ne_m2 (by omega)), if_pos (show nI (gf (wth (mS hm)) (al (mS hm) p) 1048576 nk 0 S) < 1000000 from nI_lt (b := 1000000) (by omega) (by omega))]
    rcases ha with ha | ⟨ha, k, hk, ek⟩
    · rw [if_pos ha, if_pos ha, Option.bind_some]
      exact ⟨_, ⟨E', rfl, cE⟩, ⟨L, rfl, cM⟩⟩
    · rw [if_neg ha, if_neg ha, ek]
      obtain ⟨D, D1, D2⟩ := C_ofKind (l := 35) (col := 1) (sum := S) (kind := k) (Or.inr rfl) k1 hk (by omega) (Or.inl rfl) hw (by rw [bcol1]; exact hb) E' (RC_of hCE (fun r j hr hj => e2.1 6 r j (by omega))) (rC_TL (Or.inr rfl) e2 E3)
      rw [bcol1, pof_II (I := 1048576) (J := 1000000) (S := 2000) (by omega) (by omega) hw1 (k + 1) 0 S 0 (by omega) s2 g4] at D1
      have mp := M_paidOf h (side := 0) (sum := S) (kind := k) (S := S) k2 k1 (by omega) (by omega) (Nat.le_refl _) hk L cM (L2.TM G3) L3
      refine ⟨nI (pof (wth (mS hm)) (al (mS hm) p) 1000000 nk (k + 1) 0 S 0), ⟨D, ?_, (D2.s (by omega)).tr cE⟩, ⟨L, ?_, cM⟩⟩
      · unfold f_Coins_ofTill
        rw [show f_Coins_ofKind NF 35 1 (nI S) (nI k) E' = _ from D1]
        rfl
      · rw [show f_M_paidOf NF 0 (nI S) (nI k) L = _ from mp]
        rfl
theorem P_pay (a1 a2 a3 : Int32) : Pair (f_CB_pay NF a1 a2 a3) (f_M_pay NF a1 a2 a3) := Pair.o (by
  intro c hc hm hc5 h
  obtain ⟨n, h1, h2, h3, -⟩ := St_n h 1 (by omega)
  obtain ⟨nk, k1, k2, k3, -⟩ := St_n h 0 (by omega)
  have hn : n ≤ 4 := h1
  have hk : nk ≤ 6 := k1
  unfold f_CB_pay f_M_pay f_CB_isSum
  rw [Text_isPlace, M_isPlace, CB_within, M_isIn, Text_isKind, M_isKind, h2, h3, k2, k3]
  simp only [Option.bind_some, q_nar1w]
  refine pickO (fun _ => ⟨-1, oC.v, oM.v⟩) (fun c1 => ?_)
  refine pickO (fun _ => ⟨-1, oC.v, oM.v⟩) (fun c2 => ?_)
  obtain ⟨p, hp, rfl⟩ := q_plc_in (by omega) c1
  obtain ⟨S, s1, s2, rfl⟩ := q_within_in (a := 1) (b := 2000) (by omega) (by omega) c2
  refine pickO (fun z => pay_core h (by omega) k3 hk (by omega) s2 a3 (Or.inl z)) (fun c3 => ?_)
  refine pickO (fun _ => ⟨-1, oC.v, oM.v⟩) (fun c4 => ?_)
  obtain ⟨k, kk, ek⟩ := q_kind_in (by omega) c4
  exact pay_core h (by omega) k3 hk (by omega) s2 a3 (Or.inr ⟨c3, k, kk, ek⟩))
/-- the least given and taken back -/
def cngS (P T : Nat → Nat) (S v : Nat) (b : Option (Nat × Nat)) : Option (Nat × Nat) :=
  if P v < 1000000 ∧ T (v - S) < 1000000 then (match b with | none => some (P v + T (v - S), v) | some (x, g) => if P v + T (v - S) < x then some (P v + T (v - S), v) else some (x, g)) else b
def cgo (P T : Nat → Nat) (S : Nat) : Nat → Nat → Option (Nat × Nat) → Option (Nat × Nat)
  | 0, _, b => b
  | q + 1, v, b => cgo P T S q (v + 1) (cngS P T S v b)
def cI (I : Int32) : Option (Nat × Nat) → Int32
  | none => I
  | some b => nI b.1
def cG (z : Int32) : Option (Nat × Nat) → Int32
  | none => z
  | some b => nI b.2
def cok (P T : Nat → Nat) (S : Nat) : Option (Nat × Nat) → Prop
  | none => True
  | some b => b.1 ≤ 8000 ∧ S ≤ b.2 ∧ b.2 ≤ 4000 ∧ P b.2 < 1000000 ∧ T (b.2 - S) < 1000000
theorem cok_st {P T : Nat → Nat} {S v : Nat} (hv : S ≤ v) (h4 : v ≤ 4000) (hP : P v < 1000000 → P v ≤ 4000) (hT : T (v - S) < 1000000 → T (v - S) ≤ 4000) {b : Option (Nat × Nat)} (h : cok P T S b) : cok P T S (cngS P T S v b) := by
  unfold cngS
  by_cases c : P v < 1000000 ∧ T (v - S) < 1000000
  · rw [if_pos c]
    have new : cok P T S (some (P v + T (v - S), v)) := ⟨by have := hP c.1; have := hT c.2; show _ + _ ≤ _; omega, hv, h4, c.1, c.2⟩
    cases b with
    | none => exact new
    | some b =>
      show cok P T S (if _ then _ else _)
      split
      · exact new
      · exact h
  · rw [if_neg c]; exact h
def r3 (H h : sh_H) : Prop := (∀ c i j, ¬ (c = 1 ∧ i = 0 ∧ j = 3) → H.1 c i j = h.1 c i j) ∧ H.2 = h.2
theorem r3.pI {H h : sh_H} {v : Int32} (x : r3 H h) : r3 (sh_pI H 1 0 3 v) h := by
  refine ⟨fun c i j n => ?_, x.2⟩
  rw [pI_ne n]
  exact x.1 c i j n
theorem r3.s {H h : sh_H} (x : r3 H h) : sC H h := ⟨fun c i j n => x.1 c i j (fun q => n (by unfold scC; omega)), fun _ _ _ _ => by rw [x.2], by rw [x.2]⟩
/-- a class's fewest and the model's -/
def fII (A P : Nat → Nat) : Prop := ∀ v, v ≤ 4000 → (A v = 1048576 ∧ P v = 1000000) ∨ (A v = P v ∧ P v ≤ 4000)
theorem C_least {S : Nat} (s2 : S ≤ 2000) {A B P T : Nat → Nat} (fA : fII A P) (fB : fII B T) (E0 : sh_H) (a34 : AR E0 34 4000 A) (a35 : AR E0 35 (4000 - S) B) : ∀ (q v u : Nat) (b : Option (Nat × Nat)) (H : sh_H), v + q = 4001 → q < u → S ≤ v → r3 H E0 → H.1 1 0 3 = cI 1048576 b → cok P T S b → ∃ E, f_Coins_leastGiven_l43 NF u (nI S) (cG (-2) b) (nI v) H = some (cG (-2) (cgo P T S q v b), E) ∧ r3 E E0 ∧ E.1 1 0 3 = cI 1048576 (cgo P T S q v b) ∧ cok P T S (cgo P T S q v b) := by
  intro q
  induction q with
  | zero =>
    intro v u b H e1 e2 e3 x h3 hb
    obtain ⟨u, rfl⟩ : ∃ m, u = m + 1 := ⟨u - 1, by omega⟩
    refine ⟨H, ?_, x, h3, hb⟩
    show f_Coins_leastGiven_c43 NF (f_Coins_leastGiven_l43 NF u) (nI S) (cG (-2) b) (nI v) H = _
    unfold f_Coins_leastGiven_c43
    rw [if_pos (show (4000 : Int32) < nI v from nI_lt (a := 4000) (by omega) (by omega))]
    rfl
  | succ q ih =>
    intro v u b H e1 e2 e3 x h3 hb
    obtain ⟨u, rfl⟩ : ∃ m, u = m + 1 := ⟨u - 1, by omega⟩
    show ∃ E, f_Coins_leastGiven_c43 NF (f_Coins_leastGiven_l43 NF u) (nI S) (cG (-2) b) (nI v) H = some (cG (-2) (cgo P T S q (v + 1) (cngS P T S v b)), E) ∧ r3 E E0 ∧ E.1 1 0 3 = cI 1048576 (cgo P T S q (v + 1) (cngS P T S v b)) ∧ cok P T S (cgo P T S q (v + 1) (cngS P T S v b))
    unfold f_Coins_leastGiven_c43 f_Coins_leastGiven_b88
    have c1 : H.1 13 34 v = nI (A v) := (x.1 13 34 v (by omega)).trans (a34 v (by omega))
    have c2 : H.1 13 35 (v - S) = nI (B (v - S)) := (x.1 13 35 (v - S) (by omega)).trans (a35 (v - S) (by omega))
    have hb' := cok_st (b := b) e3 (show v ≤ 4000 by omega) (fun z => by rcases fA v (by omega) with y | y <;> omega) (fun z => by rcases fB (v - S) (by omega) with y | y <;> omega) hb
    rw [if_neg (show ¬ (4000 : Int32) < nI v from nI_nlt (a := 4000) (b := v) (by omega) (by omega)), C_at l34.1 (by omega), Option.bind_some, q_sub e3, C_at l34.2 (by omega), Option.bind_some, c1, c2, nI_add, nI_1, h3]
    by_cases c : P v < 1000000 ∧ T (v - S) < 1000000
    · have eA : A v = P v ∧ P v ≤ 4000 := by rcases fA v (by omega) with y | y <;> omega
      have eB : B (v - S) = T (v - S) ∧ T (v - S) ≤ 4000 := by rcases fB (v - S) (by omega) with y | y <;> omega
      rw [eA.1, eB.1]
      have new : cngS P T S v b = some (P v + T (v - S), v) → ∃ E, sh_let (sh_pI H 1 0 3 (nI (P v + T (v - S)))) (fun h3 => f_Coins_leastGiven_l43 NF u (nI S) (nI v) (nI (v + 1)) h3) = some (cG (-2) (cgo P T S q (v + 1) (cngS P T S v b)), E) ∧ r3 E E0 ∧ E.1 1 0 3 = cI 1048576 (cgo P T S q (v + 1) (cngS P T S v b)) ∧ cok P T S (cgo P T S q (v + 1) (cngS P T S v b)) := by
        intro eb
        rw [eb] at hb' ⊢
        rw [sh_let]
        exact ih (v + 1) u (some (P v + T (v - S), v)) _ (by omega) (by omega) (by omega) x.pI (pI_at _ _ _ _ _) hb'
      cases b with
      | none =>
        rw [if_pos (show nI (P v + T (v - S)) < cI 1048576 none from nI_lt (b := 1048576) (by omega) (by omega))]
        exact new (by unfold cngS; rw [if_pos c])
      | some b =>
        obtain ⟨y, g⟩ := b
        have y8 : y ≤ 8000 := hb.1
        by_cases l : P v + T (v - S) < y
        · rw [if_pos (show nI (P v + T (v - S)) < cI 1048576 (some (y, g)) from nI_lt l (by omega))]
          exact new (by unfold cngS; rw [if_pos c]; exact if_pos l)
        · have eb : cngS P T S v (some (y, g)) = some (y, g) := by unfold cngS; rw [if_pos c]; exact if_neg l
          rw [if_neg (show ¬ nI (P v + T (v - S)) < cI 1048576 (some (y, g)) from nI_nlt (by omega) (by omega)), eb]
          exact ih (v + 1) u (some (y, g)) H (by omega) (by omega) (by omega) x h3 hb
    · have eb : cngS P T S v b = b := by unfold cngS; rw [if_neg c]
      have big : 1048576 ≤ A v + B (v - S) ∧ A v + B (v - S) ≤ 2097152 := by
        rcases fA v (by omega) with y | y <;> rcases fB (v - S) (by omega) with z | z <;> omega
      have no : ¬ nI (A v + B (v - S)) < cI 1048576 b := by
        cases b with
        | none => exact nI_nlt (b := 1048576) (by omega) (by omega)
        | some b => exact nI_nlt (by have := hb.1; omega) (by omega)
      rw [if_neg no, eb]
      exact ih (v + 1) u b H (by omega) (by omega) (by omega) x h3 hb
theorem M_least3 {S : Nat} (s2 : S ≤ 2000) {A B P T : Nat → Nat} (fA : fII A P) (fB : fII B T) (E0 : sh_H) (m0 : MR E0 (28007 * 0) 4000 P) (m1 : MR E0 (28007 * 1) (4000 - S) T) (hP : ∀ v, P v ≤ 1000000) (hT : ∀ v, T v ≤ 1000000) (K : Int32 → Int32 → Int32 → Int32 → sh_H → Option (Int32 × sh_H)) (a4 : Int32) : ∀ (q v u : Nat) (b : Option (Nat × Nat)), v + q = 4001 → q < u → S ≤ v → cok P T S b → f_M_change_l130 NF K u (nI S) a4 (cI 1000000 b) (cG 0 b) (nI v) E0 = K (nI S) a4 (cI 1000000 (cgo P T S q v b)) (cG 0 (cgo P T S q v b)) E0 := by
  intro q
  induction q with
  | zero =>
    intro v u b e1 e2 e3 hb
    obtain ⟨u, rfl⟩ : ∃ m, u = m + 1 := ⟨u - 1, by omega⟩
    show f_M_change_c130 NF K (f_M_change_l130 NF K u) (nI S) a4 (cI 1000000 b) (cG 0 b) (nI v) E0 = _
    unfold f_M_change_c130
    rw [if_pos (show (4000 : Int32) < nI v from nI_lt (a := 4000) (by omega) (by omega))]
    rfl
  | succ q ih =>
    intro v u b e1 e2 e3 hb
    obtain ⟨u, rfl⟩ : ∃ m, u = m + 1 := ⟨u - 1, by omega⟩
    show f_M_change_c130 NF K (f_M_change_l130 NF K u) (nI S) a4 (cI 1000000 b) (cG 0 b) (nI v) E0 = K (nI S) a4 (cI 1000000 (cgo P T S q (v + 1) (cngS P T S v b))) (cG 0 (cgo P T S q (v + 1) (cngS P T S v b))) E0
    unfold f_M_change_c130 f_M_change_b175
    have hb' := cok_st (b := b) e3 (show v ≤ 4000 by omega) (fun z => by rcases fA v (by omega) with y | y <;> omega) (fun z => by rcases fB (v - S) (by omega) with y | y <;> omega) hb
    have p1 := hP v
    have t1 := hT (v - S)
    have i := ih (v + 1) u (cngS P T S v b) (by omega) (by omega) (by omega) hb'
    rw [if_neg (show ¬ (4000 : Int32) < nI v from nI_nlt (a := 4000) (b := v) (by omega) (by omega)), show f_M_fewestOf 0 (nI v) E0 = _ from M_fewestOf (side := 0) (S := 4000) (by omega) (by omega) (by omega) hP m0, Option.bind_some, q_sub e3, show f_M_fewestOf 1 (nI (v - S)) E0 = _ from M_fewestOf (side := 1) (S := 4000 - S) (by omega) (by omega) (by omega) hT m1, Option.bind_some, nI_add, nI_1]
    by_cases c : P v < 1000000 ∧ T (v - S) < 1000000
    · have eA : P v ≤ 4000 := by rcases fA v (by omega) with y | y <;> omega
      have eB : T (v - S) ≤ 4000 := by rcases fB (v - S) (by omega) with y | y <;> omega
      cases b with
      | none =>
        rw [show cngS P T S v none = some (P v + T (v - S), v) by unfold cngS; rw [if_pos c]] at i ⊢
        rw [if_pos (show nI (P v + T (v - S)) < cI 1000000 none from nI_lt (b := 1000000) (by omega) (by omega))]
        exact i
      | some b =>
        obtain ⟨y, g⟩ := b
        have y8 : y ≤ 8000 := hb.1
        by_cases l : P v + T (v - S) < y
        · rw [show cngS P T S v (some (y, g)) = some (P v + T (v - S), v) by unfold cngS; rw [if_pos c]; exact if_pos l] at i ⊢
          rw [if_pos (show nI (P v + T (v - S)) < cI 1000000 (some (y, g)) from nI_lt l (by omega))]
          exact i
        · rw [show cngS P T S v (some (y, g)) = some (y, g) by unfold cngS; rw [if_pos c]; exact if_neg l] at i ⊢
          rw [if_neg (show ¬ nI (P v + T (v - S)) < cI 1000000 (some (y, g)) from nI_nlt (by omega) (by omega))]
          exact i
    · have no : ¬ nI (P v + T (v - S)) < cI 1000000 b := by
        cases b with
        | none => exact nI_nlt (b := 1000000) (by omega) (by omega)
        | some b => exact nI_nlt (by have := hb.1; omega) (by omega)
      rw [show cngS P T S v b = b by unfold cngS; rw [if_neg c]] at i ⊢
      rw [if_neg no]
      exact i
theorem M_chTills {c : Nat} {hc hm : sh_H} (h : St c hc hm) (hc5 : c ≤ 512) {p nk g : Nat} (hp : p < 5) (k1 : nk ≤ 6) (hg : g ≤ 9) (a2 a4 : Int32) : ∃ E, f_M_change_b60 NF (nI p) a2 (nI g) a4 hm = f_M_change_b101 NF a2 a4 E ∧ sM E hm ∧ TM E 0 nk (fun _ => g) ∧ TM E 1 nk (al (mS hm) p) := by
  have lp : ∀ (n k u : Nat) (H : sh_H), k + n = 6 → n < u → sM H hm → (∀ j, j < k → H.1 13 54 j = nI g ∧ H.1 13 54 (6 + j) = nI (al (mS hm) p j)) → ∃ E, f_M_change_l63 NF (f_M_change_b101 NF) u (nI p) a2 (nI g) a4 (nI k) H = f_M_change_b101 NF a2 a4 E ∧ sM E hm ∧ TM E 0 nk (fun _ => g) ∧ TM E 1 nk (al (mS hm) p) := by
    intro n
    induction n with
    | zero =>
      intro k u H e1 e2 x dn
      obtain ⟨u, rfl⟩ : ∃ m, u = m + 1 := ⟨u - 1, by omega⟩
      obtain rfl : k = 6 := by omega
      refine ⟨H, ?_, x, fun j hj => ⟨?_, by show g < _; omega⟩, fun j hj => ⟨?_, ?_⟩⟩
      · show f_M_change_c63 NF (f_M_change_b101 NF) (f_M_change_l63 NF (f_M_change_b101 NF) u) (nI p) a2 (nI g) a4 (nI 6) H = _
        unfold f_M_change_c63
        rw [if_neg (show ¬ nI 6 < 6 by decide)]
      · rw [show 6 * 0 + j = j by omega]; exact (dn j (by omega)).1
      · rw [show 6 * 1 + j = 6 + j by omega]; exact (dn j (by omega)).2
      · have := (al_of (St_S h) hc5 hp (k := j) (by omega)).1; omega
    | succ n ih =>
      intro k u H e1 e2 x dn
      obtain ⟨u, rfl⟩ : ∃ m, u = m + 1 := ⟨u - 1, by omega⟩
      show ∃ E, f_M_change_c63 NF (f_M_change_b101 NF) (f_M_change_l63 NF (f_M_change_b101 NF) u) (nI p) a2 (nI g) a4 (nI k) H = _ ∧ _
      unfold f_M_change_c63
      have x2 : sM (sh_pI H 13 54 k (nI g)) hm := x.pI (by unfold scM; omega)
      have e6 : (6 : Int32) + nI k = nI (6 + k) := by rw [show (6 : Int32) = nI 6 from rfl, nI_add]
      rw [if_pos (show nI k < 6 from nI_lt (b := 6) (by omega) (by omega)), if_pos (q_in (k := k) (n := 12) (by omega) (by omega)), sh_let, q_cl (by omega), M_all' (St_S h) hc5 x2 hp (by omega), Option.bind_some, e6, if_pos (q_in (k := 6 + k) (n := 12) (by omega) (by omega)), sh_let, nI_1, q_cl (by omega)]
      refine ih (k + 1) u _ (by omega) (by omega) (x2.pI (by unfold scM; omega)) (fun j hj => ?_)
      by_cases z : j = k
      · rw [z, pI_ne (by omega), pI_at, pI_at]; exact ⟨rfl, rfl⟩
      · rw [pI_ne (by omega), pI_ne (by omega), pI_ne (by omega), pI_ne (by omega)]; exact dn j (by omega)
  unfold f_M_change_b60
  exact lp 6 0 NF hm (by omega) (NF_gt (by omega)) (sM.rf hm) (fun j hj => absurd hj (Nat.not_lt_zero _))
theorem cgo_ok {A B P T : Nat → Nat} {S : Nat} (fA : fII A P) (fB : fII B T) : ∀ (q v : Nat) (b : Option (Nat × Nat)), v + q ≤ 4001 → S ≤ v → cok P T S b → cok P T S (cgo P T S q v b) := by
  intro q
  induction q with
  | zero => intro v b _ _ h; exact h
  | succ q ih => intro v b e1 e2 h; exact ih (v + 1) _ (by omega) (by omega) (cok_st e2 (by omega) (fun z => by rcases fA v (by omega) with y | y <;> omega) (fun z => by rcases fB (v - S) (by omega) with y | y <;> omega) h)
theorem gf_fII {w b : Nat → Nat} {nk : Nat} (hw : ∀ k, k < nk → 1 ≤ w k) : fII (gf w b 1048576 nk 0) (gf w b 1000000 nk 0) := fun v hv => by
  rcases gf_II (w := w) (b := b) (I := 1048576) (J := 1000000) (S := 4000) (nk := nk) (lo := 0) (by omega) (by omega) hw hv with a | a <;> omega
theorem change_core {c : Nat} {hc hm : sh_H} (h : St c hc hm) (hc5 : c ≤ 512) {nk p S g : Nat} (k2 : mS hm 0 = nI nk) (k1 : nk ≤ 6) (hp : p < 5) (s2 : S ≤ 2000) (hg : g ≤ 9) (a4 : Int32) (ha : (a4 = 0) ∨ (¬ a4 = 0 ∧ ¬ (q_kind (a4 - 10) (nI nk) = 0 ∧ q_kind (a4 - 20) (nI nk) = 0))) : ∃ r, oC (f_CB_change_b73 NF (nI p) (nI S) (nI g) a4 (q_kind (a4 - 10) (nI nk)) (q_kind (a4 - 20) (nI nk)) hc) r hc ∧ oM (f_M_change_b60 NF (nI p) (nI S) (nI g) a4 hm) r hm := by
  have hw : ∀ k, k < nk → 1 ≤ wth (mS hm) k ∧ wth (mS hm) k ≤ 500 := fun k hk => (T_kind h k2 k1 hk).1.2
  have hw1 : ∀ k, k < nk → 1 ≤ wth (mS hm) k := fun k hk => (hw k hk).1
  have hb : ∀ k, k < nk → al (mS hm) p k < 2 ^ 30 := fun k hk => by have := (al_of (St_S h) hc5 hp (k := k) (by omega)).1; omega
  have hb2 : ∀ k, k < nk → (fun _ : Nat => g) k < 2 ^ 30 := fun k hk => by show g < _; omega
  have fA := gf_fII (b := fun _ => g) hw1
  have fB := gf_fII (b := al (mS hm) p) hw1
  have P1 := fun v => gf_I (b := fun _ => g) (I := 1000000) (lo := 0) hw1 v
  have T1 := fun v => gf_I (b := al (mS hm) p) (I := 1000000) (lo := 0) hw1 v
  obtain ⟨E, E1, E2, E3⟩ := C_look h hc5 k2 k1 (p := p) (g := g) hp
  have hCE : RC E := (St_sC E2 h).1
  obtain ⟨F, F1, F2, F3⟩ := C_fill (l := 34) (col := 2) (lo := 0) (S := 4000) (Or.inl rfl) k1 (by omega) (Nat.zero_le _) (Or.inr rfl) hw (by rw [bcol2]; exact hb2) E hCE E3
  have hCF : RC F := RC_of hCE (fun r j hr hj => F2.1 6 r j (by omega))
  obtain ⟨D, D1, D2, D3⟩ := C_fill (l := 35) (col := 1) (lo := 0) (S := 4000 - S) (Or.inr rfl) k1 (by omega) (Nat.zero_le _) (Or.inl rfl) hw (by rw [bcol1]; exact hb) F hCF (rC_TL (Or.inl rfl) F2 E3)
  have hCD : RC D := RC_of hCF (fun r j hr hj => D2.1 6 r j (by omega))
  have tD := rC_TL (Or.inr rfl) D2 (rC_TL (Or.inl rfl) F2 E3)
  rw [clF_md (fun k _ h2 => (hw k (by omega)).1), bcol2] at F3
  rw [clF_md (fun k _ h2 => (hw k (by omega)).1), bcol1] at D3
  have a34 : AR D 34 4000 (gf (wth (mS hm)) (fun _ => g) 1048576 nk 0) := fun j hj => (D2.1 13 34 j (by omega)).trans (F3 j hj)
  have a35 : AR D 35 (4000 - S) (gf (wth (mS hm)) (al (mS hm) p) 1048576 nk 0) := D3
  obtain ⟨L, l1, l2, l3, l4⟩ := C_least s2 fA fB D a34 a35 (4001 - S) S NF none (sh_pI D 1 0 3 1048576) (by omega) (NF_gt (by omega)) (Nat.le_refl _) (r3.pI ⟨fun _ _ _ _ => rfl, rfl⟩) (pI_at _ _ _ _ _) trivial
  have hCL : RC L := RC_of hCD (fun r j hr hj => l2.1 6 r j (by omega))
  have tL : TL L nk (wth (mS hm)) (al (mS hm) p) (fun _ => g) := ⟨(l2.1 6 28 3 (by omega)).trans tD.1, fun k hk => ⟨(l2.1 13 36 _ (by omega)).trans (tD.2 k hk).1, (l2.1 13 36 _ (by omega)).trans (tD.2 k hk).2.1, (l2.1 13 36 _ (by omega)).trans (tD.2 k hk).2.2⟩⟩
  have sL : sC L hc := l2.s.tr ((D2.s (by omega)).tr ((F2.s (by omega)).tr E2))
  have eL : f_Coins_leastGiven NF (nI S) E = some (cG (-2) (cgo (gf (wth (mS hm)) (fun _ => g) 1000000 nk 0) (gf (wth (mS hm)) (al (mS hm) p) 1000000 nk 0) S (4001 - S) S none), L) := by
    unfold f_Coins_leastGiven
    rw [show f_Coins_fill NF 34 2 0 4000 E = some F from F1, Option.bind_some, show (4000 : Int32) - nI S = nI (4000 - S) from q_sub (a := 4000) (by omega), show f_Coins_fill NF 35 1 0 (nI (4000 - S)) F = some D from D1, Option.bind_some, sh_let, Math_max0 (by omega), Option.bind_some]
    exact l1
  obtain ⟨G, G1, G2, G3, G4⟩ := M_chTills h hc5 (nk := nk) hp k1 hg (nI S) a4
  obtain ⟨X, X1, X2, X3⟩ := M_layFewest h (side := 0) (most := 4000) k2 k1 (by omega) (by omega) G G2 G3
  have xX : sM X hm := X2.s.tr G2
  obtain ⟨Y, Y1, Y2, Y3⟩ := M_layFewest h (side := 1) (most := 4000 - S) k2 k1 (by omega) (by omega) X xX (X2.TM G4)
  have xY : sM Y hm := Y2.s.tr xX
  have yX3 : ∀ lo, lo ≤ 6 → MR Y (28007 * 0 + 4001 * lo) 4000 (gf (wth (mS hm)) (fun _ => g) 1000000 nk lo) := fun lo hlo => Y2.MR (by omega) (X3 lo hlo)
  have tY0 := Y2.TM (X2.TM G3)
  have tY1 := Y2.TM (X2.TM G4)
  have m0 : MR Y (28007 * 0) 4000 (gf (wth (mS hm)) (fun _ => g) 1000000 nk 0) := yX3 0 (by omega)
  have m1 : MR Y (28007 * 1) (4000 - S) (gf (wth (mS hm)) (al (mS hm) p) 1000000 nk 0) := Y3 0 (by omega)
  have eM : f_M_change_b60 NF (nI p) (nI S) (nI g) a4 hm = f_M_change_b181 NF (nI S) a4 (cI 1000000 (cgo (gf (wth (mS hm)) (fun _ => g) 1000000 nk 0) (gf (wth (mS hm)) (al (mS hm) p) 1000000 nk 0) S (4001 - S) S none)) (cG 0 (cgo (gf (wth (mS hm)) (fun _ => g) 1000000 nk 0) (gf (wth (mS hm)) (al (mS hm) p) 1000000 nk 0) S (4001 - S) S none)) Y := by
    rw [G1]
    unfold f_M_change_b101
    rw [show f_M_layFewest NF 0 4000 G = some X from X1, Option.bind_some, show (4000 : Int32) - nI S = nI (4000 - S) from q_sub (a := 4000) (by omega), show f_M_layFewest NF 1 (nI (4000 - S)) X = some Y from Y1, Option.bind_some]
    exact M_least3 s2 fA fB Y m0 m1 P1 T1 (f_M_change_b181 NF) a4 (4001 - S) S NF none (by omega) (NF_gt (by omega)) (Nat.le_refl _) trivial
  have ok := cgo_ok fA fB (4001 - S) S none (by omega) (Nat.le_refl _) (trivial : cok (gf (wth (mS hm)) (fun _ => g) 1000000 nk 0) (gf (wth (mS hm)) (al (mS hm) p) 1000000 nk 0) S none)
  rw [eM]
  unfold f_CB_change_b73 f_M_change_b181
  rw [show f_Coins_look NF hc.2.2.1 0 (nI p) (nI g) hc = some E from E1, Option.bind_some, eL, sh_b2_some]
  generalize cgo (gf (wth (mS hm)) (fun _ => g) 1000000 nk 0) (gf (wth (mS hm)) (al (mS hm) p) 1000000 nk 0) S (4001 - S) S none = r at *
  cases r with
  | none =>
    rw [if_pos (show cG (-2) none = -2 from rfl), if_neg (show ¬ cI 1000000 none < 1000000 by decide)]
    exact ⟨-2, ⟨L, rfl, sL⟩, ⟨Y, rfl, xY⟩⟩
  | some r =>
    obtain ⟨y, v⟩ := r
    have y8 : y ≤ 8000 := ok.1
    have v1 : S ≤ v := ok.2.1
    have v4 : v ≤ 4000 := ok.2.2.1
    have vP : gf (wth (mS hm)) (fun _ => g) 1000000 nk 0 v < 1000000 := ok.2.2.2.1
    have vT : gf (wth (mS hm)) (al (mS hm) p) 1000000 nk 0 (v - S) < 1000000 := ok.2.2.2.2
    rw [if_neg (show ¬ cG (-2) (some (y, v)) = -2 from ne_m2 (by omega)), if_pos (show cI 1000000 (some (y, v)) < 1000000 from nI_lt (b := 1000000) (by omega) (by omega))]
    have till : ∀ k, k < nk → ∃ r, oC (f_Coins_ofTill NF (nI v - nI S) (nI k) L) r hc ∧ f_M_paidOf NF 1 (nI v - nI S) (nI k) Y = some r := by
      intro k hk
      have pf : gf (wth (mS hm)) (al (mS hm) p) 1048576 nk 0 (v - S) < 1048576 := by rcases fB (v - S) (by omega) with a | a <;> omega
      obtain ⟨Z, Z1, Z2⟩ := C_ofKind (l := 35) (col := 1) (sum := v - S) (kind := k) (Or.inr rfl) k1 hk (by omega) (Or.inl rfl) hw (by rw [bcol1]; exact hb) L hCL tL
      rw [bcol1, pof_II (I := 1048576) (J := 1000000) (S := 4000) (by omega) (by omega) hw1 (k + 1) 0 (v - S) 0 (by omega) (by omega) pf] at Z1
      rw [q_sub v1]
      refine ⟨nI (pof (wth (mS hm)) (al (mS hm) p) 1000000 nk (k + 1) 0 (v - S) 0), ⟨Z, ?_, (Z2.s (by omega)).tr sL⟩, M_paidOf h (side := 1) (sum := v - S) (kind := k) (S := 4000 - S) k2 k1 (by omega) (by omega) (by omega) hk Y xY tY1 Y3⟩
      unfold f_Coins_ofTill
      rw [show f_Coins_ofKind NF 35 1 (nI (v - S)) (nI k) L = _ from Z1]
      rfl
    have purse : ∀ k, k < nk → ∃ r, oC (f_Coins_ofPurse NF (nI v) (nI k) L) r hc ∧ f_M_paidOf NF 0 (nI v) (nI k) Y = some r := by
      intro k hk
      have pf : gf (wth (mS hm)) (fun _ => g) 1048576 nk 0 v < 1048576 := by rcases fA v (by omega) with a | a <;> omega
      obtain ⟨Z, Z1, Z2⟩ := C_ofKind (l := 34) (col := 2) (sum := v) (kind := k) (Or.inl rfl) k1 hk (by omega) (Or.inr rfl) hw (by rw [bcol2]; exact hb2) L hCL tL
      rw [bcol2, pof_II (I := 1048576) (J := 1000000) (S := 4000) (by omega) (by omega) hw1 (k + 1) 0 v 0 (by omega) (by omega) pf] at Z1
      refine ⟨nI (pof (wth (mS hm)) (fun _ => g) 1000000 nk (k + 1) 0 v 0), ⟨Z, ?_, (Z2.s (by omega)).tr sL⟩, M_paidOf h (side := 0) (sum := v) (kind := k) (S := 4000) k2 k1 (by omega) (by omega) (by omega) hk Y xY tY0 yX3⟩
      unfold f_Coins_ofPurse
      rw [show f_Coins_ofKind NF 34 2 (nI v) (nI k) L = _ from Z1]
      rfl
    have e0 : mS Y 0 = nI nk := (xY.mS 0).trans k2
    show ∃ r, oC (if q_kind (a4 - 10) (nI nk) = 0 then (if q_kind (a4 - 20) (nI nk) = 0 then Option.bind (f_Coins_bothWays L) (fun v4 => some (v4, L)) else sh_b2 (f_Coins_ofTill NF (nI v - nI S) (a4 - 20) L) (fun v5 h6 => some (v5, h6))) else sh_b2 (f_Coins_ofPurse NF (nI v) (a4 - 10) L) (fun v7 h8 => some (v7, h8))) r hc ∧ oM (if a4 = 0 then some (nI y, Y) else Option.bind (f_M_isKind (a4 - 10) Y) (fun v6 => if v6 = 0 then Option.bind (f_M_paidOf NF 1 (nI v - nI S) (a4 - 20) Y) (fun v7 => some (v7, Y)) else Option.bind (f_M_paidOf NF 0 (nI v) (a4 - 10) Y) (fun v8 => some (v8, Y)))) r hm
    rw [M_isKind, e0, Option.bind_some]
    rcases ha with ha | ⟨ha, hn⟩
    · rw [if_pos ha, ha, if_pos (show q_kind (0 - 10) (nI nk) = 0 from if_pos (by decide)), if_pos (show q_kind (0 - 20) (nI nk) = 0 from if_pos (by decide))]
      unfold f_Coins_bothWays
      rw [Option.bind_some, l3]
      exact ⟨_, ⟨L, rfl, sL⟩, ⟨Y, rfl, xY⟩⟩
    · rw [if_neg ha]
      by_cases c1 : q_kind (a4 - 10) (nI nk) = 0
      · have c2 : ¬ q_kind (a4 - 20) (nI nk) = 0 := fun z => hn ⟨c1, z⟩
        obtain ⟨k, kk, ek⟩ := q_kind_in (by omega) c2
        rw [if_pos c1, if_neg c2, if_pos c1, ek]
        obtain ⟨r, ⟨Z, r1, r2⟩, r3⟩ := till k kk
        rw [r1, r3]
        exact ⟨r, ⟨Z, rfl, r2⟩, ⟨Y, rfl, xY⟩⟩
      · obtain ⟨k, kk, ek⟩ := q_kind_in (by omega) c1
        rw [if_neg c1, if_neg c1, ek]
        obtain ⟨r, ⟨Z, r1, r2⟩, r3⟩ := purse k kk
        rw [r1, r3]
        exact ⟨r, ⟨Z, rfl, r2⟩, ⟨Y, rfl, xY⟩⟩
theorem P_change (a1 a2 a3 a4 : Int32) : Pair (f_CB_change NF a1 a2 a3 a4) (f_M_change NF a1 a2 a3 a4) := Pair.o (by
  intro c hc hm hc5 h
  obtain ⟨n, h1, h2, h3, -⟩ := St_n h 1 (by omega)
  obtain ⟨nk, k1, k2, k3, -⟩ := St_n h 0 (by omega)
  have hn : n ≤ 4 := h1
  have hk : nk ≤ 6 := k1
  unfold f_CB_change f_M_change f_CB_isSum
  rw [Text_isKind, Text_isKind, Text_isPlace, M_isPlace, CB_within, CB_within, M_isIn, M_isIn, M_isKind, M_isKind, h2, h3, k2, k3]
  simp only [Option.bind_some, q_nar1w]
  refine pickO (fun _ => ⟨-1, oC.v, oM.v⟩) (fun c1 => ?_)
  refine pickO (fun _ => ⟨-1, oC.v, oM.v⟩) (fun c2 => ?_)
  refine pickO (fun _ => ⟨-1, oC.v, oM.v⟩) (fun c3 => ?_)
  obtain ⟨p, hp, rfl⟩ := q_plc_in (by omega) c1
  obtain ⟨S, s1, s2, rfl⟩ := q_within_in (a := 1) (b := 2000) (by omega) (by omega) c2
  obtain ⟨g, g1, g2, rfl⟩ := q_within_in (a := 0) (b := 9) (by omega) (by omega) c3
  refine pickO (fun z => change_core h (by omega) k3 hk (by omega) s2 g2 a4 (Or.inl z)) (fun c4 => ?_)
  refine pickO (fun z => pickO (fun _ => ⟨-1, oC.v, oM.v⟩) (fun z2 => ?_)) (fun z => ?_)
  · exact change_core h (by omega) k3 hk (by omega) s2 g2 a4 (Or.inr ⟨c4, fun q => z2 q.2⟩)
  · exact change_core h (by omega) k3 hk (by omega) s2 g2 a4 (Or.inr ⟨c4, fun q => z q.1⟩))
