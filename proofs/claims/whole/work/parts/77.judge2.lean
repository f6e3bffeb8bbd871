/-! PAIRS: judge, why: the class -/
theorem ref_0 {f : Nat → Int32} {L : Nat → Nat} {T i m : Nat} (X : Nat → Int32) (Y : Nat → Prop) [∀ b, Decidable (Y b)] : (match bt f (nI (sP f i)) (nI m) with | none => (1 : Int32) | some b => if (0 : Int32) = 0 then nI (rfT f L T i b) else if Y b then X b else nI (rfT f L T i b)) = nI (rsn f L T i m) := by
  unfold rsn
  cases bt f (nI (sP f i)) (nI m) with
  | none => rfl
  | some b => exact if_pos rfl
theorem CJ_pI {B : Nat} {hm hc H : sh_H} {m : Nat} {L T : Nat → Nat} {v : Int32} (cj : CJ B hm hc H m L T) : CJ B hm hc (sh_pI H 0 0 2 v) m L T := by
  obtain ⟨x, lr, G, g1, g2, g3⟩ := cj
  exact ⟨x.pI (by unfold scC; omega), ⟨(pI_ne (by omega)).trans lr.1, fun b hb => (pI_ne (by omega)).trans (lr.2 b hb)⟩, G, ⟨(pI_ne (by omega)).trans g1.1, fun j hj => (pI_ne (by omega)).trans (g1.2 j hj)⟩, g2, g3⟩
theorem tt_le {G : Nat → Nat} {p k : Nat} (hp : p < 5) (hk : k < 6) : tt G p k ≤ 4 * sumN G 120 := by
  have a := sumN_le (g := G) (q := (6 * p + k) * 4 + 0) (n := 120) (by omega)
  have b := sumN_le (g := G) (q := (6 * p + k) * 4 + 1) (n := 120) (by omega)
  have c := sumN_le (g := G) (q := (6 * p + k) * 4 + 2) (n := 120) (by omega)
  have d := sumN_le (g := G) (q := (6 * p + k) * 4 + 3) (n := 120) (by omega)
  unfold tt
  omega
theorem crL_le {c : Nat} {hc hm : sh_H} (h : St c hc hm) {i m : Nat} {L : Nat → Nat} {T : Nat} (r : rsn (mS hm) L T i m = 0) (hL : ∀ p, p < 5 → L p ≤ 999) : ∀ p, p < 5 → crL (mS hm) L i p ≤ 999 := by
  intro p hp
  obtain ⟨b, e, b1, -⟩ := rsn_0 r
  obtain ⟨-, -, -, ⟨-, -, b5⟩, -⟩ := T_boat h e
  unfold crL up0
  split
  · omega
  · exact hL p hp
theorem C_jin {c : Nat} {hc hm : sh_H} (h : St c hc hm) {n B t : Nat} (hB : B < 2 ^ 28) (ht : t < 240) (hn : mS hm 7 = nI n) (n4 : n ≤ 40) (K : Nat → Nat → Int32 → sh_H → Option (Int32 × sh_H)) : ∀ (q i u : Nat) (L T : Nat → Nat) (H : sh_H), i + q = n → q < u → CJ B hm hc H (t % 12) L T → (∀ p, p < 5 → L p ≤ 999) → (∀ x, jin (mS hm) t q i L T = Sum.inl x → ∃ E, f_Calendar_firstUndone_l37 NF K u hc.2.2.1 0 (nI t) (nI i) H = some (nI x.1, E) ∧ sC E hc ∧ E.1 0 0 2 = nI x.2) ∧ (∀ s, jin (mS hm) t q i L T = Sum.inr s → ∃ E, f_Calendar_firstUndone_l37 NF K u hc.2.2.1 0 (nI t) (nI i) H = K hc.2.2.1 0 (nI t) E ∧ CJ B hm hc E (t % 12) s.1 s.2) := by
  intro q
  induction q with
  | zero =>
    intro i u L T H e1 e2 cj hL
    obtain ⟨u, rfl⟩ : ∃ m, u = m + 1 := ⟨u - 1, by omega⟩
    obtain ⟨n', m1, m2, m3, -⟩ := St_sd (St_sC cj.1 h)
    obtain rfl : n' = n := (nI_eq (by omega) (by omega)).mp (m2.symm.trans hn)
    refine ⟨fun x e => (by cases e), fun s e => ⟨H, ?_, ?_⟩⟩
    · show f_Calendar_firstUndone_c37 NF K (f_Calendar_firstUndone_l37 NF K u) hc.2.2.1 0 (nI t) (nI i) H = _
      unfold f_Calendar_firstUndone_c37 f_Rows_size
      rw [show (4 * 0 + 15 : Nat) = 15 from rfl, m3, Option.bind_some, if_neg (nI_nlt (by omega) (by omega))]
    · have : (L, T) = s := Sum.inr.inj e
      rw [← this]
      exact cj
  | succ q ih =>
    intro i u L T H e1 e2 cj hL
    obtain ⟨u, rfl⟩ : ∃ m, u = m + 1 := ⟨u - 1, by omega⟩
    have hH := St_sC cj.1 h
    have tx : H.2.2.1 = hc.2.2.1 := cj.1.tx
    obtain ⟨n', m1, m2, m3, m4⟩ := St_sd hH
    obtain rfl : n' = n := (nI_eq (by omega) (by omega)).mp (m2.symm.trans hn)
    obtain ⟨sd, -, -, g2, -⟩ := m4 i (by omega)
    have t1 := sd.t1
    have cut : ∀ R : Option (Int32 × sh_H), R = (if nI (sT (mS hm) i) = nI t then Option.bind (f_Calendar_refusal NF hc.2.2.1 15 (nI i) 3 0 0 H) (fun v3 => sh_let (sh_pI H 0 0 2 v3) (fun h4 => if (h4.1 0 0 2) = 0 then Option.bind (f_Calendar_carry NF hc.2.2.1 15 (nI i) 3 h4) (fun h5 => f_Calendar_firstUndone_l37 NF K u hc.2.2.1 0 (nI t) (nI (i + 1)) h5) else some (nI i, h4))) else f_Calendar_firstUndone_l37 NF K u hc.2.2.1 0 (nI t) (nI (i + 1)) H) → f_Calendar_firstUndone_l37 NF K (u + 1) hc.2.2.1 0 (nI t) (nI i) H = R := by
      intro R eR
      rw [eR]
      show f_Calendar_firstUndone_c37 NF K (f_Calendar_firstUndone_l37 NF K u) hc.2.2.1 0 (nI t) (nI i) H = _
      unfold f_Calendar_firstUndone_c37 f_Rows_size f_Calendar_firstUndone_b109
      rw [show (4 * 0 + 15 : Nat) = 15 from rfl, m3, Option.bind_some, if_pos (nI_lt (by omega) (by omega)), g2, Option.bind_some, sd.t, nI_1]
    rw [cut _ rfl]
    by_cases et : sT (mS hm) i = t
    · rw [if_pos (by rw [et])]
      obtain ⟨x, lr, G, gs1, gs2, gs3⟩ := cj
      obtain ⟨nk, k1, k2, k3⟩ := sd.k1
      obtain ⟨s1, s2, s3⟩ := stt_4 sd
      have hT := S_all hH.1 gs1 (p := stt (mS hm) i) (k := sK (mS hm) i) s1 (by omega)
      have tl := tt_le (G := G) (p := stt (mS hm) i) (k := sK (mS hm) i) s1 (by omega)
      rw [gs3 _ _ s1 (by omega)] at hT tl
      have ref := C_refusal hH hn n4 (i := i) (by omega) (L := L) (s := 3) (by rw [et]; exact lr) (hL _ (by have := sd.p2; omega)) hT (by omega) 0 0
      rw [tx, et] at ref
      have ref2 := ref.trans (congrArg some (ref_0 (f := mS hm) (L := L) (T := T (6 * stt (mS hm) i + sK (mS hm) i)) (i := i) (m := t % 12) (fun _ => 2) (fun b => ltv 0 (40 * nI t + nI b) 10 < mS hm (254 + 5 * b))))
      rw [ref2, Option.bind_some, sh_let, pI_at]
      have cj4 : CJ B hm hc (sh_pI H 0 0 2 (nI (rsn (mS hm) L (T (6 * stt (mS hm) i + sK (mS hm) i)) i (t % 12)))) (t % 12) L T := CJ_pI ⟨x, lr, G, gs1, gs2, gs3⟩
      have r4 := rsn_le (f := mS hm) (L := L) (T := T (6 * stt (mS hm) i + sK (mS hm) i)) (i := i) (m := t % 12)
      by_cases er : rsn (mS hm) L (T (6 * stt (mS hm) i + sK (mS hm) i)) i (t % 12) = 0
      · rw [if_pos (by rw [er]; rfl)]
        rw [← et] at cj4 er
        obtain ⟨E, E1, E2⟩ := C_carryS h (by omega) hn n4 (by omega) cj4 (hL _ (by have := sd.p2; omega)) er
        rw [et] at E1 E2 er
        rw [E1, Option.bind_some, jin_y et er]
        exact ih (i + 1) u _ _ E (by omega) (by omega) E2 (crL_le h er hL)
      · rw [if_neg (nI_ne0 (by omega) (by omega)), jin_f et er]
        refine ⟨fun y e => ?_, fun s e => (by cases e)⟩
        have : (i, rsn (mS hm) L (T (6 * stt (mS hm) i + sK (mS hm) i)) i (t % 12)) = y := Sum.inl.inj e
        rw [← this]
        exact ⟨_, rfl, cj4.1, pI_at _ _ _ _ _⟩
    · rw [if_neg (nI_ne et (by omega) (by omega)), jin_n et]
      exact ih (i + 1) u L T H (by omega) (by omega) cj hL
def jA : Option (Nat × Nat) → Int32
  | none => -2
  | some x => nI x.1
def jR : Option (Nat × Nat) → Int32
  | none => 0
  | some x => nI x.2
theorem jout_l {f : Nat → Int32} {n q t : Nat} {T : Nat → Nat} {x : Nat × Nat} (h : jin f t n 0 (fun _ => 0) T = Sum.inl x) : jout f n (q + 1) t T = some x := by
  show (match jin f t n 0 (fun _ => 0) T with | Sum.inl x => some x | Sum.inr s => jout f n q (t + 1) s.2) = _
  rw [h]
theorem jout_r {f : Nat → Int32} {n q t : Nat} {T : Nat → Nat} {s : (Nat → Nat) × (Nat → Nat)} (h : jin f t n 0 (fun _ => 0) T = Sum.inr s) : jout f n (q + 1) t T = jout f n q (t + 1) s.2 := by
  show (match jin f t n 0 (fun _ => 0) T with | Sum.inl x => some x | Sum.inr s => jout f n q (t + 1) s.2) = _
  rw [h]
theorem C_zero {H hc : sh_H} (hC : RC H) (x : sC H hc) : ∃ E, f_Rows_zero NF 26 H = some E ∧ sC E hc ∧ (∀ c i j, ¬ (c = 13 ∧ i = 32) → ¬ (c = 6 ∧ i = 26) → E.1 c i j = H.1 c i j) ∧ ∀ f m, LR f m (fun _ => 0) E := by
  refine ⟨_, rows_zero hC (by omega), hR_sC (by omega) (by decide) x, fun c i j a b => hR_ne a (fun z => b ⟨z.1, z.2.1⟩), fun f m => ⟨hR_sz _ _ _ _, fun b hb => ?_⟩⟩
  have e : (hR H 26 (sh_m 26) (zrow (fun j => H.1 13 (sh_rc 26) j) 0 (sh_m 26 * sh_w 26))).1 13 32 b = zrow (fun j => H.1 13 (sh_rc 26) j) 0 (sh_m 26 * sh_w 26) b := hR_at H 26 _ _ b
  rw [e]
  have z : zrow (fun j => H.1 13 (sh_rc 26) j) 0 (sh_m 26 * sh_w 26) b = 0 := if_pos ⟨Nat.zero_le _, by show b < 0 + 12 * 1; omega⟩
  rw [z]
  split <;> rfl
theorem C_jout {c : Nat} {hc hm : sh_H} (h : St c hc hm) {n B : Nat} (hB : B < 2 ^ 28) (hn : mS hm 7 = nI n) (n4 : n ≤ 40) : ∀ (q t u m : Nat) (L T : Nat → Nat) (H : sh_H), t + q = 240 → q < u → CJ B hm hc H m L T → ∃ E, f_Calendar_firstUndone_l20 NF (f_Calendar_firstUndone_b121 NF) u hc.2.2.1 0 (nI t) H = some (jA (jout (mS hm) n q t T), E) ∧ sC E hc ∧ E.1 0 0 2 = jR (jout (mS hm) n q t T) := by
  intro q
  induction q with
  | zero =>
    intro t u m L T H e1 e2 cj
    obtain ⟨u, rfl⟩ : ∃ m, u = m + 1 := ⟨u - 1, by omega⟩
    obtain rfl : t = 240 := by omega
    refine ⟨sh_pI H 0 0 2 0, ?_, cj.1.pI (by unfold scC; omega), pI_at _ _ _ _ _⟩
    show f_Calendar_firstUndone_c20 NF (f_Calendar_firstUndone_b121 NF) (f_Calendar_firstUndone_l20 NF (f_Calendar_firstUndone_b121 NF) u) hc.2.2.1 0 (nI 240) H = _
    unfold f_Calendar_firstUndone_c20 f_Calendar_firstUndone_b121
    rw [if_neg (show ¬ nI 240 < 240 by decide), sh_let]
    rfl
  | succ q ih =>
    intro t u m L T H e1 e2 cj
    obtain ⟨u, rfl⟩ : ∃ m, u = m + 1 := ⟨u - 1, by omega⟩
    obtain ⟨E, E1, E2, E3, E4⟩ := C_zero (St_sC cj.1 h).1 cj.1
    obtain ⟨x, lr, G, gs1, gs2, gs3⟩ := cj
    have cjE : CJ B hm hc E (t % 12) (fun _ => 0) T := ⟨E2, E4 _ _, G, ⟨(E3 6 27 3 (by omega) (by omega)).trans gs1.1, fun j hj => (E3 13 33 j (by omega) (by omega)).trans (gs1.2 j hj)⟩, gs2, gs3⟩
    obtain ⟨i1, i2⟩ := C_jin h hB (t := t) (by omega) hn n4 (f_Calendar_firstUndone_b115 NF (f_Calendar_firstUndone_l20 NF (f_Calendar_firstUndone_b121 NF) u)) n 0 NF (fun _ => 0) T E (by omega) (NF_gt (by omega)) cjE (fun _ _ => Nat.zero_le _)
    show ∃ E, f_Calendar_firstUndone_c20 NF (f_Calendar_firstUndone_b121 NF) (f_Calendar_firstUndone_l20 NF (f_Calendar_firstUndone_b121 NF) u) hc.2.2.1 0 (nI t) H = _ ∧ _
    unfold f_Calendar_firstUndone_c20
    rw [if_pos (show nI t < 240 from nI_lt (b := 240) (by omega) (by omega)), E1, Option.bind_some]
    cases ej : jin (mS hm) t n 0 (fun _ => 0) T with
    | inl x =>
      obtain ⟨F, F1, F2, F3⟩ := i1 x ej
      rw [jout_l ej]
      exact ⟨F, F1, F2, F3⟩
    | inr s =>
      obtain ⟨F, F1, F2⟩ := i2 s ej
      rw [jout_r ej, show f_Calendar_firstUndone_l37 NF (f_Calendar_firstUndone_b115 NF (f_Calendar_firstUndone_l20 NF (f_Calendar_firstUndone_b121 NF) u)) NF hc.2.2.1 0 (nI t) 0 E = _ from F1]
      unfold f_Calendar_firstUndone_b115
      rw [nI_1]
      exact ih (t + 1) u _ s.1 s.2 F (by omega) (by omega) F2
/-- what the places have at first -/
def tl0 (f : Nat → Int32) (j : Nat) : Nat := al f (j / 6) (j % 6)
theorem sumN_cg {g g' : Nat → Nat} : ∀ {n : Nat}, (∀ q, q < n → g q = g' q) → sumN g n = sumN g' n := by
  intro n
  induction n with
  | zero => intro _; rfl
  | succ n ih =>
    intro h
    show sumN g n + g n = sumN g' n + g' n
    rw [ih (fun q hq => h q (by omega)), h n (by omega)]
theorem C_firstUndone {c : Nat} {hc hm : sh_H} (h : St c hc hm) (hc5 : c ≤ 512) {n tm : Nat} (hn : mS hm 7 = nI n) (n4 : n ≤ 40) (htm : mS hm 9 = nI tm) (tm2 : tm ≤ 240) : ∃ E, f_Calendar_firstUndone NF hc.2.2.1 0 hc = some (jA (jout (mS hm) n (240 - tm) tm (tl0 (mS hm))), E) ∧ sC E hc ∧ E.1 0 0 2 = jR (jout (mS hm) n (240 - tm) tm (tl0 (mS hm))) := by
  obtain ⟨⟨p1, p2⟩, -, -, -, r5⟩ := rSt_0 h
  obtain ⟨g, g1, g2⟩ := St_g h
  have cp : f_Rows_copy NF 27 14 hc = some (hR hc 27 30 (cpy (fun j => hc.1 13 20 j) (fun j => hc.1 13 33 j) 120)) := rows_copy (r := 27) (r' := 14) (n := 30) h.1 (by omega) (by omega) (by decide) (by decide) (by decide) p1 (by decide)
  have gv : ∀ q, q < 120 → nv (mS hm) (800 + q) = g q := fun q hq => nv_of (g1 q hq) (by have := sumN_le (g := g) (q := q) (n := 120) hq; omega)
  have sm : sumN (fun q => nv (mS hm) (800 + q)) 120 = sumN g 120 := sumN_cg gv
  have x : sC (hR hc 27 30 (cpy (fun j => hc.1 13 20 j) (fun j => hc.1 13 33 j) 120)) hc := hR_sC (by omega) (by decide) (sC.rf hc)
  have t7 : (hR hc 27 30 (cpy (fun j => hc.1 13 20 j) (fun j => hc.1 13 33 j) 120)).1 7 0 4 = nI tm := by
    rw [hR_ne (by omega) (by omega)]
    exact r5.1.trans (by rw [Nat.zero_add]; exact htm)
  unfold f_Calendar_firstUndone f_Pieces_copy
  rw [show sh_pr 3 = 27 from rfl, show sh_pr 0 = 14 from rfl, cp, Option.bind_some, Option.bind_some, t7, Math_max0 (by omega), Option.bind_some]
  obtain ⟨Z, z1, z2, z3, z4⟩ := C_zero (St_sC x h).1 x
  have gsx : GS (hR hc 27 30 (cpy (fun j => hc.1 13 20 j) (fun j => hc.1 13 33 j) 120)) (fun q => nv (mS hm) (800 + q)) := by
    refine ⟨hR_sz _ _ _ _, fun j hj => ?_⟩
    have e : (hR hc 27 30 (cpy (fun j => hc.1 13 20 j) (fun j => hc.1 13 33 j) 120)).1 13 33 j = cpy (fun j => hc.1 13 20 j) (fun j => hc.1 13 33 j) 120 j := hR_at hc 27 _ _ j
    rw [e, show cpy (fun j => hc.1 13 20 j) (fun j => hc.1 13 33 j) 120 j = hc.1 13 20 j from if_pos hj]
    have := p2 j hj
    rw [Nat.zero_add] at this
    exact this.trans (by show _ = nI (nv (mS hm) (800 + j)); rw [gv j hj]; exact g1 j hj)
  have ttx : ∀ p k, p < 5 → k < 6 → tt (fun q => nv (mS hm) (800 + q)) p k = tl0 (mS hm) (6 * p + k) := by
    intro p k hp hk
    unfold tl0
    rw [show (6 * p + k) / 6 = p by omega, show (6 * p + k) % 6 = k by omega]
    rfl
  by_cases e : tm = 240
  · subst e
    refine ⟨sh_pI (hR hc 27 30 (cpy (fun j => hc.1 13 20 j) (fun j => hc.1 13 33 j) 120)) 0 0 2 0, ?_, x.pI (by unfold scC; omega), pI_at _ _ _ _ _⟩
    show f_Calendar_firstUndone_c20 NF (f_Calendar_firstUndone_b121 NF) (f_Calendar_firstUndone_l20 NF (f_Calendar_firstUndone_b121 NF) 999999) hc.2.2.1 0 (nI 240) _ = _
    unfold f_Calendar_firstUndone_c20 f_Calendar_firstUndone_b121
    rw [if_neg (show ¬ nI 240 < 240 by decide), sh_let]
    rfl
  · obtain ⟨q, hq⟩ : ∃ q, 240 - tm = q + 1 := ⟨239 - tm, by omega⟩
    have cjZ : CJ (9999 * c) hm hc Z (tm % 12) (fun _ => 0) (tl0 (mS hm)) := ⟨z2, z4 _ _, _, ⟨(z3 6 27 3 (by omega) (by omega)).trans gsx.1, fun j hj => (z3 13 33 j (by omega) (by omega)).trans (gsx.2 j hj)⟩, by rw [sm]; exact g2, ttx⟩
    rw [hq]
    obtain ⟨i1, i2⟩ := C_jin h (B := 9999 * c) (by omega) (t := tm) (by omega) hn n4 (f_Calendar_firstUndone_b115 NF (f_Calendar_firstUndone_l20 NF (f_Calendar_firstUndone_b121 NF) 999999)) n 0 NF (fun _ => 0) (tl0 (mS hm)) Z (by omega) (NF_gt (by omega)) cjZ (fun _ _ => Nat.zero_le _)
    show ∃ E, f_Calendar_firstUndone_c20 NF (f_Calendar_firstUndone_b121 NF) (f_Calendar_firstUndone_l20 NF (f_Calendar_firstUndone_b121 NF) 999999) hc.2.2.1 0 (nI tm) _ = _ ∧ _
    unfold f_Calendar_firstUndone_c20
    rw [if_pos (show nI tm < 240 from nI_lt (b := 240) (by omega) (by omega)), z1, Option.bind_some]
    cases ej : jin (mS hm) tm n 0 (fun _ => 0) (tl0 (mS hm)) with
    | inl x =>
      obtain ⟨F, F1, F2, F3⟩ := i1 x ej
      rw [jout_l ej]
      exact ⟨F, F1, F2, F3⟩
    | inr s =>
      obtain ⟨F, F1, F2⟩ := i2 s ej
      rw [jout_r ej, show f_Calendar_firstUndone_l37 NF (f_Calendar_firstUndone_b115 NF (f_Calendar_firstUndone_l20 NF (f_Calendar_firstUndone_b121 NF) 999999)) NF hc.2.2.1 0 (nI tm) 0 Z = _ from F1]
      unfold f_Calendar_firstUndone_b115
      rw [nI_1]
      exact C_jout h (by omega) hn n4 q (tm + 1) 999999 _ s.1 s.2 F (by omega) (by omega) F2
