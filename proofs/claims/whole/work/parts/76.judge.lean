/-! PAIRS: judge, why -/
def crL (f : Nat → Int32) (L : Nat → Nat) (i : Nat) : Nat → Nat := up0 L (sP f i) (L (sP f i) + sN f i * wgt f (sK f i))
def crT (f : Nat → Int32) (T : Nat → Nat) (i : Nat) : Nat → Nat := up0 (up0 T (6 * stt f i + sK f i) (T (6 * stt f i + sK f i) - sN f i)) (6 * too f i + sK f i) (T (6 * too f i + sK f i) + sN f i)
def jin (f : Nat → Int32) (t : Nat) : Nat → Nat → (Nat → Nat) → (Nat → Nat) → (Nat × Nat) ⊕ ((Nat → Nat) × (Nat → Nat))
  | 0, _, L, T => Sum.inr (L, T)
  | q + 1, i, L, T => if sT f i = t then (if rsn f L (T (6 * stt f i + sK f i)) i (t % 12) = 0 then jin f t q (i + 1) (crL f L i) (crT f T i) else Sum.inl (i, rsn f L (T (6 * stt f i + sK f i)) i (t % 12))) else jin f t q (i + 1) L T
def jout (f : Nat → Int32) (n : Nat) : Nat → Nat → (Nat → Nat) → Option (Nat × Nat)
  | 0, _, _ => none
  | q + 1, t, T => match jin f t n 0 (fun _ => 0) T with | Sum.inl x => some x | Sum.inr s => jout f n q (t + 1) s.2
theorem jin_n {f : Nat → Int32} {t q i : Nat} {L T : Nat → Nat} (h : ¬ sT f i = t) : jin f t (q + 1) i L T = jin f t q (i + 1) L T := if_neg h
theorem jin_y {f : Nat → Int32} {t q i : Nat} {L T : Nat → Nat} (h : sT f i = t) (r : rsn f L (T (6 * stt f i + sK f i)) i (t % 12) = 0) : jin f t (q + 1) i L T = jin f t q (i + 1) (crL f L i) (crT f T i) := (if_pos h).trans (if_pos r)
theorem jin_f {f : Nat → Int32} {t q i : Nat} {L T : Nat → Nat} (h : sT f i = t) (r : ¬ rsn f L (T (6 * stt f i + sK f i)) i (t % 12) = 0) : jin f t (q + 1) i L T = Sum.inl (i, rsn f L (T (6 * stt f i + sK f i)) i (t % 12)) := (if_pos h).trans (if_neg r)
def TB (B : Nat) (T : Nat → Nat) : Prop := ∀ j, j < 30 → T j ≤ B
def CJ (B : Nat) (hm hc H : sh_H) (m : Nat) (L T : Nat → Nat) : Prop := sC H hc ∧ LR (mS hm) m L H ∧ ∃ G, GS H G ∧ sumN G 120 ≤ B ∧ ∀ p k, p < 5 → k < 6 → tt G p k = T (6 * p + k)
theorem stt_4 {f : Nat → Int32} {i : Nat} (sd : SD f i) : stt f i < 5 ∧ too f i < 5 ∧ stt f i ≠ too f i := by
  have := sd.p1
  have := sd.p2
  unfold stt too
  by_cases z : sB f i = 0
  · rw [if_pos z, if_pos z]; omega
  · rw [if_neg z, if_neg z]; omega
theorem rsn_0 {f : Nat → Int32} {L : Nat → Nat} {T i m : Nat} (h : rsn f L T i m = 0) : ∃ b, bt f (nI (sP f i)) (nI m) = some b ∧ L (sP f i) + sN f i * wgt f (sK f i) ≤ nv f (252 + 5 * b) ∧ sN f i ≤ T := by
  unfold rsn at h
  cases e : bt f (nI (sP f i)) (nI m) with
  | none => rw [e] at h; cases h
  | some b =>
    rw [e] at h
    have h' : rfT f L T i b = 0 := h
    unfold rfT at h'
    refine ⟨b, rfl, ?_, ?_⟩
    · by_cases z : nv f (252 + 5 * b) < L (sP f i) + sN f i * wgt f (sK f i)
      · rw [if_pos z] at h'; cases h'
      · omega
    · by_cases z : nv f (252 + 5 * b) < L (sP f i) + sN f i * wgt f (sK f i)
      · rw [if_pos z] at h'; cases h'
      · rw [if_neg z] at h'
        by_cases y : T < sN f i
        · rw [if_pos y] at h'; cases h'
        · omega
theorem rsn_le {f : Nat → Int32} {L : Nat → Nat} {T i m : Nat} : rsn f L T i m ≤ 4 := by
  unfold rsn rfT
  cases bt f (nI (sP f i)) (nI m) with
  | none => show 1 ≤ 4; omega
  | some b =>
    show (if _ then _ else _) ≤ 4
    split
    · omega
    · split <;> omega
/-- what is loaded; what goes -/
theorem C_carry0 {c : Nat} {hc hm : sh_H} (h : St c hc hm) {n i : Nat} (hn : mS hm 7 = nI n) (n4 : n ≤ 40) (hi : i < n) {L : Nat → Nat} (lr : LR (mS hm) (sT (mS hm) i % 12) L hc) {b : Nat} (e : bt (mS hm) (nI (sP (mS hm) i)) (nI (sT (mS hm) i % 12)) = some b) (hL : L (sP (mS hm) i) ≤ 999) (s : Nat) : ∃ E, E = sh_pI hc 13 32 b (nI (L (sP (mS hm) i) + sN (mS hm) i * wgt (mS hm) (sK (mS hm) i))) ∧ sC E hc ∧ LR (mS hm) (sT (mS hm) i % 12) (crL (mS hm) L i) E ∧ f_Calendar_carry NF hc.2.2.1 15 (nI i) s hc = Option.bind (f_Pieces_move NF s (nI (sK (mS hm) i)) (nI (stt (mS hm) i)) (nI (too (mS hm) i)) (nI (sN (mS hm) i)) (nI (sB (mS hm) i)) E) (fun h2 => some h2) := by
  obtain ⟨n', m1, m2, -, m3⟩ := St_sd h
  obtain rfl : n' = n := (nI_eq (by omega) (by omega)).mp (m2.symm.trans hn)
  obtain ⟨sd, g0, g1, g2, g3, g4⟩ := m3 i hi
  obtain ⟨wt, w1, w2⟩ := C_weight h hn n4 hi
  have t1 := sd.t1
  have p2 := sd.p2
  have bb := sd.b1
  obtain ⟨b1, b2, -⟩ := T_boat h e
  obtain ⟨l1, l2⟩ := LR_put (v := L (sP (mS hm) i) + sN (mS hm) i * wgt (mS hm) (sK (mS hm) i)) h.1 lr e b2 b1 (by omega) (St_pl h)
  have xE : sC (sh_pI hc 13 32 b (nI (L (sP (mS hm) i) + sN (mS hm) i * wgt (mS hm) (sK (mS hm) i)))) hc := (sC.rf hc).pI (by unfold scC; omega)
  refine ⟨_, rfl, xE, l2, ?_⟩
  have hE := St_sC xE h
  obtain ⟨n'', m1', m2', -, m3'⟩ := St_sd hE
  obtain rfl : n'' = n' := (nI_eq (by omega) (by omega)).mp (m2'.symm.trans hn)
  obtain ⟨-, -, k1, -, k3, -⟩ := m3' i hi
  have st := C_start hE hn n4 hi
  have go : ∀ s0 : Int32, s0 = nI (sB (mS hm) i) → f_Calendar_carry_b14 NF hc.2.2.1 15 (nI i) s s0 hc = Option.bind (f_Pieces_move NF s (nI (sK (mS hm) i)) (nI (stt (mS hm) i)) (nI (too (mS hm) i)) (nI (sN (mS hm) i)) (nI (sB (mS hm) i)) (sh_pI hc 13 32 b (nI (L (sP (mS hm) i) + sN (mS hm) i * wgt (mS hm) (sK (mS hm) i))))) (fun h2 => some h2) := by
    intro s0 es
    unfold f_Calendar_carry_b14 f_Calendar_carry_b92
    rw [g0, Option.bind_some, g2, Option.bind_some, if_pos n12, sd.t, sd.p, q_m12 (by omega), C_boatOf h, Option.bind_some, e, show oI2 (some b) (-1) = nI b from rfl, LR_get h.1 lr e b2 b1 (by omega), Option.bind_some, wt, Option.bind_some, nI_add, l1, Option.bind_some, k1, Option.bind_some, st, Option.bind_some, k3, Option.bind_some, sd.n, sd.k, es]
    unfold too
    by_cases z : sB (mS hm) i = 0
    · rw [if_pos z, if_pos (show nI (sB (mS hm) i) = 0 by rw [z]; rfl)]
    · rw [if_neg z, if_neg (nI_ne0 (by omega) (by omega))]
      rfl
  unfold f_Calendar_carry
  rw [g4, Option.bind_some, sd.b]
  by_cases z : sB (mS hm) i = 0
  · rw [if_pos (show nI (sB (mS hm) i) = 0 by rw [z]; rfl)]
    exact go 0 (by rw [z]; rfl)
  · rw [if_neg (nI_ne0 (by omega) (by omega))]
    exact go 1 (by rw [show sB (mS hm) i = 1 by omega]; rfl)
theorem C_carryS {c : Nat} {hc hm H : sh_H} (h : St c hc hm) {n i B : Nat} (hB : B < 2 ^ 29) (hn : mS hm 7 = nI n) (n4 : n ≤ 40) (hi : i < n) {L T : Nat → Nat} (cj : CJ B hm hc H (sT (mS hm) i % 12) L T) (hL : L (sP (mS hm) i) ≤ 999) (r : rsn (mS hm) L (T (6 * stt (mS hm) i + sK (mS hm) i)) i (sT (mS hm) i % 12) = 0) : ∃ E, f_Calendar_carry NF hc.2.2.1 15 (nI i) 3 H = some E ∧ CJ B hm hc E (sT (mS hm) i % 12) (crL (mS hm) L i) (crT (mS hm) T i) := by
  obtain ⟨x, lr, G, g1, g2, g3⟩ := cj
  obtain ⟨b, e, b1, b2⟩ := rsn_0 r
  have hH := St_sC x h
  have tx : H.2.2.1 = hc.2.2.1 := x.tx
  obtain ⟨n', m1, m2, -, m3⟩ := St_sd h
  obtain rfl : n' = n := (nI_eq (by omega) (by omega)).mp (m2.symm.trans hn)
  obtain ⟨sd, -⟩ := m3 i hi
  obtain ⟨nk, k1, k2, k3⟩ := sd.k1
  obtain ⟨s1, s2, s3⟩ := stt_4 sd
  have n2 := sd.n2
  obtain ⟨F, f0, f1, f2, f3⟩ := C_carry0 hH hn n4 hi lr e hL 3
  rw [tx] at f3
  have gF : GS F G := by
    rw [f0]
    exact ⟨(pI_ne (by omega)).trans g1.1, fun j hj => (pI_ne (by omega)).trans (g1.2 j hj)⟩
  have hCF : RC F := (St_sC f1 hH).1
  have q3 := g3 (stt (mS hm) i) (sK (mS hm) i) s1 (by omega)
  obtain ⟨E, G', z1, z2, z3, z4, z5⟩ := C_moveS (p1 := stt (mS hm) i) (p2 := too (mS hm) i) (k := sK (mS hm) i) (b := sB (mS hm) i) (n := sN (mS hm) i) hCF s1 s2 s3 (by omega) sd.b1 gF (by omega) (by omega) (by omega)
  rw [f3, z1]
  refine ⟨E, rfl, (z2.s.tr f1).tr x, ⟨(z2.1 6 26 3 (by omega)).trans f2.1, fun b hb => (z2.1 13 32 b (by omega)).trans (f2.2 b hb)⟩, G', z3, by omega, fun p k hp hk => ?_⟩
  rw [z5 p k hp hk, g3 p k hp hk]
  unfold crT up0
  by_cases c1 : p = stt (mS hm) i ∧ k = sK (mS hm) i
  · obtain ⟨rfl, rfl⟩ := c1
    rw [if_pos ⟨rfl, rfl⟩, if_neg (by omega), if_pos rfl]
  · rw [if_neg c1]
    by_cases c2 : p = too (mS hm) i ∧ k = sK (mS hm) i
    · obtain ⟨rfl, rfl⟩ := c2
      rw [if_pos ⟨rfl, rfl⟩, if_pos rfl]
    · rw [if_neg c2, if_neg (by omega), if_neg (by omega)]
