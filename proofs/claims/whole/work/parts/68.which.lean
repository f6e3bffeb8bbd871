/-! PAIRS: which, whichSum -/
def bn (u k : Nat) : Bool := decide (u / 2 ^ k % 2 = 1)
def popc (u : Nat) : Nat := u % 2 + u / 2 % 2 + u / 4 % 2 + u / 8 % 2 + u / 16 % 2 + u / 32 % 2
theorem bn_bit : ∀ u, u < 64 → ∀ k, k < 6 → (nI u >>> (nI k &&& 31)) &&& 1 = if bn u k = true then 1 else 0 := by decide +kernel
theorem two_pow6 : ∀ n, n < 7 → (1 : Int32) <<< (nI n &&& 31) = nI (2 ^ n) := by decide +kernel
theorem bitCount_eq (h : sh_H) {u : Nat} (hu : u < 64) : f_Int_bitCount (nI u) h = some (nI (popc u)) := by
  have e : ∀ u, u < 64 → ∀ h : Unit, (((((((((nI u - ((sh_us (nI u) 1) &&& 1431655765)) &&& 858993459) + ((sh_us (nI u - ((sh_us (nI u) 1) &&& 1431655765)) 2) &&& 858993459)) + (sh_us (((nI u - ((sh_us (nI u) 1) &&& 1431655765)) &&& 858993459) + ((sh_us (nI u - ((sh_us (nI u) 1) &&& 1431655765)) 2) &&& 858993459)) 4)) &&& 252645135) + (sh_us (((((nI u - ((sh_us (nI u) 1) &&& 1431655765)) &&& 858993459) + ((sh_us (nI u - ((sh_us (nI u) 1) &&& 1431655765)) 2) &&& 858993459)) + (sh_us (((nI u - ((sh_us (nI u) 1) &&& 1431655765)) &&& 858993459) + ((sh_us (nI u - ((sh_us (nI u) 1) &&& 1431655765)) 2) &&& 858993459)) 4)) &&& 252645135) 8)) + (sh_us ((((((nI u - ((sh_us (nI u) 1) &&& 1431655765)) &&& 858993459) + ((sh_us (nI u - ((sh_us (nI u) 1) &&& 1431655765)) 2) &&& 858993459)) + (sh_us (((nI u - ((sh_us (nI u) 1) &&& 1431655765)) &&& 858993459) + ((sh_us (nI u - ((sh_us (nI u) 1) &&& 1431655765)) 2) &&& 858993459)) 4)) &&& 252645135) + (sh_us (((((nI u - ((sh_us (nI u) 1) &&& 1431655765)) &&& 858993459) + ((sh_us (nI u - ((sh_us (nI u) 1) &&& 1431655765)) 2) &&& 858993459)) + (sh_us (((nI u - ((sh_us (nI u) 1) &&& 1431655765)) &&& 858993459) + ((sh_us (nI u - ((sh_us (nI u) 1) &&& 1431655765)) 2) &&& 858993459)) 4)) &&& 252645135) 8)) 16)) &&& 63) = nI (popc u)) := by
    intro u hu _
    revert u
    decide +kernel
  exact congrArg some (e u hu ())
theorem mdF_out {w b : Nat → Nat} : ∀ {q lo : Nat} {F : Nat → Nat}, (∀ k, lo ≤ k → k < lo + q → 1 ≤ w k) → ∀ k, lo ≤ k → k < lo + q → ∃ G, mdF w b q lo F = ad (w k) (b k) G := by
  intro q
  induction q with
  | zero => intro lo F _ k h1 h2; omega
  | succ q ih =>
    intro lo F h k h1 h2
    by_cases e : k = lo
    · subst e; exact ⟨mdF w b q (k + 1) F, rfl⟩
    · obtain ⟨G, hG⟩ := ih (lo := lo + 1) (F := F) (fun k h1 h2 => h k (by omega) (by omega)) k (by omega) (by omega)
      refine ⟨ad (w lo) (b lo) G, ?_⟩
      show ad (w lo) (b lo) (mdF w b q (lo + 1) F) = _
      rw [hG, ad_comm (h lo (by omega) (by omega)) (h k h1 h2)]
theorem mdF_up {w b : Nat → Nat} {q lo k v : Nat} {F : Nat → Nat} (h : ∀ k, lo ≤ k → k < lo + q → 1 ≤ w k) (h1 : lo ≤ k) (h2 : k < lo + q) (hv : w k ≤ v) (hb : v / w k ≤ b k) : mdF w b q lo F v ≤ mdF w b q lo F (v - w k) + 1 := by
  obtain ⟨G, hG⟩ := mdF_out (F := F) (b := b) h k h1 h2
  rw [hG, ad_rec (h k h1 h2) hv hb]
  exact Nat.min_le_right _ _
theorem mdF_dn {w b : Nat → Nat} {I : Nat} : ∀ {q lo : Nat}, (∀ k, lo ≤ k → k < lo + q → 1 ≤ w k) → ∀ v, 0 < v → I ≤ mdF w b q lo (fz0 I) v ∨ ∃ k, lo ≤ k ∧ k < lo + q ∧ 1 ≤ b k ∧ w k ≤ v ∧ mdF w b q lo (fz0 I) (v - w k) + 1 ≤ mdF w b q lo (fz0 I) v := by
  intro q
  induction q with
  | zero => intro lo _ v hv; left; show I ≤ fz0 I v; unfold fz0; rw [if_neg (by omega)]; exact Nat.le_refl _
  | succ q ih =>
    intro lo h v hv
    have hw := h lo (by omega) (by omega)
    have i2 := ih (lo := lo + 1) (fun k h1 h2 => h k (by omega) (by omega)) v hv
    show I ≤ ad (w lo) (b lo) (mdF w b q (lo + 1) (fz0 I)) v ∨ ∃ k, lo ≤ k ∧ k < lo + (q + 1) ∧ 1 ≤ b k ∧ w k ≤ v ∧ ad (w lo) (b lo) (mdF w b q (lo + 1) (fz0 I)) (v - w k) + 1 ≤ ad (w lo) (b lo) (mdF w b q (lo + 1) (fz0 I)) v
    obtain ⟨n, n1, n2, n3⟩ := ad_at (w := w lo) (b := b lo) (v := v) (F := mdF w b q (lo + 1) (fz0 I)) hw
    rw [n3]
    by_cases e : n = 0
    · subst e
      rw [Nat.zero_mul]
      show I ≤ mdF w b q (lo + 1) (fz0 I) v ∨ _
      rcases i2 with i2 | ⟨k, k1, k2, k3, k4, k5⟩
      · exact Or.inl i2
      · refine Or.inr ⟨k, by omega, by omega, k3, k4, ?_⟩
        exact Nat.le_trans (Nat.add_le_add_right (ad_self hw) 1) k5
    · obtain ⟨m, rfl⟩ : ∃ m, n = m + 1 := ⟨n - 1, by omega⟩
      rw [Nat.add_mul, Nat.one_mul] at n2
      have a := ad_le (w := w lo) (b := b lo) (v := v - w lo) (n := m) (F := mdF w b q (lo + 1) (fz0 I)) hw (by omega) (by omega)
      refine Or.inr ⟨lo, Nat.le_refl _, by omega, by omega, by omega, ?_⟩
      rw [show v - (m + 1) * w lo = v - w lo - m * w lo by rw [Nat.add_mul, Nat.one_mul]; omega]
      omega
/-- the fewest of a set of kinds, endless -/
def bS (u k : Nat) : Nat := if bn u k = true then 4000 else 0
def wE (f : Nat → Int32) (u nk : Nat) : Nat → Nat := mdF (wth f) (bS u) nk 0 (fz0 1048576)
def sE (g : Nat → Nat) : Nat → Nat → Nat
  | 0, _ => 0
  | q + 1, i => g i + sE g q (i + 1)
def tot (f : Nat → Int32) (nk u s c : Nat) : Nat := c * popc u + sE (wE f u nk) s 1
theorem wE_I {f : Nat → Int32} {u nk : Nat} (hw : ∀ k, k < nk → 1 ≤ wth f k) (v : Nat) : wE f u nk v ≤ 1048576 := mdF_I (fun k _ h2 => hw k (by omega)) v
theorem C_sumOf {c0 : Nat} {hc hm : sh_H} (h0 : St c0 hc hm) {nk s c u : Nat} (k1 : nk ≤ 6) (hs : s ≤ 400) (hc9 : c ≤ 99) (hu : u < 64) (hw : ∀ k, k < nk → 1 ≤ wth (mS hm) k ∧ wth (mS hm) k ≤ 500) {b1 b2 : Nat → Nat} (h : sh_H) (hC : RC h) (t : TL h nk (wth (mS hm)) b1 b2) : ∃ E, f_Coins_sumOf NF (nI u) (nI s) (nI c) h = some (nI (tot (mS hm) nk u s c), E) ∧ rC 34 E h := by
  have lp2 : ∀ (q i u' a : Nat) (H : sh_H), i + q = s + 1 → q < u' → AR H 34 s (wE (mS hm) u nk) → f_Coins_sumOf_l67 NF u' (nI s) (nI a) (nI i) H = some (nI (a + sE (wE (mS hm) u nk) q i), H) := by
    intro q
    induction q with
    | zero =>
      intro i u' a H e1 e2 hA
      obtain ⟨u', rfl⟩ : ∃ m, u' = m + 1 := ⟨u' - 1, by omega⟩
      show f_Coins_sumOf_c67 NF (f_Coins_sumOf_l67 NF u') (nI s) (nI a) (nI i) H = _
      unfold f_Coins_sumOf_c67
      rw [if_pos (nI_lt (by omega) (by omega))]
      rfl
    | succ q ih =>
      intro i u' a H e1 e2 hA
      obtain ⟨u', rfl⟩ : ∃ m, u' = m + 1 := ⟨u' - 1, by omega⟩
      show f_Coins_sumOf_c67 NF (f_Coins_sumOf_l67 NF u') (nI s) (nI a) (nI i) H = some (nI (a + (wE (mS hm) u nk i + sE (wE (mS hm) u nk) q (i + 1))), H)
      unfold f_Coins_sumOf_c67
      rw [if_neg (nI_nlt (by omega) (by omega)), C_at l34.1 (by omega), Option.bind_some, hA i (by omega), nI_add, nI_1, ih (i + 1) u' _ H (by omega) (by omega) hA, Nat.add_assoc]
  have lp1 : ∀ (q k u' : Nat) (F : Nat → Nat) (H : sh_H), k + q = nk → q < u' → (∀ v, F v ≤ 1048576) → rC 34 H h → AR H 34 s F → clF (wth (mS hm)) (bS u) q k F = wE (mS hm) u nk → ∃ E, f_Coins_sumOf_l11 NF (f_Coins_sumOf_b56 NF) u' (nI u) (nI s) (nI c) (nI k) H = some (nI (tot (mS hm) nk u s c), E) ∧ rC 34 E h := by
    intro q
    induction q with
    | zero =>
      intro k u' F H e1 e2 hF x hA hE
      obtain ⟨u', rfl⟩ : ∃ m, u' = m + 1 := ⟨u' - 1, by omega⟩
      obtain rfl : k = nk := by omega
      show ∃ E, f_Coins_sumOf_c11 NF (f_Coins_sumOf_b56 NF) (f_Coins_sumOf_l11 NF (f_Coins_sumOf_b56 NF) u') (nI u) (nI s) (nI c) (nI k) H = _ ∧ _
      unfold f_Coins_sumOf_c11 f_Rows_size f_Coins_sumOf_b56
      have hE' : F = wE (mS hm) u k := hE
      rw [(rC_TL (Or.inl rfl) x t).1, Option.bind_some, if_neg (nI_nlt (by omega) (by omega)), bitCount_eq H hu, Option.bind_some, q_mul]
      rw [hE'] at hA
      exact ⟨H, lp2 s 1 NF _ H (by omega) (NF_gt (by omega)) hA, x⟩
    | succ q ih =>
      intro k u' F H e1 e2 hF x hA hE
      obtain ⟨u', rfl⟩ : ∃ m, u' = m + 1 := ⟨u' - 1, by omega⟩
      obtain ⟨w1, w2⟩ := hw k (by omega)
      have tH := rC_TL (Or.inl rfl) x t
      have hCH : RC H := RC_of hC (fun r j hr hj => x.1 6 r j (by omega))
      show ∃ E, f_Coins_sumOf_c11 NF (f_Coins_sumOf_b56 NF) (f_Coins_sumOf_l11 NF (f_Coins_sumOf_b56 NF) u') (nI u) (nI s) (nI c) (nI k) H = _ ∧ _
      unfold f_Coins_sumOf_c11 f_Rows_size f_Coins_sumOf_b50
      have hE' : clF (wth (mS hm)) (bS u) q (k + 1) (ad (wth (mS hm) k) (bS u k) F) = wE (mS hm) u nk := hE
      rw [tH.1, Option.bind_some, if_pos (nI_lt (by omega) (by omega)), bn_bit u hu k (by omega), nI_1]
      unfold bS at hE'
      cases b : bn u k with
      | false =>
        rw [b, if_neg (show ¬ false = true by decide), ad_b0 w1] at hE'
        rw [if_neg (show ¬ false = true by decide), if_pos (rfl : (0 : Int32) = 0)]
        exact ih (k + 1) u' F H (by omega) (by omega) hF x hA hE'
      | true =>
        rw [b, if_pos rfl] at hE'
        have dv : s / wth (mS hm) k ≤ s := Nat.div_le_self _ _
        obtain ⟨E, E1, E2, E3⟩ := C_addEndless l34.1 (w := wth (mS hm) k) (b := 4000) (S := s) (by omega) w1 w2 (by omega) hF H hA
        rw [if_pos rfl, if_neg q_10, (TL_get hCH tH k1 (k := k) (by omega)).1, Option.bind_some, E1, Option.bind_some]
        exact ih (k + 1) u' _ E (by omega) (by omega) (fun v => ad_I w1 hF) (E2.tr x) E3 hE'
  obtain ⟨H, H1, H2, H3⟩ := C_clear l34.1 (S := s) (by omega) h
  unfold f_Coins_sumOf
  rw [H1, Option.bind_some]
  exact lp1 nk 0 NF (fz0 1048576) H (by omega) (NF_gt (by omega)) (fun v => by unfold fz0; split <;> omega) H2 H3 (clF_md (fun k _ h2 => (hw k (by omega)).1))
/-- a set with a kind of worth 1 -/
def h1s (f : Nat → Int32) (u : Nat) : Nat → Nat → Bool
  | 0, _ => false
  | q + 1, k => if bn u k = true ∧ wth f k = 1 then true else h1s f u q (k + 1)
theorem h1s_t {f : Nat → Int32} {u q k : Nat} (h : bn u k = true ∧ wth f k = 1) : h1s f u (q + 1) k = true := if_pos h
theorem h1s_f {f : Nat → Int32} {u q k : Nat} (h : ¬ (bn u k = true ∧ wth f k = 1)) : h1s f u (q + 1) k = h1s f u q (k + 1) := if_neg h
theorem h1s_iff {f : Nat → Int32} {u : Nat} : ∀ {q k : Nat}, h1s f u q k = true ↔ ∃ r, k ≤ r ∧ r < k + q ∧ bn u r = true ∧ wth f r = 1 := by
  intro q
  induction q with
  | zero => intro k; exact ⟨fun h => (by cases h), fun ⟨r, h, h2, _⟩ => absurd h (by omega)⟩
  | succ q ih =>
    intro k
    by_cases c : bn u k = true ∧ wth f k = 1
    · rw [h1s_t c]
      exact ⟨fun _ => ⟨k, by omega, by omega, c⟩, fun _ => rfl⟩
    · rw [h1s_f c, ih]
      constructor
      · rintro ⟨r, r1, r2, r3⟩
        exact ⟨r, by omega, by omega, r3⟩
      · rintro ⟨r, r1, r2, r3⟩
        refine ⟨r, ?_, by omega, r3⟩
        by_cases e : r = k
        · subst e; exact absurd r3 c
        · omega
theorem C_hasOne {f : Nat → Int32} {nk u : Nat} (k1 : nk ≤ 6) (hu : u < 64) (hw : ∀ k, k < nk → wth f k ≤ 500) {b1 b2 : Nat → Nat} (h : sh_H) (hC : RC h) (t : TL h nk (wth f) b1 b2) : f_Coins_hasOne NF (nI u) h = some (if h1s f u nk 0 = true then 1 else 0) := by
  have lp : ∀ (q k u' : Nat), k + q = nk → q < u' → f_Coins_hasOne_l2 NF u' (nI u) (nI k) h = some (if h1s f u q k = true then 1 else 0) := by
    intro q
    induction q with
    | zero =>
      intro k u' e1 e2
      obtain ⟨u', rfl⟩ : ∃ m, u' = m + 1 := ⟨u' - 1, by omega⟩
      show f_Coins_hasOne_c2 NF (f_Coins_hasOne_l2 NF u') (nI u) (nI k) h = _
      unfold f_Coins_hasOne_c2 f_Rows_size
      rw [t.1, Option.bind_some, if_neg (nI_nlt (by omega) (by omega)), q_nar0]
      rfl
    | succ q ih =>
      intro k u' e1 e2
      obtain ⟨u', rfl⟩ : ∃ m, u' = m + 1 := ⟨u' - 1, by omega⟩
      show f_Coins_hasOne_c2 NF (f_Coins_hasOne_l2 NF u') (nI u) (nI k) h = _
      unfold f_Coins_hasOne_c2 f_Rows_size f_Coins_hasOne_b36
      have w2 := hw k (by omega)
      rw [t.1, Option.bind_some, if_pos (nI_lt (by omega) (by omega)), bn_bit u hu k (by omega), nI_1, ih (k + 1) u' (by omega) (by omega), (TL_get hC t k1 (k := k) (by omega)).1, Option.bind_some, q_nar1]
      cases b : bn u k with
      | false => rw [h1s_f (fun z => by rw [b] at z; cases z.1), if_neg (show ¬ false = true by decide), if_pos (rfl : (0 : Int32) = 0)]
      | true =>
        rw [if_pos rfl, if_neg q_10]
        by_cases e : wth f k = 1
        · rw [h1s_t ⟨b, e⟩, e, if_pos (show nI 1 = 1 from rfl), if_pos rfl]
        · rw [h1s_f (fun z => e z.2), if_neg (show ¬ nI (wth f k) = 1 from nI_ne (b := 1) e (by omega) (by omega))]
  unfold f_Coins_hasOne
  exact lp nk 0 NF (by omega) (NF_gt (by omega))
