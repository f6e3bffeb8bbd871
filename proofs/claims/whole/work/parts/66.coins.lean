/-! THE CLASS'S COINS: a row l of the fewest up to S -/
def rC (l : Nat) (H h : sh_H) : Prop := (∀ c i j, ¬ (c = 13 ∧ i = l) → H.1 c i j = h.1 c i j) ∧ H.2 = h.2
theorem rC.rf (l : Nat) (h : sh_H) : rC l h h := ⟨fun _ _ _ _ => rfl, rfl⟩
theorem rC.tr {l : Nat} {a b c : sh_H} (x : rC l a b) (y : rC l b c) : rC l a c := ⟨fun c i j h => (x.1 c i j h).trans (y.1 c i j h), x.2.trans y.2⟩
theorem rC.pI {l : Nat} {h g : sh_H} {j : Nat} {v : Int32} (x : rC l h g) : rC l (sh_pI h 13 l j v) g := by
  refine ⟨fun c i j n => ?_, x.2⟩
  rw [pI_ne (fun q => n ⟨q.1, q.2.1⟩)]
  exact x.1 c i j n
theorem rC.s {l : Nat} {h g : sh_H} (hl : 32 ≤ l ∧ l < 42) (x : rC l h g) : sC h g := ⟨fun c i j n => x.1 c i j (fun q => n (by unfold scC; omega)), fun _ _ _ _ => by rw [x.2], by rw [x.2]⟩
def AR (H : sh_H) (l S : Nat) (F : Nat → Nat) : Prop := ∀ j, j ≤ S → H.1 13 l j = nI (F j)
theorem C_at {l : Nat} (hl : sh_l13 l = 4001) {j : Nat} (hj : j ≤ 4000) (H : sh_H) : f_Coins_at l (nI j) H = some (H.1 13 l j) := by
  unfold f_Coins_at
  have ei : ai_in (nI j) 4001 := q_in (by omega) (by omega)
  have ec : (nI j).toNatClampNeg = j := q_cl (by omega)
  rw [if_neg (nI_pos (by omega)), hl, q_len, if_pos (nI_lt (by omega) (by omega)), if_pos ei, ec]
theorem C_clear {l : Nat} (hl : sh_l13 l = 4001) {S : Nat} (hS : S ≤ 4000) (h : sh_H) : ∃ E, f_Coins_clear NF l (nI S) h = some E ∧ rC l E h ∧ AR E l S (fz0 1048576) := by
  have lp : ∀ (q j u : Nat) (H : sh_H), j + q = S + 1 → q < u → rC l H h → (∀ r, r < j → H.1 13 l r = nI (fz0 1048576 r)) → ∃ E, f_Coins_clear_l2 NF u l (nI S) (nI j) H = some E ∧ rC l E h ∧ AR E l S (fz0 1048576) := by
    intro q
    induction q with
    | zero =>
      intro j u H e1 e2 x h1
      obtain ⟨u, rfl⟩ : ∃ m, u = m + 1 := ⟨u - 1, by omega⟩
      refine ⟨H, ?_, x, fun r hr => h1 r (by omega)⟩
      show f_Coins_clear_c2 NF (f_Coins_clear_l2 NF u) l (nI S) (nI j) H = _
      unfold f_Coins_clear_c2
      rw [if_pos (nI_lt (by omega) (by omega))]
    | succ q ih =>
      intro j u H e1 e2 x h1
      obtain ⟨u, rfl⟩ : ∃ m, u = m + 1 := ⟨u - 1, by omega⟩
      show ∃ E, f_Coins_clear_c2 NF (f_Coins_clear_l2 NF u) l (nI S) (nI j) H = some E ∧ _
      unfold f_Coins_clear_c2 f_Coins_clear_b25
      have ei : ai_in (nI j) 4001 := q_in (by omega) (by omega)
      have ec : (nI j).toNatClampNeg = j := q_cl (by omega)
      have fin : ∀ v, v = nI (fz0 1048576 j) → ∃ E, (if ai_in (nI j) (sh_l13 l) then sh_let (sh_pI H 13 l (nI j).toNatClampNeg v) (fun h1 => f_Coins_clear_l2 NF u l (nI S) (nI j + 1) h1) else none) = some E ∧ rC l E h ∧ AR E l S (fz0 1048576) := by
        intro v hv
        rw [hl, if_pos ei, sh_let, nI_1, ec]
        refine ih (j + 1) u _ (by omega) (by omega) x.pI (fun r hr => ?_)
        by_cases e : r = j
        · subst e; rw [pI_at, hv]
        · rw [pI_ne (by omega)]; exact h1 r (by omega)
      rw [if_neg (nI_nlt (by omega) (by omega)), hl, q_len, if_pos (nI_lt (by omega) (by omega))]
      rw [hl] at fin
      by_cases e : j = 0
      · subst e
        rw [if_pos (show nI 0 = 0 from rfl)]
        exact fin 0 rfl
      · rw [if_neg (nI_ne0 (by omega) (by omega))]
        refine fin 1048576 ?_
        unfold fz0
        rw [if_neg e]
        rfl
  unfold f_Coins_clear
  exact lp (S + 1) 0 NF h (by omega) (NF_gt (by omega)) (rC.rf l h) (fun r hr => by omega)
theorem C_addEndless {l : Nat} (hl : sh_l13 l = 4001) {w b S : Nat} (hS : S ≤ 4000) (hw : 1 ≤ w) (hw2 : w ≤ 500) (hb : S / w ≤ b) {F : Nat → Nat} (hF : ∀ v, F v ≤ 1048576) (h : sh_H) (hA : AR h l S F) : ∃ E, f_Coins_addEndless NF l (nI w) (nI S) h = some E ∧ rC l E h ∧ AR E l S (ad w b F) := by
  have lp : ∀ (q j u : Nat) (H : sh_H), j + q = S + 1 → q < u → w ≤ j → rC l H h → (∀ r, r < j → r ≤ S → H.1 13 l r = nI (ad w b F r)) → (∀ r, j ≤ r → r ≤ S → H.1 13 l r = nI (F r)) → ∃ E, f_Coins_addEndless_l6 NF u l (nI w) (nI S) (nI j) H = some E ∧ rC l E h ∧ AR E l S (ad w b F) := by
    intro q
    induction q with
    | zero =>
      intro j u H e1 e2 hj x h1 h2
      obtain ⟨u, rfl⟩ : ∃ m, u = m + 1 := ⟨u - 1, by omega⟩
      refine ⟨H, ?_, x, fun r hr => h1 r (by omega) hr⟩
      show f_Coins_addEndless_c6 NF (f_Coins_addEndless_l6 NF u) l (nI w) (nI S) (nI j) H = _
      unfold f_Coins_addEndless_c6
      rw [if_pos (nI_lt (by omega) (by omega))]
    | succ q ih =>
      intro j u H e1 e2 hj x h1 h2
      obtain ⟨u, rfl⟩ : ∃ m, u = m + 1 := ⟨u - 1, by omega⟩
      show ∃ E, f_Coins_addEndless_c6 NF (f_Coins_addEndless_l6 NF u) l (nI w) (nI S) (nI j) H = some E ∧ _
      unfold f_Coins_addEndless_c6
      have ei : ai_in (nI j) 4001 := q_in (by omega) (by omega)
      have ec : (nI j).toNatClampNeg = j := q_cl (by omega)
      have f1 : ad w b F (j - w) ≤ 1048576 := ad_I hw hF
      have f2 := hF j
      have dv : j / w ≤ b := Nat.le_trans (Nat.div_le_div_right (by omega)) hb
      have c1 : H.1 13 l (nI j).toNatClampNeg = nI (F j) := by rw [ec]; exact h2 j (Nat.le_refl _) (by omega)
      rw [if_neg (nI_nlt (by omega) (by omega)), hl, q_len, if_pos (nI_lt (by omega) (by omega)), if_pos ei, q_sub (by omega), C_at hl (by omega), Option.bind_some, h1 (j - w) (by omega) (by omega), nI_1, c1, Math_min (by omega) (by omega), Option.bind_some, if_pos ei, ← ad_rec hw hj dv, sh_let, nI_1, ec]
      refine ih (j + 1) u _ (by omega) (by omega) (by omega) x.pI (fun r hr hr2 => ?_) (fun r hr hr2 => ?_)
      · by_cases e : r = j
        · subst e; rw [pI_at]
        · rw [pI_ne (by omega)]; exact h1 r (by omega) hr2
      · rw [pI_ne (by omega)]; exact h2 r (by omega) hr2
  have m1 : f_Math_max 1 (nI w) h = some (nI w) := by
    unfold f_Math_max
    by_cases e : 1 < w
    · rw [if_pos (show (1 : Int32) < nI w from nI_lt (a := 1) e (by omega))]
    · obtain rfl : w = 1 := by omega
      rfl
  unfold f_Coins_addEndless
  rw [m1, Option.bind_some]
  by_cases c : w ≤ S + 1
  · exact lp (S + 1 - w) w NF h (by omega) (NF_gt (by omega)) (Nat.le_refl _) (rC.rf l h) (fun r hr hr2 => by rw [ad_lt hw hr]; exact hA r hr2) (fun r hr hr2 => hA r hr2)
  · refine ⟨h, ?_, rC.rf l h, fun r hr => by rw [ad_lt hw (by omega)]; exact hA r hr⟩
    show f_Coins_addEndless_c6 NF (f_Coins_addEndless_l6 NF 999999) l (nI w) (nI S) (nI w) h = _
    unfold f_Coins_addEndless_c6
    rw [if_pos (nI_lt (by omega) (by omega))]
/-- one lump, downwards -/
theorem C_lump {l : Nat} (hl : sh_l13 l = 4001) {w L R : Nat} (hR : R ≤ 4000) (hw : 1 ≤ w) (hw2 : w ≤ 500) (hL : 1 ≤ L) (hL2 : L ≤ 4000) {F : Nat → Nat} (hF : ∀ v, F v ≤ 1048576) (h : sh_H) (hA : AR h l R F) (K : Nat → Int32 → Int32 → Int32 → Int32 → Int32 → sh_H → Option sh_H) (l4 l5 : Int32) : ∃ E, f_Coins_addLumps_l44 NF K NF l (nI w) (nI R) l4 l5 (nI L) (nI (L * w)) (nI R) h = K l (nI w) (nI R) l4 l5 (nI L) E ∧ rC l E h ∧ AR E l R (lmp w L F) ∧ ∀ r, R < r → E.1 13 l r = h.1 13 l r := by
  have v1 : 1 * 1 ≤ L * w := Nat.mul_le_mul hL hw
  have v2 : L * w ≤ 4000 * 500 := Nat.mul_le_mul hL2 hw2
  have lp : ∀ (q j u : Nat) (H : sh_H), q < u → (q = 0 → j + 1 = L * w ∨ (R < L * w ∧ j = R)) → (0 < q → j + 1 = L * w + q) → j ≤ R → rC l H h → (∀ r, j < r → r ≤ R → H.1 13 l r = nI (lmp w L F r)) → (∀ r, r ≤ j → H.1 13 l r = nI (F r)) → (∀ r, R < r → H.1 13 l r = h.1 13 l r) → ∃ E, f_Coins_addLumps_l44 NF K u l (nI w) (nI R) l4 l5 (nI L) (nI (L * w)) (nI j) H = K l (nI w) (nI R) l4 l5 (nI L) E ∧ rC l E h ∧ AR E l R (lmp w L F) ∧ ∀ r, R < r → E.1 13 l r = h.1 13 l r := by
    intro q
    induction q with
    | zero =>
      intro j u H e2 e1 _ hj x h1 h2 h3
      obtain ⟨u, rfl⟩ : ∃ m, u = m + 1 := ⟨u - 1, by omega⟩
      have jl : j < L * w := by rcases e1 rfl with e | e <;> omega
      refine ⟨H, ?_, x, fun r hr => ?_, h3⟩
      · show f_Coins_addLumps_c44 NF K (f_Coins_addLumps_l44 NF K u) l (nI w) (nI R) l4 l5 (nI L) (nI (L * w)) (nI j) H = _
        unfold f_Coins_addLumps_c44 f_Math_max
        by_cases e : 1 < L * w
        · rw [if_pos (show (1 : Int32) < nI (L * w) from nI_lt (a := 1) e (by omega)), Option.bind_some, if_pos (nI_lt jl (by omega))]
        · rw [if_neg (show ¬ (1 : Int32) < nI (L * w) from nI_nlt (a := 1) (by omega) (by omega)), Option.bind_some, if_pos (show nI j < 1 from nI_lt (b := 1) (by omega) (by omega))]
      · by_cases e : j < r
        · exact h1 r e hr
        · rw [h2 r (by omega)]
          unfold lmp
          rw [if_neg (by omega)]
    | succ q ih =>
      intro j u H e2 _ e1 hj x h1 h2 h3
      obtain ⟨u, rfl⟩ : ∃ m, u = m + 1 := ⟨u - 1, by omega⟩
      have jl := e1 (by omega)
      show ∃ E, f_Coins_addLumps_c44 NF K (f_Coins_addLumps_l44 NF K u) l (nI w) (nI R) l4 l5 (nI L) (nI (L * w)) (nI j) H = _ ∧ _
      have mx : f_Math_max 1 (nI (L * w)) H = some (nI (L * w)) := by
        unfold f_Math_max
        by_cases e : 1 < L * w
        · rw [if_pos (show (1 : Int32) < nI (L * w) from nI_lt (a := 1) e (by omega))]
        · rw [if_neg (show ¬ (1 : Int32) < nI (L * w) from nI_nlt (a := 1) (by omega) (by omega)), show L * w = 1 by omega]
          rfl
      unfold f_Coins_addLumps_c44
      have ei : ai_in (nI j) 4001 := q_in (by omega) (by omega)
      have ec : (nI j).toNatClampNeg = j := q_cl (by omega)
      have f1 := hF (j - L * w)
      have f2 := hF j
      have c1 : H.1 13 l (nI j).toNatClampNeg = nI (F j) := by rw [ec]; exact h2 j (Nat.le_refl _)
      have el : lmp w L F j = min (F j) (F (j - L * w) + L) := by unfold lmp; rw [if_pos (by omega)]
      rw [mx, Option.bind_some, if_neg (nI_nlt (by omega) (by omega)), hl, if_pos ei, q_sub (by omega), C_at hl (by omega), Option.bind_some, h2 (j - L * w) (by omega), nI_add, c1, Math_min (by omega) (by omega), Option.bind_some, if_pos ei, ← el, sh_let, ec]
      obtain ⟨i, rfl⟩ : ∃ i, j = i + 1 := ⟨j - 1, by omega⟩
      rw [pk_m1]
      refine ih i u _ (by omega) (fun e => Or.inl (by omega)) (fun e => by omega) (by omega) x.pI (fun r hr hr2 => ?_) (fun r hr => ?_) (fun r hr => ?_)
      · by_cases e : r = i + 1
        · subst e; rw [pI_at]
        · rw [pI_ne (by omega)]; exact h1 r (by omega) hr2
      · rw [pI_ne (by omega)]; exact h2 r (by omega)
      · rw [pI_ne (by omega)]; exact h3 r hr
  by_cases c : L * w ≤ R
  · exact lp (R + 1 - L * w) R NF h (NF_gt (by omega)) (fun e => by omega) (fun _ => by omega) (Nat.le_refl _) (rC.rf l h) (fun r hr hr2 => by omega) (fun r hr => hA r hr) (fun _ _ => rfl)
  · exact lp 0 R NF h (NF_gt (by omega)) (fun _ => Or.inr ⟨by omega, rfl⟩) (fun e => by omega) (Nat.le_refl _) (rC.rf l h) (fun r hr hr2 => by omega) (fun r hr => hA r hr) (fun _ _ => rfl)
theorem C_addLumps {l : Nat} (hl : sh_l13 l = 4001) {w b R : Nat} (hR : R ≤ 4000) (hw : 1 ≤ w) (hw2 : w ≤ 500) (hb : b ≤ 4000) {F : Nat → Nat} (hF : ∀ v, F v ≤ 1048576) (h : sh_H) (hA : AR h l R F) : ∃ E, f_Coins_addLumps NF l (nI w) (nI b) (nI R) h = some E ∧ rC l E h ∧ AR E l R (ad w b F) ∧ ∀ r, R < r → E.1 13 l r = h.1 13 l r := by
  have lp : ∀ (q e u T : Nat) (H : sh_H), e + q = 12 → q + 1 < u → (T + 1 = 2 ^ e ∧ T ≤ b ∨ T = b) → rC l H h → AR H l R (ad w T F) → (∀ r, R < r → H.1 13 l r = h.1 13 l r) → ∃ E, f_Coins_addLumps_l6 NF u l (nI w) (nI R) (nI (b - T)) (nI (2 ^ e)) H = some E ∧ rC l E h ∧ AR E l R (ad w b F) ∧ ∀ r, R < r → E.1 13 l r = h.1 13 l r := by
    have stop : ∀ (u : Nat) (H : sh_H) (x : Int32), 0 < u → rC l H h → AR H l R (ad w b F) → (∀ r, R < r → H.1 13 l r = h.1 13 l r) → ∃ E, f_Coins_addLumps_l6 NF u l (nI w) (nI R) (nI 0) x H = some E ∧ rC l E h ∧ AR E l R (ad w b F) ∧ ∀ r, R < r → E.1 13 l r = h.1 13 l r := by
      intro u H x hu y h1 h2
      obtain ⟨u, rfl⟩ : ∃ m, u = m + 1 := ⟨u - 1, by omega⟩
      refine ⟨H, ?_, y, h1, h2⟩
      show f_Coins_addLumps_c6 NF (f_Coins_addLumps_l6 NF u) l (nI w) (nI R) (nI 0) x H = _
      unfold f_Coins_addLumps_c6
      rw [if_neg (show ¬ (0 : Int32) < nI 0 by decide)]
    intro q
    induction q with
    | zero =>
      intro e u T H e1 e2 hT x h1 h2
      obtain rfl : e = 12 := by omega
      have : T = b := by
        rcases hT with ⟨t1, t2⟩ | t
        · have : (2 : Nat) ^ 12 = 4096 := by decide
          omega
        · exact t
      subst this
      rw [Nat.sub_self]
      exact stop u H _ (by omega) x h1 h2
    | succ q ih =>
      intro e u T H e1 e2 hT x h1 h2
      by_cases tb : T = b
      · subst tb
        rw [Nat.sub_self]
        exact stop u H _ (by omega) x h1 h2
      obtain ⟨t1, t2⟩ : T + 1 = 2 ^ e ∧ T ≤ b := by rcases hT with t | t; exact t; exact absurd t tb
      obtain ⟨u, rfl⟩ : ∃ m, u = m + 1 := ⟨u - 1, by omega⟩
      show ∃ E, f_Coins_addLumps_c6 NF (f_Coins_addLumps_l6 NF u) l (nI w) (nI R) (nI (b - T)) (nI (2 ^ e)) H = some E ∧ _
      unfold f_Coins_addLumps_c6
      have pe : 2 ^ e ≤ 2 ^ 11 := Nat.pow_le_pow_right (by omega) (by omega)
      have p11 : (2 : Nat) ^ 11 = 2048 := by decide
      have mR : f_Math_min (nI R) (Int32.ofNat (sh_l13 l) - 1) H = some (nI R) := by
        rw [hl, show Int32.ofNat 4001 - 1 = nI 4000 by decide, Math_min (by omega) (by omega), Nat.min_eq_left hR]
      have hFT : ∀ v, ad w T F v ≤ 1048576 := fun v => ad_I hw hF
      obtain ⟨E, E1, E2, E3, E4⟩ := C_lump hl hR hw hw2 (L := min (2 ^ e) (b - T)) (by omega) (by omega) hFT H h1 (f_Coins_addLumps_b84 NF (f_Coins_addLumps_l6 NF u)) (nI (b - T)) (nI (2 ^ e))
      rw [if_pos (show (0 : Int32) < nI (b - T) from nI_lt (a := 0) (by omega) (by omega)), if_neg (show ¬ (4000 : Int32) < nI (2 ^ e) from nI_nlt (a := 4000) (by omega) (by omega)), Math_min (by omega) (by omega), Option.bind_some, mR, Option.bind_some, q_mul, E1]
      unfold f_Coins_addLumps_b84
      rw [q_sub (by omega), show nI (2 ^ e) * 2 = nI (2 ^ (e + 1)) by rw [show (2 : Int32) = nI 2 from rfl, q_mul, Nat.pow_succ], show b - T - min (2 ^ e) (b - T) = b - (T + min (2 ^ e) (b - T)) by omega]
      refine ih (e + 1) u (T + min (2 ^ e) (b - T)) E (by omega) (by omega) ?_ (E2.tr x) (fun j hj => ?_) (fun r hr => (E4 r hr).trans (h2 r hr))
      · rw [Nat.pow_succ]
        omega
      · rw [E3 j hj, lmp_ad hw (by omega)]
  unfold f_Coins_addLumps
  have := lp 12 0 NF 0 h (by omega) (NF_gt (by omega)) (Or.inl ⟨rfl, Nat.zero_le _⟩) (rC.rf l h) (by rw [ad_b0 hw]; exact hA) (fun _ _ => rfl)
  rw [Nat.sub_zero] at this
  exact this
