/-! THE LEDGER KNOWS -/
theorem bget {c : Nat} {hc hm H : sh_H} (h : St c hc hm) (x : sC H hc) {n0 i q : Nat} (hn : mS hm 8 = nI n0) (hn2 : n0 ≤ 60) (hi : i < n0) (hq : q < 5) : f_Rows_get 16 (nI i) (nI q) H = some (hc.1 13 22 (i * 5 + q)) := by
  obtain ⟨m, m0, m1, m2, -⟩ := St_b h
  have : m = n0 := (nI_eq (by omega) (by omega)).mp (m2.symm.trans hn)
  subst this
  have w5 : sh_w 16 = 5 := rfl
  rw [rows_get (r := 16) (s := m) (sC_RC x h.1) (by omega) (by rw [x.1 6 16 3 (by unfold scC; omega)]; exact m1) (show m ≤ 60 from m0) (by omega) (by omega), if_pos ⟨hi, by rw [w5]; exact hq⟩, w5]
  exact congrArg some (x.1 13 22 _ (by unfold scC; omega))
theorem C_know1 {c : Nat} {hc hm : sh_H} (h : St c hc hm) {n0 n : Nat} (hn : mS hm 8 = nI n0) (hn2 : n0 ≤ 60) (hnn : n ≤ n0) (N : Nat) : ∀ (k i u : Nat) (H : sh_H) (K : Nat → Int32 → sh_H → Option sh_H), i + k = n → k < u → sC H hc → LD H (mS hm) N 0 i → (∀ G, sC G hc → LD G (mS hm) N 0 n → ∃ E, K 16 (nI n) G = some E ∧ sC E hc ∧ LD E (mS hm) N N n) → ∃ E, f_Ledger_know_l40 NF K u 16 (nI n) (nI i) H = some E ∧ sC E hc ∧ LD E (mS hm) N N n := by
  intro k
  obtain ⟨m, m0, m1, m2, m3, m4⟩ := St_b h
  have hmn : m = n0 := (nI_eq (by omega) (by omega)).mp (m2.symm.trans hn)
  subst hmn
  induction k with
  | zero =>
    intro i u H K e1 e2 x hL hK
    obtain ⟨u, rfl⟩ : ∃ m, u = m + 1 := ⟨u - 1, by omega⟩
    obtain rfl : i = n := by omega
    show ∃ E, f_Ledger_know_c40 NF K (f_Ledger_know_l40 NF K u) 16 (nI i) (nI i) H = some E ∧ _
    unfold f_Ledger_know_c40
    rw [if_neg (nI_nlt (by omega) (by omega))]
    exact hK H x hL
  | succ k ih =>
    intro i u H K e1 e2 x hL hK
    obtain ⟨u, rfl⟩ : ∃ m, u = m + 1 := ⟨u - 1, by omega⟩
    show ∃ E, f_Ledger_know_c40 NF K (f_Ledger_know_l40 NF K u) 16 (nI n) (nI i) H = some E ∧ _
    unfold f_Ledger_know_c40 f_Rows_size f_Ledger_know_b78
    have z : H.1 6 16 3 = nI m := by rw [x.1 6 16 3 (by unfold scC; omega)]; exact m1
    have g2 : f_Rows_get 16 (nI i) 2 H = _ := bget h x (q := 2) hn hn2 (show i < m by omega) (by omega)
    have g3 : f_Rows_get 16 (nI i) 3 H = _ := bget h x (q := 3) hn hn2 (show i < m by omega) (by omega)
    rw [if_pos (nI_lt (by omega) (by omega)), z, Option.bind_some, if_pos (nI_lt (by omega) (by omega)), g2, Option.bind_some, g3, Option.bind_some, nI_1]
    obtain ⟨a, a1, a2, a3, a4, a5, a6⟩ := m3 i (by omega)
    have a3' : hc.1 13 22 (i * 5 + 2) = nI a := a3
    rw [a3']
    obtain ⟨l1, l2, l3, l4, l5, l6, l7, l8, l9, l10⟩ := hL
    by_cases e3 : a = 3
    · subst e3
      have b1 : hc.1 13 22 (i * 5 + 3) = mS hm (551 + 4 * i) := a6 rfl
      rcases m4 i (by omega) with ⟨q, q1, q2, -⟩ | ⟨q1, -⟩ | ⟨-, r, r1, r2⟩
      · have := (nI_eq (by omega) (by omega)).mp (q2.symm.trans a2); omega
      · have := (nI_eq (by omega) (by omega)).mp (q1.symm.trans a2); omega
      · rw [if_pos (show nI 3 = (3 : Int32) from rfl), b1, r2]
        have pt : f_Rows_put 32 (nI r) 0 1 H = some (sh_pI H 13 41 (r * 1 + 0) 1) := (rows_put (v := 1) (b := 0) (sC_RC x h.1) (r := 32) (by omega) l4 (show 60 ≤ 60 by omega) (show r < 2 ^ 31 by omega) (by omega)).trans (by rw [if_pos ⟨by omega, by decide⟩]; rfl)
        rw [pt, Option.bind_some]
        have x' : sC (sh_pI H 13 41 (r * 1 + 0) 1) hc := sC.pI (by unfold scC; omega) x
        refine ih (i + 1) u _ K (by omega) (by omega) x' ?_ hK
        refine ⟨by rw [pI_ne (by omega)]; exact l1, by rw [pI_ne (by omega)]; exact l2, by rw [pI_ne (by omega)]; exact l3, by rw [pI_ne (by omega)]; exact l4, fun p k hp hk => by rw [pI_ne (by omega)]; exact l5 p k hp hk, fun p k hp hk => by rw [pI_ne (by omega)]; exact l6 p k hp hk, fun p hp => by rw [pI_ne (by omega), pI_ne (by omega)]; exact l7 p hp, by rw [pI_ne (by omega)]; exact l8, by rw [pI_ne (by omega)]; exact l9, fun s hs => ?_⟩
        rw [pI_1]
        by_cases e : s = r
        · subst e
          rw [if_pos (by omega), vdd_t ⟨a2, r2⟩, if_pos rfl]
        · rw [if_neg (by omega), vdd_f (fun q => e ((nI_eq (by omega) (by omega)).mp (r2.symm.trans q.2)).symm)]
          exact l10 s hs
    · rw [if_neg (show ¬ nI a = (3 : Int32) from fun q => e3 ((nI_eq (b := 3) (by omega) (by omega)).mp q))]
      refine ih (i + 1) u _ K (by omega) (by omega) x ⟨l1, l2, l3, l4, l5, l6, l7, l8, l9, fun s hs => ?_⟩ hK
      rw [vdd_f (fun q => e3 ((nI_eq (b := 3) (by omega) (by omega)).mp (a2.symm.trans q.1)))]
      exact l10 s hs
theorem ladd {H : sh_H} {r s a b : Nat} {v : Int32} (hC : RC H) (hr : r < 33) (hz : H.1 6 r 3 = nI s) (hs : s ≤ sh_m r) (ha : a < s) (hb : b < sh_w r) : f_Ledger_add r (nI a) (nI b) v H = some (sh_pI H 13 (sh_rc r) (a * sh_w r + b) (H.1 13 (sh_rc r) (a * sh_w r + b) + v)) := by
  obtain ⟨e1, e2, e3, e4⟩ := sh_mw r hr
  unfold f_Ledger_add
  rw [rows_get hC hr hz hs (by omega) (by omega), if_pos ⟨ha, hb⟩, Option.bind_some, rows_put hC hr hz hs (by omega) (by omega), if_pos ⟨ha, hb⟩, Option.bind_some]
theorem bk_s {f : Nat → Int32} {N s p k m : Nat} (h : ¬ (f (550 + 4 * m) = nI s ∧ f (551 + 4 * m) = nI p ∧ f (552 + 4 * m) = nI k ∧ vdd f m N = false)) : bk f N s p k (m + 1) = bk f N s p k m := by
  show _ + ite _ _ _ = _
  rw [if_neg h, Nat.add_zero]
theorem bk_a {f : Nat → Int32} {N s p k m : Nat} (h : f (550 + 4 * m) = nI s ∧ f (551 + 4 * m) = nI p ∧ f (552 + 4 * m) = nI k ∧ vdd f m N = false) : bk f N s p k (m + 1) = bk f N s p k m + nv f (553 + 4 * m) := by
  show _ + ite _ _ _ = _
  rw [if_pos h]
theorem lk_s {f : Nat → Int32} {N q p m : Nat} (h : ¬ (f (550 + 4 * m) = nI 2 ∧ f (551 + 4 * m) = nI p ∧ vdd f m N = false)) : lk f N q p (m + 1) = lk f N q p m := by
  show _ + ite _ _ _ = _
  rw [if_neg h, Nat.add_zero]
theorem lk_a {f : Nat → Int32} {N q p m : Nat} (h : f (550 + 4 * m) = nI 2 ∧ f (551 + 4 * m) = nI p ∧ vdd f m N = false) : lk f N q p (m + 1) = lk f N q p m + nv f (q + 4 * m) := by
  show _ + ite _ _ _ = _
  rw [if_pos h]
theorem lkA_s {f : Nat → Int32} {N q m : Nat} (h : ¬ (f (550 + 4 * m) = nI 2 ∧ vdd f m N = false)) : lkA f N q (m + 1) = lkA f N q m := by
  show _ + ite _ _ _ = _
  rw [if_neg h, Nat.add_zero]
theorem lkA_a {f : Nat → Int32} {N q m : Nat} (h : f (550 + 4 * m) = nI 2 ∧ vdd f m N = false) : lkA f N q (m + 1) = lkA f N q m + nv f (q + 4 * m) := by
  show _ + ite _ _ _ = _
  rw [if_pos h]
theorem nI_ne {a b : Nat} (h : a ≠ b) (ha : a < 2 ^ 31) (hb : b < 2 ^ 31) : ¬ nI a = nI b := fun q => h ((nI_eq ha hb).mp q)
/-- one row entered -/
theorem C_enter {c : Nat} {hc hm : sh_H} (h : St c hc hm) {n0 N m : Nat} (hn : mS hm 8 = nI n0) (hn2 : n0 ≤ 60) (hm0 : m < n0) {H : sh_H} (x : sC H hc) (hL : LD H (mS hm) N m N) (hv : vdd (mS hm) m N = false) : ∃ E, f_Ledger_enter 16 (nI m) H = some E ∧ sC E hc ∧ LD E (mS hm) N (m + 1) N := by
  obtain ⟨n', m0, m1, m2, m3, m4⟩ := St_b h
  have hmn : n' = n0 := (nI_eq (by omega) (by omega)).mp (m2.symm.trans hn)
  subst hmn
  have g0 : f_Rows_get 16 (nI m) 0 H = some (hc.1 13 22 (m * 5)) := bget h x (q := 0) hn hn2 hm0 (by omega)
  have g1 : f_Rows_get 16 (nI m) 1 H = _ := bget h x (q := 1) hn hn2 hm0 (by omega)
  have g2 : f_Rows_get 16 (nI m) 2 H = _ := bget h x (q := 2) hn hn2 hm0 (by omega)
  have g3 : f_Rows_get 16 (nI m) 3 H = _ := bget h x (q := 3) hn hn2 hm0 (by omega)
  obtain ⟨a, a1, a2, a3, a4, a5, a6⟩ := m3 m hm0
  have a3' : hc.1 13 22 (m * 5 + 2) = nI a := a3
  obtain ⟨l1, l2, l3, l4, l5, l6, l7, l8, l9, l10⟩ := hL
  unfold f_Ledger_enter
  rw [g3, Option.bind_some, g0, Option.bind_some, g2, Option.bind_some, a3']
  have q29 : sh_rc 29 = 38 ∧ sh_m 29 = 5 ∧ sh_w 29 = 6 := by decide
  have q30 : sh_rc 30 = 39 ∧ sh_m 30 = 5 ∧ sh_w 30 = 6 := by decide
  have q31 : sh_rc 31 = 40 ∧ sh_m 31 = 5 ∧ sh_w 31 = 2 := by decide
  rcases m4 m hm0 with ⟨s, s1, s2, ⟨p, ni, p1, p2, p3, p4, -⟩, ⟨k, nk, k1, k2, k3, -⟩, ⟨y, -, y2, y3⟩⟩ | ⟨s2, ⟨p, ni, p1, p2, p3, p4, -⟩, w, z, w1, w2, w3, w4⟩ | ⟨s2, r, r1, r2⟩
  · have : s = a := (nI_eq (by omega) (by omega)).mp (s2.symm.trans a2)
    subst this
    obtain ⟨b1, b2, b3⟩ := a4 s1
    have b1' : hc.1 13 22 (m * 5) = nI p := b1.trans p4
    have b2' : hc.1 13 22 (m * 5 + 1) = nI k := b2.trans k3
    have b3' : hc.1 13 22 (m * 5 + 3) = nI y := b3.trans y3
    have ny : nv (mS hm) (553 + 4 * m) = y := nv_of y3 (by omega)
    rw [g1, Option.bind_some, b1', b2', b3']
    have x1 : ∀ j v, sC (sh_pI H 13 38 j v) hc := fun j v => sC.pI (by unfold scC; omega) x
    have x2 : ∀ j v, sC (sh_pI H 13 39 j v) hc := fun j v => sC.pI (by unfold scC; omega) x
    have lkn : ∀ q p', lk (mS hm) N q p' (m + 1) = lk (mS hm) N q p' m := fun q p' => lk_s (fun z => nI_ne (by omega) (by omega) (by omega) (s2.symm.trans z.1))
    have lkn2 : ∀ q, lkA (mS hm) N q (m + 1) = lkA (mS hm) N q m := fun q => lkA_s (fun z => nI_ne (by omega) (by omega) (by omega) (s2.symm.trans z.1))
    by_cases e0 : s = 0
    · subst e0
      rw [if_pos (show nI 0 = 0 from rfl), ladd (sC_RC x h.1) (by omega) l1 (by decide) (by omega) (show k < 6 by omega), Option.bind_some, q29.1, q29.2.2, l5 p k (by omega) (by omega), nI_add]
      refine ⟨_, rfl, x1 _ _, by rw [pI_ne (by omega)]; exact l1, by rw [pI_ne (by omega)]; exact l2, by rw [pI_ne (by omega)]; exact l3, by rw [pI_ne (by omega)]; exact l4, fun p' k' hp' hk' => ?_, fun p' k' hp' hk' => ?_, fun p' hp' => ?_, ?_, ?_, fun r hr => by rw [pI_ne (by omega)]; exact l10 r hr⟩
      · rw [pI_1]
        by_cases e : p' * 6 + k' = p * 6 + k
        · obtain rfl : p' = p := by omega
          obtain rfl : k' = k := by omega
          rw [if_pos ⟨rfl, rfl, rfl⟩, bk_a ⟨s2, p4, k3, hv⟩, ny]
        · rw [if_neg (fun q => e q.2.2), bk_s (fun q => ?_)]
          · exact l5 p' k' hp' hk'
          · have e1 := (nI_eq (by omega) (by omega)).mp (p4.symm.trans q.2.1)
            have e2 := (nI_eq (by omega) (by omega)).mp (k3.symm.trans q.2.2.1)
            subst e1; subst e2
            exact e rfl
      · rw [pI_ne (by omega), bk_s (fun q => nI_ne (a := 0) (b := 1) (by omega) (by omega) (by omega) (s2.symm.trans q.1))]
        exact l6 p' k' hp' hk'
      · rw [pI_ne (by omega), pI_ne (by omega), lkn, lkn]; exact l7 p' hp'
      · rw [pI_ne (by omega), lkn2]; exact l8
      · rw [pI_ne (by omega), lkn2]; exact l9
    · obtain rfl : s = 1 := by omega
      rw [if_neg (show ¬ nI 1 = 0 by decide), if_pos (show nI 1 = 1 from rfl), Option.bind_some, ladd (sC_RC x h.1) (by omega) l2 (by decide) (by omega) (show k < 6 by omega), Option.bind_some, q30.1, q30.2.2, l6 p k (by omega) (by omega), nI_add]
      refine ⟨_, rfl, x2 _ _, by rw [pI_ne (by omega)]; exact l1, by rw [pI_ne (by omega)]; exact l2, by rw [pI_ne (by omega)]; exact l3, by rw [pI_ne (by omega)]; exact l4, fun p' k' hp' hk' => ?_, fun p' k' hp' hk' => ?_, fun p' hp' => ?_, ?_, ?_, fun r hr => by rw [pI_ne (by omega)]; exact l10 r hr⟩
      · rw [pI_ne (by omega), bk_s (fun q => nI_ne (a := 1) (b := 0) (by omega) (by omega) (by omega) (s2.symm.trans q.1))]
        exact l5 p' k' hp' hk'
      · rw [pI_1]
        by_cases e : p' * 6 + k' = p * 6 + k
        · obtain rfl : p' = p := by omega
          obtain rfl : k' = k := by omega
          rw [if_pos ⟨rfl, rfl, rfl⟩, bk_a ⟨s2, p4, k3, hv⟩, ny]
        · rw [if_neg (fun q => e q.2.2), bk_s (fun q => ?_)]
          · exact l6 p' k' hp' hk'
          · have e1 := (nI_eq (by omega) (by omega)).mp (p4.symm.trans q.2.1)
            have e2 := (nI_eq (by omega) (by omega)).mp (k3.symm.trans q.2.2.1)
            subst e1; subst e2
            exact e rfl
      · rw [pI_ne (by omega), pI_ne (by omega), lkn, lkn]; exact l7 p' hp'
      · rw [pI_ne (by omega), lkn2]; exact l8
      · rw [pI_ne (by omega), lkn2]; exact l9
  · have : 2 = a := (nI_eq (by omega) (by omega)).mp (s2.symm.trans a2)
    subst this
    obtain ⟨b1, b2, b3⟩ := a5 rfl
    have b1' : hc.1 13 22 (m * 5) = nI p := b1.trans p4
    have b2' : hc.1 13 22 (m * 5 + 3) = nI w := b2.trans w3
    have b3' : hc.1 13 22 (m * 5 + 4) = nI z := b3.trans w4
    have nw : nv (mS hm) (552 + 4 * m) = w := nv_of w3 (by omega)
    have nz : nv (mS hm) (553 + 4 * m) = z := nv_of w4 (by omega)
    have bkn : ∀ s p' k', s < 2 → bk (mS hm) N s p' k' (m + 1) = bk (mS hm) N s p' k' m := fun s p' k' hs => bk_s (fun z => nI_ne (by omega) (by omega) (by omega) (s2.symm.trans z.1))
    have l7p := l7 p (by omega)
    rw [b1', b2', if_neg (show ¬ nI 2 = 0 by decide), if_neg (show ¬ nI 2 = 1 by decide), if_pos (show nI 2 = 2 from rfl)]
    have x1 : sC (sh_pI H 13 40 (p * 2) (nI (lk (mS hm) N 552 p m + w))) hc := sC.pI (by unfold scC; omega) x
    have A1 : f_Ledger_add 31 (nI p) 0 (nI w) H = some (sh_pI H 13 40 (p * 2) (nI (lk (mS hm) N 552 p m + w))) := (ladd (b := 0) (sC_RC x h.1) (by omega) l3 (by decide) (show p < 5 by omega) (by decide)).trans (by rw [q31.1, q31.2.2, Nat.add_zero, l7p.1, nI_add])
    have g4 : f_Rows_get 16 (nI m) 4 (sh_pI H 13 40 (p * 2) (nI (lk (mS hm) N 552 p m + w))) = _ := bget h x1 (q := 4) hn hn2 hm0 (by omega)
    have A2 : f_Ledger_add 31 (nI p) 1 (nI z) (sh_pI H 13 40 (p * 2) (nI (lk (mS hm) N 552 p m + w))) = some (sh_pI (sh_pI H 13 40 (p * 2) (nI (lk (mS hm) N 552 p m + w))) 13 40 (p * 2 + 1) (nI (lk (mS hm) N 553 p m + z))) := (ladd (b := 1) (sC_RC x1 h.1) (by omega) (by rw [pI_ne (by omega)]; exact l3) (by decide) (show p < 5 by omega) (by decide)).trans (by rw [q31.1, q31.2.2, pI_ne (by omega), l7p.2, nI_add])
    have x2 : sC (sh_pI (sh_pI H 13 40 (p * 2) (nI (lk (mS hm) N 552 p m + w))) 13 40 (p * 2 + 1) (nI (lk (mS hm) N 553 p m + z))) hc := sC.pI (by unfold scC; omega) x1
    have v8 : (sh_pI (sh_pI H 13 40 (p * 2) (nI (lk (mS hm) N 552 p m + w))) 13 40 (p * 2 + 1) (nI (lk (mS hm) N 553 p m + z))).1 3 0 4 + nI w = nI (lkA (mS hm) N 552 m + w) := by rw [pI_ne (by omega), pI_ne (by omega), l8, nI_add]
    have x3 : sC (sh_pI (sh_pI (sh_pI H 13 40 (p * 2) (nI (lk (mS hm) N 552 p m + w))) 13 40 (p * 2 + 1) (nI (lk (mS hm) N 553 p m + z))) 3 0 4 (nI (lkA (mS hm) N 552 m + w))) hc := sC.pI (by unfold scC; omega) x2
    have g5 : f_Rows_get 16 (nI m) 4 (sh_pI (sh_pI (sh_pI H 13 40 (p * 2) (nI (lk (mS hm) N 552 p m + w))) 13 40 (p * 2 + 1) (nI (lk (mS hm) N 553 p m + z))) 3 0 4 (nI (lkA (mS hm) N 552 m + w))) = _ := bget h x3 (q := 4) hn hn2 hm0 (by omega)
    have v9 : (sh_pI (sh_pI (sh_pI H 13 40 (p * 2) (nI (lk (mS hm) N 552 p m + w))) 13 40 (p * 2 + 1) (nI (lk (mS hm) N 553 p m + z))) 3 0 4 (nI (lkA (mS hm) N 552 m + w))).1 3 0 5 + nI z = nI (lkA (mS hm) N 553 m + z) := by rw [pI_ne (by omega), pI_ne (by omega), pI_ne (by omega), l9, nI_add]
    rw [A1, Option.bind_some, g4, Option.bind_some, b3', A2, Option.bind_some, v8, sh_let, g5, Option.bind_some, b3', v9, sh_let]
    have x4 := sC.pI (c := 3) (i := 0) (j := 5) (v := nI (lkA (mS hm) N 553 m + z)) (by unfold scC; omega) x3
    refine ⟨_, rfl, x4, ?_⟩
    unfold LD
    have ex : ∀ c i j, ¬ (c = 3 ∧ i = 0 ∧ (j = 4 ∨ j = 5)) → ¬ (c = 13 ∧ i = 40) → (sh_pI (sh_pI (sh_pI (sh_pI H 13 40 (p * 2) (nI (lk (mS hm) N 552 p m + w))) 13 40 (p * 2 + 1) (nI (lk (mS hm) N 553 p m + z))) 3 0 4 (nI (lkA (mS hm) N 552 m + w))) 3 0 5 (nI (lkA (mS hm) N 553 m + z))).1 c i j = H.1 c i j := fun c i j q1 q2 => by rw [pI_ne (by omega), pI_ne (by omega), pI_ne (by omega), pI_ne (by omega)]
    refine ⟨by rw [ex _ _ _ (by omega) (by omega)]; exact l1, by rw [ex _ _ _ (by omega) (by omega)]; exact l2, by rw [ex _ _ _ (by omega) (by omega)]; exact l3, by rw [ex _ _ _ (by omega) (by omega)]; exact l4, fun p' k' hp' hk' => ?_, fun p' k' hp' hk' => ?_, fun p' hp' => ?_, ?_, ?_, fun r hr => by rw [ex _ _ _ (by omega) (by omega)]; exact l10 r hr⟩
    · rw [ex _ _ _ (by omega) (by omega), bkn 0 p' k' (by omega)]; exact l5 p' k' hp' hk'
    · rw [ex _ _ _ (by omega) (by omega), bkn 1 p' k' (by omega)]; exact l6 p' k' hp' hk'
    · by_cases e : p' = p
      · subst e
        simp (disch := omega) only [pI_ne, pI_at]
        rw [lk_a ⟨s2, p4, hv⟩, lk_a ⟨s2, p4, hv⟩, nw, nz]
        exact ⟨rfl, rfl⟩
      · simp (disch := omega) only [pI_ne]
        rw [lk_s (fun q => nI_ne (fun z => e z.symm) (by omega) (by omega) (p4.symm.trans q.2.1)), lk_s (fun q => nI_ne (fun z => e z.symm) (by omega) (by omega) (p4.symm.trans q.2.1))]
        exact l7 p' hp'
    · rw [pI_ne (by omega), pI_at, lkA_a ⟨s2, hv⟩, nw]
    · rw [pI_at, lkA_a ⟨s2, hv⟩, nz]
  · have : 3 = a := (nI_eq (by omega) (by omega)).mp (s2.symm.trans a2)
    subst this
    rw [if_neg (show ¬ nI 3 = 0 by decide), if_neg (show ¬ nI 3 = 1 by decide), if_neg (show ¬ nI 3 = 2 by decide)]
    have n0 := fun s (hs : s < 3) => nI_ne (a := 3) (b := s) (by omega) (by omega) (by omega)
    refine ⟨H, rfl, x, l1, l2, l3, l4, fun p' k' hp' hk' => ?_, fun p' k' hp' hk' => ?_, fun p' hp' => ?_, ?_, ?_, l10⟩
    · rw [bk_s (fun q => n0 0 (by omega) (s2.symm.trans q.1))]; exact l5 p' k' hp' hk'
    · rw [bk_s (fun q => n0 1 (by omega) (s2.symm.trans q.1))]; exact l6 p' k' hp' hk'
    · rw [lk_s (fun q => n0 2 (by omega) (s2.symm.trans q.1)), lk_s (fun q => n0 2 (by omega) (s2.symm.trans q.1))]; exact l7 p' hp'
    · rw [lkA_s (fun q => n0 2 (by omega) (s2.symm.trans q.1))]; exact l8
    · rw [lkA_s (fun q => n0 2 (by omega) (s2.symm.trans q.1))]; exact l9
theorem C_know2 {c : Nat} {hc hm : sh_H} (h : St c hc hm) {n0 n : Nat} (hn : mS hm 8 = nI n0) (hn2 : n0 ≤ 60) (hnn : n ≤ n0) : ∀ (k i u : Nat) (H : sh_H), i + k = n → k < u → sC H hc → LD H (mS hm) n i n → ∃ E, f_Ledger_know_l86 NF u 16 (nI n) (nI i) H = some E ∧ sC E hc ∧ LD E (mS hm) n n n := by
  intro k
  obtain ⟨m, m0, m1, m2, -⟩ := St_b h
  have hmn : m = n0 := (nI_eq (by omega) (by omega)).mp (m2.symm.trans hn)
  subst hmn
  induction k with
  | zero =>
    intro i u H e1 e2 x hL
    obtain ⟨u, rfl⟩ : ∃ m, u = m + 1 := ⟨u - 1, by omega⟩
    obtain rfl : i = n := by omega
    show ∃ E, f_Ledger_know_c86 NF (f_Ledger_know_l86 NF u) 16 (nI i) (nI i) H = some E ∧ _
    unfold f_Ledger_know_c86
    rw [if_neg (nI_nlt (by omega) (by omega))]
    exact ⟨H, rfl, x, hL⟩
  | succ k ih =>
    intro i u H e1 e2 x hL
    obtain ⟨u, rfl⟩ : ∃ m, u = m + 1 := ⟨u - 1, by omega⟩
    show ∃ E, f_Ledger_know_c86 NF (f_Ledger_know_l86 NF u) 16 (nI n) (nI i) H = some E ∧ _
    unfold f_Ledger_know_c86 f_Rows_size f_Ledger_know_b117
    have z : H.1 6 16 3 = nI m := by rw [x.1 6 16 3 (by unfold scC; omega)]; exact m1
    have g : f_Rows_get 32 (nI i) 0 H = some (H.1 13 41 (i * 1 + 0)) := (rows_get (r := 32) (b := 0) (sC_RC x h.1) (by omega) hL.2.2.2.1 (show 60 ≤ 60 by omega) (show i < 2 ^ 31 by omega) (by omega)).trans (by rw [if_pos ⟨by omega, by decide⟩]; rfl)
    rw [if_pos (nI_lt (by omega) (by omega)), z, Option.bind_some, if_pos (nI_lt (by omega) (by omega)), g, Option.bind_some, nI_1, show i * 1 + 0 = i by omega, hL.2.2.2.2.2.2.2.2.2 i (by omega)]
    cases hv : vdd (mS hm) i n with
    | false =>
      rw [if_neg (show ¬ false = true by decide), if_pos rfl]
      obtain ⟨E, E1, E2, E3⟩ := C_enter h hn hn2 (by omega) x hL hv
      rw [E1, Option.bind_some]
      exact ih (i + 1) u E (by omega) (by omega) E2 E3
    | true =>
      rw [if_pos rfl, if_neg q_10]
      obtain ⟨l1, l2, l3, l4, l5, l6, l7, l8, l9, l10⟩ := hL
      have nf : ¬ vdd (mS hm) i n = false := by rw [hv]; decide
      refine ih (i + 1) u H (by omega) (by omega) x ⟨l1, l2, l3, l4, fun p' k' hp' hk' => ?_, fun p' k' hp' hk' => ?_, fun p' hp' => ?_, ?_, ?_, l10⟩
      · rw [bk_s (fun q => nf q.2.2.2)]; exact l5 p' k' hp' hk'
      · rw [bk_s (fun q => nf q.2.2.2)]; exact l6 p' k' hp' hk'
      · rw [lk_s (fun q => nf q.2.2), lk_s (fun q => nf q.2.2)]; exact l7 p' hp'
      · rw [lkA_s (fun q => nf q.2)]; exact l8
      · rw [lkA_s (fun q => nf q.2)]; exact l9
theorem C_know {c : Nat} {hc hm : sh_H} (h : St c hc hm) {n0 n : Nat} (hn : mS hm 8 = nI n0) (hn2 : n0 ≤ 60) (hnn : n ≤ n0) : ∃ E, f_Ledger_know NF 16 (nI n) hc = some E ∧ sC E hc ∧ LD E (mS hm) n n n := by
  obtain ⟨H, H1, H2, H3⟩ := LD_0 h.1 (sC.rf hc) (mS hm) n
  obtain ⟨E, E1, E2, E3⟩ := C_know1 h hn hn2 hnn n n 0 NF H (f_Ledger_know_b84 NF) (by omega) (NF_gt (by omega)) H2 H3 (fun G x hL => by
    unfold f_Ledger_know_b84
    exact C_know2 h hn hn2 hnn n 0 NF G (by omega) (NF_gt (by omega)) x hL)
  refine ⟨E, ?_, E2, E3⟩
  have e : f_Ledger_know NF 16 (nI n) hc = Option.bind (Option.bind (f_Rows_zero NF 29 hc) (fun h8 => Option.bind (f_Rows_zero NF 30 h8) (fun h9 => Option.bind (f_Rows_zero NF 31 h9) (fun h10 => Option.bind (f_Rows_zero NF 32 h10) (fun h11 => some (sh_pI (sh_pI h11 3 0 4 0) 3 0 5 0)))))) (fun h13 => f_Ledger_know_l40 NF (f_Ledger_know_b84 NF) NF 16 (nI n) 0 h13) := by
    unfold f_Ledger_know
    simp only [Option.bind_assoc, Option.bind_some, sh_let]
  rw [e, H1, Option.bind_some]
  exact E1
