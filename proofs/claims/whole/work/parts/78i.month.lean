/-! PAIR: months: the sendings' loop, a month, the months -/
theorem b135_k (k : Int32 → Int32 → Int32 → sh_H → Option sh_H) (a b c x y z : Int32) (h : sh_H) : f_M_sends_b135 NF k a b c x y z h = f_M_sends_b135 NF (fun _ _ _ H => k a b (c + 1) H) a b c x y z h := by
  unfold f_M_sends_b135 f_M_sends_b213 f_M_sends_b227 f_M_sends_b238 f_M_sends_b261
  rfl
theorem LK_sends {c : Nat} {hc hm : sh_H} (hc5 : c ≤ 512) {n t : Nat} (hn : mS hm 7 = nI n) (n4 : n ≤ 40) (ht : mS hm 9 = nI t) (ht2 : t ≤ 240) (sd : Int32) (KA : Nat → Nat → sh_H → Option sh_H) (KB : Int32 → sh_H → Option sh_H) : ∀ (q i u v : Nat) (L : Nat → Nat) (H G : sh_H), i + q = n → q < u → q < v → SI c hc hm (t % 12) H G L → ∃ H' G' L', f_Calendar_sail_l10 NF KA u hc.2.2.1 0 sd (nI i) H = KA hc.2.2.1 0 H' ∧ f_M_sends_l22 NF KB v sd (nI t) (nI i) G = KB (nI t) G' ∧ SI c hc hm (t % 12) H' G' L' := by
  have j7 : ai_in (7 : Int32) 8000 := in8 (k := 7) (by omega)
  intro q
  induction q with
  | zero =>
    intro i u v L H G e1 e2 e3 x
    obtain ⟨u, rfl⟩ : ∃ m, u = m + 1 := ⟨u - 1, by omega⟩
    obtain ⟨v, rfl⟩ : ∃ m, v = m + 1 := ⟨v - 1, by omega⟩
    have g7 : mS G 7 = nI n := (x.1.2.2.2.2.2 7 (by omega)).trans hn
    obtain ⟨n', m1, m2, m3, -⟩ := St_sd x.1.1
    obtain rfl : n' = n := (nI_eq (by omega) (by omega)).mp (m2.symm.trans g7)
    refine ⟨H, G, L, ?_, ?_, x⟩
    · show f_Calendar_sail_c10 NF KA (f_Calendar_sail_l10 NF KA u) hc.2.2.1 0 sd (nI i) H = _
      unfold f_Calendar_sail_c10 f_Rows_size
      rw [show (4 * 0 + 15 : Nat) = 15 from rfl, m3, Option.bind_some, if_neg (nI_nlt (by omega) (by omega))]
    · show f_M_sends_c22 NF KB (f_M_sends_l22 NF KB v) sd (nI t) (nI i) G = _
      unfold f_M_sends_c22
      rw [if_pos j7, show G.1 13 46 (7 : Int32).toNatClampNeg = nI n' from g7, if_neg (nI_nlt (by omega) (by omega))]
  | succ q ih =>
    intro i u v L H G e1 e2 e3 x
    obtain ⟨u, rfl⟩ : ∃ m, u = m + 1 := ⟨u - 1, by omega⟩
    obtain ⟨v, rfl⟩ : ∃ m, v = m + 1 := ⟨v - 1, by omega⟩
    have g7 : mS G 7 = nI n := (x.1.2.2.2.2.2 7 (by omega)).trans hn
    have g9 : mS G 9 = nI t := (x.1.2.2.2.2.2 9 (by omega)).trans ht
    obtain ⟨n', m1, m2, m3, m4⟩ := St_sd x.1.1
    obtain rfl : n' = n := (nI_eq (by omega) (by omega)).mp (m2.symm.trans g7)
    have hi : i < n' := by omega
    obtain ⟨S, -, -, s2, -⟩ := m4 i hi
    have t1 := S.t1
    obtain ⟨a0, a1, a2, a3, a4, a5⟩ := sd_a (i := i)
    obtain ⟨v0, v1, -⟩ := sd_m (hm := G) (H := G) (fun _ => rfl) S (by omega)
    have ti : H.1 7 0 4 = nI t := ((rSt_0 x.1.1).2.2.2.2.1).trans g9
    have kk : f_M_sends_b135 NF (f_M_sends_l22 NF KB v) sd (nI t) (nI i) = f_M_sends_b135 NF (fun _ _ _ H => f_M_sends_l22 NF KB v sd (nI t) (nI (i + 1)) H) sd (nI t) (nI i) := by
      funext x y z h
      rw [← nI_1]
      exact b135_k _ _ _ _ _ _ _ _
    by_cases et : sT (mS G) i = t
    · obtain ⟨H', G', L', e4, e5, x'⟩ := LK_send1 hc5 sd x g7 n4 hi et (fun h => f_Calendar_sail_l10 NF KA u hc.2.2.1 0 sd (nI (i + 1)) h) (fun h => f_M_sends_l22 NF KB v sd (nI t) (nI (i + 1)) h) sd (nI t) (nI i)
      obtain ⟨H2, G2, L2, i1, i2, i3⟩ := ih (i + 1) u v L' H' G' (by omega) (by omega) (by omega) x'
      refine ⟨H2, G2, L2, Eq.trans ?_ (e4.trans i1), Eq.trans ?_ (e5.trans i2), i3⟩
      · show f_Calendar_sail_c10 NF KA (f_Calendar_sail_l10 NF KA u) hc.2.2.1 0 sd (nI i) H = _
        unfold f_Calendar_sail_c10 f_Rows_size f_Calendar_sail_b90
        rw [show (4 * 0 + 15 : Nat) = 15 from rfl, m3, Option.bind_some, if_pos (nI_lt (by omega) (by omega)), s2, Option.bind_some, S.t, ti, if_pos (by rw [et]), nI_1]
      · show f_M_sends_c22 NF KB (f_M_sends_l22 NF KB v) sd (nI t) (nI i) G = _
        unfold f_M_sends_c22
        rw [if_pos j7, show G.1 13 46 (7 : Int32).toNatClampNeg = nI n' from g7, if_pos (nI_lt (by omega) (by omega)), a0, if_pos (in8 (by omega)), v0, if_pos (by rw [et]), a1, if_pos (in8 (by omega)), v1, if_pos n12, q_m12 (by omega), kk]
        simp only [n12, not_false_eq_true, if_true]
    · obtain ⟨H2, G2, L2, i1, i2, i3⟩ := ih (i + 1) u v L H G (by omega) (by omega) (by omega) x
      have ne : ¬ nI (sT (mS G) i) = nI t := fun z => et ((nI_eq (by omega) (by omega)).mp z)
      refine ⟨H2, G2, L2, Eq.trans ?_ i1, Eq.trans ?_ i2, i3⟩
      · show f_Calendar_sail_c10 NF KA (f_Calendar_sail_l10 NF KA u) hc.2.2.1 0 sd (nI i) H = _
        unfold f_Calendar_sail_c10 f_Rows_size f_Calendar_sail_b90
        rw [show (4 * 0 + 15 : Nat) = 15 from rfl, m3, Option.bind_some, if_pos (nI_lt (by omega) (by omega)), s2, Option.bind_some, S.t, ti, if_neg ne, nI_1]
      · show f_M_sends_c22 NF KB (f_M_sends_l22 NF KB v) sd (nI t) (nI i) G = _
        unfold f_M_sends_c22 f_M_sends_b261
        rw [if_pos j7, show G.1 13 46 (7 : Int32).toNatClampNeg = nI n' from g7, if_pos (nI_lt (by omega) (by omega)), a0, if_pos (in8 (by omega)), v0, if_neg ne, nI_1]
theorem M_sends0 (K : Int32 → Int32 → sh_H → Option sh_H) (a b : Int32) (hm : sh_H) : ∀ (q i u : Nat) (H : sh_H), i + q = 5 → q < u → sM H hm → (∀ p, p < i → H.1 13 52 p = 0) → ∃ G, f_M_sends_l2 NF K u a b (nI i) H = K a b G ∧ sM G hm ∧ ∀ p, p < 5 → G.1 13 52 p = 0 := by
  intro q
  induction q with
  | zero =>
    intro i u H e1 e2 x z
    obtain ⟨u, rfl⟩ : ∃ m, u = m + 1 := ⟨u - 1, by omega⟩
    refine ⟨H, ?_, x, fun p hp => z p (by omega)⟩
    show f_M_sends_c2 NF K (f_M_sends_l2 NF K u) a b (nI i) H = _
    unfold f_M_sends_c2
    rw [if_neg (show ¬ nI i < (5 : Int32) from nI_nlt (b := 5) (by omega) (by omega))]
  | succ q ih =>
    intro i u H e1 e2 x z
    obtain ⟨u, rfl⟩ : ∃ m, u = m + 1 := ⟨u - 1, by omega⟩
    obtain ⟨G, g1, g2, g3⟩ := ih (i + 1) u (sh_pI H 13 52 i 0) (by omega) (by omega) (x.pI (by unfold scM; omega)) (fun p hp => by
      rw [pI_1]
      by_cases e : p = i
      · rw [if_pos ⟨rfl, rfl, e⟩]
      · rw [if_neg (fun w => e w.2.2)]; exact z p (by omega))
    refine ⟨G, ?_, g2, g3⟩
    show f_M_sends_c2 NF K (f_M_sends_l2 NF K u) a b (nI i) H = _
    unfold f_M_sends_c2
    rw [if_pos (show nI i < (5 : Int32) from nI_lt (b := 5) (by omega) (by omega)), if_pos (q_in (by omega) (by omega)), q_cl (by omega), sh_let, nI_1]
    exact g1
theorem LK_sail {c : Nat} {hc hm : sh_H} (h : St c hc hm) (hc5 : c ≤ 512) {t : Nat} (ht : mS hm 9 = nI t) (ht2 : t ≤ 240) (sd : Int32) : ∃ hc' hm', f_Calendar_sail NF hc.2.2.1 0 sd hc = some hc' ∧ f_M_sends NF sd (nI t) hm = some hm' ∧ LK c hc hm hc' hm' := by
  obtain ⟨n, n4, hn, -⟩ := St_sd h
  obtain ⟨nb, n12', hb, -⟩ := (St_T h).2.2.2.2.2.2
  obtain ⟨E, E1, E2, -, E4⟩ := C_zero h.1 (sC.rf hc)
  obtain ⟨G, G1, G2, G3⟩ := M_sends0 (f_M_sends_b20 NF) sd (nI t) hm 5 0 NF hm rfl (NF_gt (by omega)) (sM.rf hm) (fun p hp => absurd hp (by omega))
  have l0 := LK.sc h E2 G2
  have si : SI c hc hm (t % 12) E G (fun _ => 0) := ⟨l0, E4 _ _, fun p hp => G3 p hp, fun _ _ => Nat.zero_le _, fun p hp z => absurd z (Nat.lt_irrefl 0)⟩
  obtain ⟨H', G', L', s1, s2, l1, lr, ml, hL, hbo⟩ := LK_sends hc5 hn n4 ht ht2 sd (f_Calendar_sail_b96 NF) (f_M_sends_b267 NF) n 0 NF NF (fun _ => 0) E G (by omega) (NF_gt (by omega)) (NF_gt (by omega)) si
  have hb' : mS G' 6 = nI nb := (l1.2.2.2.2.2 6 (by omega)).trans hb
  have cc := C_costs l1.1 hL lr hb' n12'
  rw [l1.tx] at cc
  have mc := M_costs l1.1 ht2 hL ml hbo hb' n12'
  rw [← cost_eq (St_T l1.1) hb' n12' nb (Nat.le_refl _)] at mc
  have e6 : H'.2.1 7 0 6 = G'.2.1 14 6 1 := (rSt_0 l1.1).2.2.2.2.2.2.1
  rw [e6] at cc
  refine ⟨_, _, ?_, ?_, l1.tr (LK.J l1.1 (j := 1) (by omega) (G'.2.1 14 6 1 + lN (sumN (gB (mS G') (t % 12) L') nb)))⟩
  · unfold f_Calendar_sail
    rw [E1, Option.bind_some]
    exact s1.trans cc
  · unfold f_M_sends
    refine G1.trans ?_
    unfold f_M_sends_b20
    exact s2.trans mc
/-- k months more -/
theorem months_loop {c : Nat} {hc hm : sh_H} (hc5 : c ≤ 512) (sd : Int32) (k : Nat) (hk : k ≤ 24) : ∀ (q i u v t : Nat) (x : Int32) (H G : sh_H), i + q = k → t + q ≤ 240 → q < u → q < v → St c H G → H.2.2 = hc.2.2 → mEq H hc → cEq G hm → xEq G hm → mS G 9 = nI t → ∃ r H' G', f_CB_months_l32 NF u sd (nI k) x (nI i) H = some (r, H') ∧ f_M_months_l32 NF v sd (nI k) x (nI i) G = some (r, G') ∧ St c H' G' ∧ mEq H' hc ∧ cEq G' hm ∧ xEq G' hm := by
  have j9 : ai_in (9 : Int32) 8000 := in8 (k := 9) (by omega)
  intro q
  induction q with
  | zero =>
    intro i u v t x H G e1 e2 e3 e4 S x1 x2 x3 x4 ht
    obtain ⟨u, rfl⟩ : ∃ m, u = m + 1 := ⟨u - 1, by omega⟩
    obtain ⟨v, rfl⟩ : ∃ m, v = m + 1 := ⟨v - 1, by omega⟩
    refine ⟨x, H, G, ?_, ?_, S, x2, x3, x4⟩
    · show f_CB_months_c32 NF (f_CB_months_l32 NF u) sd (nI k) x (nI i) H = _
      unfold f_CB_months_c32
      rw [if_neg (nI_nlt (by omega) (by omega))]
    · show f_M_months_c32 NF (f_M_months_l32 NF v) sd (nI k) x (nI i) G = _
      unfold f_M_months_c32
      rw [if_neg (nI_nlt (by omega) (by omega))]
  | succ q ih =>
    intro i u v t x H G e1 e2 e3 e4 S x1 x2 x3 x4 ht
    obtain ⟨u, rfl⟩ : ∃ m, u = m + 1 := ⟨u - 1, by omega⟩
    obtain ⟨v, rfl⟩ : ∃ m, v = m + 1 := ⟨v - 1, by omega⟩
    have tm : ∀ {H' G' : sh_H}, LK c H G H' G' → mS G' 9 = nI t := fun l => (l.2.2.2.2.2 9 (by omega)).trans ht
    obtain ⟨H1, G1, a1, a2, a3⟩ := LK_sail S hc5 ht (by omega) sd
    obtain ⟨H2, G2, b1, b2, b3⟩ := LK_flow a3.1 hc5 (tm a3) (by omega) sd
    have l2 := a3.tr b3
    obtain ⟨H3, G3, c1, c2, c3⟩ := LK_wear l2.1 hc5 (tm l2) (by omega)
    have l3 := l2.tr c3
    obtain ⟨H4, G4, d1, d2, d3⟩ := LK_lose l3.1 hc5 (tm l3) (by omega)
    have l4 := l3.tr d3
    obtain ⟨r, H5, G5, f1, f2, f3⟩ := LK_lack l4.1 hc5 (tm l4) (by omega)
    have l5 := l4.tr f3
    have t5 : mS G5 9 = nI t := tm l5
    have h5 : H5.1 7 0 4 = nI t := ((rSt_0 l5.1).2.2.2.2.1).trans t5
    rw [a3.tx] at b1
    rw [l2.tx] at c1
    rw [l3.tx] at d1
    rw [l4.tx] at f1
    obtain ⟨r', H', G', g1, g2, g3⟩ := ih (i + 1) u v (t + 1) (x + r) (sh_pI H5 7 0 4 (nI (t + 1))) (sh_pI G5 13 46 9 (nI (t + 1))) (by omega) (by omega) (by omega) (by omega) (St_tm1 l5.1 (by omega)) (l5.2.1.trans x1) (mEq_pI (by decide) (l5.2.2.1.tr x2)) (cEq_pI (by decide) (l5.2.2.2.1.tr x3)) (xEq_pI (by decide) (l5.2.2.2.2.1.tr x4)) (pI_at _ _ _ _ _)
    refine ⟨r', H', G', ?_, ?_, g3⟩
    · show f_CB_months_c32 NF (f_CB_months_l32 NF u) sd (nI k) x (nI i) H = _
      unfold f_CB_months_c32 f_Calendar_pass
      rw [if_pos (nI_lt (by omega) (by omega)), a1, Option.bind_some, b1, Option.bind_some, c1, Option.bind_some, d1, Option.bind_some, f1, sh_b2_some, sh_let, sh_b2_some, h5, nI_1, nI_1]
      exact g1
    · show f_M_months_c32 NF (f_M_months_l32 NF v) sd (nI k) x (nI i) G = _
      unfold f_M_months_c32
      rw [if_pos (nI_lt (by omega) (by omega)), if_pos j9, show G.1 13 46 (9 : Int32).toNatClampNeg = nI t from ht, a2, Option.bind_some, b2, Option.bind_some, c2, Option.bind_some, d2, Option.bind_some, f2, sh_b2_some, if_pos j9, if_pos j9, sh_let, show G5.1 13 46 (9 : Int32).toNatClampNeg = nI t from t5, nI_1, nI_1]
      exact g2
theorem P_months (a1 a2 : Int32) : Pair (f_CB_months NF a1 a2) (f_M_months NF a1 a2) := by
  intro c hc hm hc5 h
  have j9 : ai_in (9 : Int32) 8000 := in8 (k := 9) (by omega)
  obtain ⟨t, t1, t2⟩ := St_tm h
  have h4 : hc.1 7 0 4 = nI t := ((rSt_0 h).2.2.2.2.1).trans t2
  unfold f_CB_months f_M_months
  rw [CB_within, M_isIn, Option.bind_some, Option.bind_some]
  by_cases c2 : q_within a2 1 24 = 0
  · rw [if_pos c2, if_pos c2]
    exact fin (-1) rfl rfl h (mEq.rf _) (cEq.rf _) (xEq.rf _)
  · obtain ⟨k, k1, k2, rfl⟩ := q_within_in (a := 1) (b := 24) (by omega) (by omega) c2
    rw [if_neg c2, if_neg c2, if_pos j9, show hm.1 13 46 (9 : Int32).toNatClampNeg = nI t from t2, h4, nI_add]
    by_cases c3 : 240 < t + k
    · rw [if_pos (show (240 : Int32) < nI (t + k) from nI_lt (a := 240) (by omega) (by omega)), if_pos (show (240 : Int32) < nI (t + k) from nI_lt (a := 240) (by omega) (by omega))]
      exact fin (-1) rfl rfl h (mEq.rf _) (cEq.rf _) (xEq.rf _)
    · rw [if_neg (show ¬ (240 : Int32) < nI (t + k) from nI_nlt (a := 240) (by omega) (by omega)), if_neg (show ¬ (240 : Int32) < nI (t + k) from nI_nlt (a := 240) (by omega) (by omega))]
      obtain ⟨r, H', G', g1, g2, g3, g4, g5, g6⟩ := months_loop (c := c) (hc := hc) (hm := hm) (by omega) a1 k k2 k 0 NF NF t 0 hc hm (by omega) (by omega) (NF_gt (by omega)) (NF_gt (by omega)) h rfl (mEq.rf _) (cEq.rf _) (xEq.rf _) t2
      exact fin r g1 g2 g3 g4 g5 g6
