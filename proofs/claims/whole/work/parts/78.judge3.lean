/-! PAIRS: judge, why: the model -/
def tK (E H : sh_H) : Prop := (∀ c i j, ¬ (c = 13 ∧ i = 53) → E.1 c i j = H.1 c i j) ∧ E.2 = H.2
theorem tK.s {E H : sh_H} (x : tK E H) : sM E H := ⟨fun c i j n => x.1 c i j (fun q => n (by unfold scM; omega)), fun _ _ _ _ => by rw [x.2], by rw [x.2]⟩
theorem tK.pI {E H : sh_H} {j : Nat} {v : Int32} (x : tK E H) : tK (sh_pI E 13 53 j v) H := by
  refine ⟨fun c i j' n => ?_, x.2⟩
  rw [pI_ne (fun z => n ⟨z.1, z.2.1⟩)]
  exact x.1 c i j' n
theorem M_layTills {c : Nat} {hc hm H0 : sh_H} (h : St c hc hm) (hc5 : c ≤ 512) (x0 : sM H0 hm) : ∃ E, f_M_layTills NF H0 = some E ∧ tK E H0 ∧ ∀ j, j < 30 → E.1 13 53 j = nI (tl0 (mS hm) j) := by
  have inn : ∀ (K : Int32 → sh_H → Option sh_H) (p : Nat), p < 5 → ∀ (q k u : Nat) (H : sh_H), k + q = 6 → q < u → tK H H0 → (∀ j, j < 6 * p + k → H.1 13 53 j = nI (tl0 (mS hm) j)) → ∃ E, f_M_layTills_l9 NF K u (nI p) (nI k) H = K (nI p) E ∧ tK E H0 ∧ ∀ j, j < 6 * (p + 1) → E.1 13 53 j = nI (tl0 (mS hm) j) := by
    intro K p hp q
    induction q with
    | zero =>
      intro k u H e1 e2 x dn
      obtain ⟨u, rfl⟩ : ∃ m, u = m + 1 := ⟨u - 1, by omega⟩
      obtain rfl : k = 6 := by omega
      refine ⟨H, ?_, x, fun j hj => dn j (by omega)⟩
      show f_M_layTills_c9 NF K (f_M_layTills_l9 NF K u) (nI p) (nI 6) H = _
      unfold f_M_layTills_c9
      rw [if_neg (show ¬ nI 6 < 6 by decide)]
    | succ q ih =>
      intro k u H e1 e2 x dn
      obtain ⟨u, rfl⟩ : ∃ m, u = m + 1 := ⟨u - 1, by omega⟩
      show ∃ E, f_M_layTills_c9 NF K (f_M_layTills_l9 NF K u) (nI p) (nI k) H = _ ∧ _
      unfold f_M_layTills_c9
      have ei : (6 : Int32) * nI p + nI k = nI (6 * p + k) := by rw [show (6 : Int32) = nI 6 from rfl, q_mul, nI_add]
      rw [if_pos (show nI k < 6 from nI_lt (b := 6) (by omega) (by omega)), M_all' (St_S h) hc5 (x.s.tr x0) hp (by omega), Option.bind_some, ei, if_pos (q_in (k := 6 * p + k) (n := 30) (by omega) (by omega)), sh_let, q_cl (by omega), nI_1]
      refine ih (k + 1) u _ (by omega) (by omega) x.pI (fun j hj => ?_)
      by_cases z : j = 6 * p + k
      · rw [z, pI_at]
        unfold tl0
        rw [show (6 * p + k) / 6 = p by omega, show (6 * p + k) % 6 = k by omega]
      · rw [pI_ne (by omega)]; exact dn j (by omega)
  have out : ∀ (q p u : Nat) (H : sh_H), p + q = 5 → q < u → tK H H0 → (∀ j, j < 6 * p → H.1 13 53 j = nI (tl0 (mS hm) j)) → ∃ E, f_M_layTills_l2 NF u (nI p) H = some E ∧ tK E H0 ∧ ∀ j, j < 30 → E.1 13 53 j = nI (tl0 (mS hm) j) := by
    intro q
    induction q with
    | zero =>
      intro p u H e1 e2 x dn
      obtain ⟨u, rfl⟩ : ∃ m, u = m + 1 := ⟨u - 1, by omega⟩
      obtain rfl : p = 5 := by omega
      refine ⟨H, ?_, x, fun j hj => dn j (by omega)⟩
      show f_M_layTills_c2 NF (f_M_layTills_l2 NF u) (nI 5) H = _
      unfold f_M_layTills_c2
      rw [if_neg (show ¬ nI 5 < 5 by decide)]
    | succ q ih =>
      intro p u H e1 e2 x dn
      obtain ⟨u, rfl⟩ : ∃ m, u = m + 1 := ⟨u - 1, by omega⟩
      show ∃ E, f_M_layTills_c2 NF (f_M_layTills_l2 NF u) (nI p) H = _ ∧ _
      unfold f_M_layTills_c2
      obtain ⟨E, E1, E2, E3⟩ := inn (f_M_layTills_b38 NF (f_M_layTills_l2 NF u)) p (by omega) 6 0 NF H (by omega) (NF_gt (by omega)) x (fun j hj => dn j (by omega))
      rw [if_pos (show nI p < 5 from nI_lt (b := 5) (by omega) (by omega)), show f_M_layTills_l9 NF (f_M_layTills_b38 NF (f_M_layTills_l2 NF u)) NF (nI p) 0 H = _ from E1]
      unfold f_M_layTills_b38
      rw [nI_1]
      exact ih (p + 1) u E (by omega) (by omega) E2 E3
  unfold f_M_layTills
  exact out 5 0 NF H0 (by omega) (NF_gt (by omega)) ⟨fun _ _ _ _ => rfl, rfl⟩ (fun j hj => absurd hj (by omega))
/-- only the loads and the tills -/
def mK (E H : sh_H) : Prop := (∀ c i j, ¬ (c = 13 ∧ (i = 52 ∨ i = 53)) → E.1 c i j = H.1 c i j) ∧ E.2 = H.2
theorem mK.tr {a b c : sh_H} (x : mK a b) (y : mK b c) : mK a c := ⟨fun c i j h => (x.1 c i j h).trans (y.1 c i j h), x.2.trans y.2⟩
theorem mK.s {E H : sh_H} (x : mK E H) : sM E H := ⟨fun c i j n => x.1 c i j (fun q => n (by unfold scM; omega)), fun _ _ _ _ => by rw [x.2], by rw [x.2]⟩
theorem mK.p2 {E H : sh_H} {j : Nat} {v : Int32} (x : mK E H) : mK (sh_pI E 13 52 j v) H := by
  refine ⟨fun c i j' n => ?_, x.2⟩
  rw [pI_ne (fun z => n ⟨z.1, Or.inl z.2.1⟩)]
  exact x.1 c i j' n
theorem mK.p3 {E H : sh_H} {j : Nat} {v : Int32} (x : mK E H) : mK (sh_pI E 13 53 j v) H := by
  refine ⟨fun c i j' n => ?_, x.2⟩
  rw [pI_ne (fun z => n ⟨z.1, Or.inr z.2.1⟩)]
  exact x.1 c i j' n
theorem ML_T {H : sh_H} {L T : Nat → Nat} {a v : Nat} (ml : ML H L T) : ML (sh_pI H 13 53 a (nI v)) L (up0 T a v) := by
  refine ⟨fun p hp => (pI_ne (by omega)).trans (ml.1 p hp), fun j hj => ?_⟩
  by_cases z : j = a
  · rw [z, pI_at, show up0 T a v a = v from if_pos rfl]
  · rw [pI_ne (by omega), show up0 T a v j = T j from if_neg z]
    exact ml.2 j hj
theorem ML_L {H : sh_H} {L T : Nat → Nat} {a v : Nat} (ml : ML H L T) : ML (sh_pI H 13 52 a (nI v)) (up0 L a v) T := by
  refine ⟨fun p hp => ?_, fun j hj => (pI_ne (by omega)).trans (ml.2 j hj)⟩
  by_cases z : p = a
  · rw [z, pI_at, show up0 L a v a = v from if_pos rfl]
  · rw [pI_ne (by omega), show up0 L a v p = L p from if_neg z]
    exact ml.1 p hp
theorem sd_a {i : Nat} : (310 : Int32) + 6 * nI i = nI (310 + 6 * i) ∧ nI (310 + 6 * i) + 1 = nI (311 + 6 * i) ∧ nI (310 + 6 * i) + 2 = nI (312 + 6 * i) ∧ nI (310 + 6 * i) + 3 = nI (313 + 6 * i) ∧ nI (310 + 6 * i) + 4 = nI (314 + 6 * i) ∧ nI (310 + 6 * i) + 5 = nI (315 + 6 * i) := by
  refine ⟨by rw [show (310 : Int32) = nI 310 from rfl, show (6 : Int32) = nI 6 from rfl, q_mul, nI_add], ?_, ?_, ?_, ?_, ?_⟩
  · rw [nI_1]; congr 1; omega
  · rw [show (2 : Int32) = nI 2 from rfl, nI_add]; congr 1; omega
  · rw [show (3 : Int32) = nI 3 from rfl, nI_add]; congr 1; omega
  · rw [show (4 : Int32) = nI 4 from rfl, nI_add]; congr 1; omega
  · rw [show (5 : Int32) = nI 5 from rfl, nI_add]; congr 1; omega
/-- what is read of a sending in the model -/
theorem sd_m {hm H : sh_H} (x : ∀ k, mS H k = mS hm k) {i : Nat} (sd : SD (mS hm) i) (hi : i < 40) : H.1 13 46 (nI (310 + 6 * i)).toNatClampNeg = nI (sT (mS hm) i) ∧ H.1 13 46 (nI (311 + 6 * i)).toNatClampNeg = nI (sP (mS hm) i) ∧ H.1 13 46 (nI (312 + 6 * i)).toNatClampNeg = nI (sK (mS hm) i) ∧ H.1 13 46 (nI (313 + 6 * i)).toNatClampNeg = nI (sN (mS hm) i) ∧ H.1 13 46 (nI (314 + 6 * i)).toNatClampNeg = nI (sB (mS hm) i) := by
  refine ⟨?_, ?_, ?_, ?_, ?_⟩ <;> rw [cl8 (by omega)]
  · exact (x _).trans sd.t
  · exact (x _).trans sd.p
  · exact (x _).trans sd.k
  · exact (x _).trans sd.n
  · exact (x _).trans sd.b
theorem kd_m {k : Nat} : (20 : Int32) + 3 * nI k + 1 = nI (21 + 3 * k) := by rw [show (20 : Int32) = nI 20 from rfl, show (3 : Int32) = nI 3 from rfl, q_mul, nI_add, nI_1]; congr 1; omega
/-- total over the places and kinds -/
def tS (T : Nat → Nat) : Nat := sumN T 30
theorem tS_le {T : Nat → Nat} {j : Nat} (hj : j < 30) : T j ≤ tS T := sumN_le hj
theorem tS_up {T : Nat → Nat} {a v : Nat} (ha : a < 30) : tS (up0 T a v) + T a = tS T + v := by
  have := sumN_put T a v 30
  rw [if_pos ha, if_pos ha] at this
  exact this
theorem crT_S {f : Nat → Int32} {T : Nat → Nat} {i : Nat} (sd : SD f i) (hT : sN f i ≤ T (6 * stt f i + sK f i)) : tS (crT f T i) = tS T := by
  obtain ⟨s1, s2, s3⟩ := stt_4 sd
  obtain ⟨nk, k1, k2, k3⟩ := sd.k1
  unfold crT
  have a := tS_up (T := T) (a := 6 * stt f i + sK f i) (v := T (6 * stt f i + sK f i) - sN f i) (by omega)
  have b := tS_up (T := up0 T (6 * stt f i + sK f i) (T (6 * stt f i + sK f i) - sN f i)) (a := 6 * too f i + sK f i) (v := T (6 * too f i + sK f i) + sN f i) (by omega)
  rw [show up0 T (6 * stt f i + sK f i) (T (6 * stt f i + sK f i) - sN f i) (6 * too f i + sK f i) = T (6 * too f i + sK f i) from if_neg (by omega)] at b
  omega
theorem M_jin {c : Nat} {hc hm : sh_H} (h : St c hc hm) {n t : Nat} (ht : t < 240) (hn : mS hm 7 = nI n) (n4 : n ≤ 40) (K276 : Int32 → sh_H → Option sh_H) (H0 : sh_H) (x0 : sM H0 hm) : ∀ (q i u : Nat) (L T : Nat → Nat) (H : sh_H), i + q = n → q < u → mK H H0 → ML H L T → tS T < 2 ^ 30 → (∀ p, p < 5 → L p ≤ 999) → (∀ y, jin (mS hm) t q i L T = Sum.inl y → ∃ E, f_M_judgeAll_l52 NF (f_M_judgeAll_b101 NF) K276 u (nI t) (nI i) H = f_M_judgeAll_b101 NF (nI y.1) (nI y.2) E ∧ mK E H0) ∧ (∀ s, jin (mS hm) t q i L T = Sum.inr s → ∃ E, f_M_judgeAll_l52 NF (f_M_judgeAll_b101 NF) K276 u (nI t) (nI i) H = K276 (nI t) E ∧ mK E H0 ∧ ML E s.1 s.2 ∧ tS s.2 = tS T) := by
  have j7 : ai_in (7 : Int32) 8000 := in8 (k := 7) (by omega)
  obtain ⟨n', m1, m2, -, m3⟩ := St_sd h
  obtain rfl : n' = n := (nI_eq (by omega) (by omega)).mp (m2.symm.trans hn)
  intro q
  induction q with
  | zero =>
    intro i u L T H e1 e2 x ml tb hL
    obtain ⟨u, rfl⟩ : ∃ m, u = m + 1 := ⟨u - 1, by omega⟩
    refine ⟨fun x e => (by cases e), fun s e => ⟨H, ?_, x, ?_⟩⟩
    · show f_M_judgeAll_c52 NF (f_M_judgeAll_b101 NF) K276 (f_M_judgeAll_l52 NF (f_M_judgeAll_b101 NF) K276 u) (nI t) (nI i) H = _
      unfold f_M_judgeAll_c52
      rw [if_pos j7, show H.1 13 46 (7 : Int32).toNatClampNeg = nI n' from ((x.s.tr x0).mS 7).trans hn, if_neg (nI_nlt (by omega) (by omega))]
    · have : (L, T) = s := Sum.inr.inj e
      rw [← this]
      exact ⟨ml, rfl⟩
  | succ q ih =>
    intro i u L T H e1 e2 x ml tb hL
    obtain ⟨u, rfl⟩ : ∃ m, u = m + 1 := ⟨u - 1, by omega⟩
    have xm : sM H hm := x.s.tr x0
    have hi : i < n' := by omega
    obtain ⟨sd, -⟩ := m3 i hi
    have t1 := sd.t1
    have sp := sd.p2
    have sn := sd.n2
    have bb := sd.b1
    obtain ⟨nk, k1, k2, k3⟩ := sd.k1
    obtain ⟨-, ⟨w1, w2, w3⟩, -⟩ := T_kind h k2 k1 k3
    obtain ⟨s1, s2, s3⟩ := stt_4 sd
    obtain ⟨a0, a1, a2, a3, a4, -⟩ := sd_a (i := i)
    obtain ⟨v0, v1, v2, v3, v4⟩ := sd_m xm.mS sd (by omega)
    have tT := tS_le (T := T) (j := 6 * stt (mS hm) i + sK (mS hm) i) (by omega)
    have tT2 := tS_le (T := T) (j := 6 * too (mS hm) i + sK (mS hm) i) (by omega)
    have rs := M_reason h xm (m := t % 12) sd (by omega) ml (hL _ (by omega)) (by omega)
    have nx : f_M_judgeAll_b270 NF (f_M_judgeAll_l52 NF (f_M_judgeAll_b101 NF) K276 u) (nI t) (nI i) = fun H => f_M_judgeAll_l52 NF (f_M_judgeAll_b101 NF) K276 u (nI t) (nI (i + 1)) H := by
      funext H
      unfold f_M_judgeAll_b270
      rw [nI_1]
    have cut : ∀ R, R = f_M_judgeAll_c52 NF (f_M_judgeAll_b101 NF) K276 (f_M_judgeAll_l52 NF (f_M_judgeAll_b101 NF) K276 u) (nI t) (nI i) H → f_M_judgeAll_l52 NF (f_M_judgeAll_b101 NF) K276 (u + 1) (nI t) (nI i) H = R := fun R e => e.symm
    rw [cut _ rfl]
    unfold f_M_judgeAll_c52
    rw [if_pos j7, show H.1 13 46 (7 : Int32).toNatClampNeg = nI n' from (xm.mS 7).trans hn, if_pos (nI_lt hi (by omega)), a0, if_pos (in8 (by omega)), v0, nx]
    by_cases et : sT (mS hm) i = t
    · rw [if_pos (by rw [et]), if_pos n12, q_m12 (by omega), rs, Option.bind_some]
      have r4 := rsn_le (f := mS hm) (L := L) (T := T (6 * stt (mS hm) i + sK (mS hm) i)) (i := i) (m := t % 12)
      by_cases er : rsn (mS hm) L (T (6 * stt (mS hm) i + sK (mS hm) i)) i (t % 12) = 0
      · obtain ⟨b, eb, b1, b2⟩ := rsn_0 er
        obtain ⟨-, -, -, ⟨-, -, b5⟩, -⟩ := T_boat h eb
        rw [er, if_neg (show ¬ (0 : Int32) < nI 0 by decide), jin_y et er]
        have go3 : ∃ E, f_M_judgeAll_b163 NF (f_M_judgeAll_l52 NF (f_M_judgeAll_b101 NF) K276 u) (nI t) (nI i) (nI (310 + 6 * i)) (nI (stt (mS hm) i)) (nI (too (mS hm) i)) H = f_M_judgeAll_l52 NF (f_M_judgeAll_b101 NF) K276 u (nI t) (nI (i + 1)) E ∧ mK E H0 ∧ ML E (crL (mS hm) L i) (crT (mS hm) T i) := by
          have wl : sN (mS hm) i * wgt (mS hm) (sK (mS hm) i) ≤ 9999 * 20 := Nat.mul_le_mul sn w3
          have vL : H.1 13 52 (nI (sP (mS hm) i)).toNatClampNeg = nI (L (sP (mS hm) i)) := by rw [q_cl (by omega)]; exact ml.1 _ (by omega)
          have vk : H.1 13 46 (nI (21 + 3 * sK (mS hm) i)).toNatClampNeg = nI (wgt (mS hm) (sK (mS hm) i)) := by rw [cl8 (by omega)]; exact (xm.mS _).trans w1
          have i5 : ∀ {p : Nat}, p < 5 → ai_in (nI p) 5 := fun hp => q_in hp (by omega)
          have i30 : ∀ {p : Nat}, p < 30 → ai_in (nI p) 30 := fun hp => q_in hp (by omega)
          have c5 : (nI (sP (mS hm) i)).toNatClampNeg = sP (mS hm) i := q_cl (by omega)
          have e6 : ∀ p k, (6 : Int32) * nI p + nI k = nI (6 * p + k) := fun p k => by rw [show (6 : Int32) = nI 6 from rfl, q_mul, nI_add]
          unfold f_M_judgeAll_b163
          rw [a1, a2, a3, if_pos (in8 (by omega)), v1, if_pos (i5 (by omega)), if_pos (in8 (by omega)), if_pos (in8 (by omega)), v2, kd_m, if_pos (in8 (by omega)), if_pos (i5 (by omega)), vL, v3, vk, sh_let, q_mul, nI_add, c5]
          have x1 : mK (sh_pI H 13 52 (sP (mS hm) i) (nI (L (sP (mS hm) i) + sN (mS hm) i * wgt (mS hm) (sK (mS hm) i)))) H0 := x.p2
          have ml1 : ML (sh_pI H 13 52 (sP (mS hm) i) (nI (L (sP (mS hm) i) + sN (mS hm) i * wgt (mS hm) (sK (mS hm) i)))) (crL (mS hm) L i) T := ML_L ml
          generalize sh_pI H 13 52 (sP (mS hm) i) (nI (L (sP (mS hm) i) + sN (mS hm) i * wgt (mS hm) (sK (mS hm) i))) = H1 at x1 ml1 ⊢
          obtain ⟨-, -, v2, v3, -⟩ := sd_m (x1.s.tr x0).mS sd (by omega)
          have vA : H1.1 13 53 (nI (6 * stt (mS hm) i + sK (mS hm) i)).toNatClampNeg = nI (T (6 * stt (mS hm) i + sK (mS hm) i)) := by rw [q_cl (by omega)]; exact ml1.2 _ (by omega)
          have cA : (nI (6 * stt (mS hm) i + sK (mS hm) i)).toNatClampNeg = 6 * stt (mS hm) i + sK (mS hm) i := q_cl (by omega)
          unfold f_M_judgeAll_b210
          rw [a2, a3, if_pos (in8 (by omega)), v2, e6, if_pos (i30 (by omega)), if_pos (in8 (by omega)), if_pos (i30 (by omega)), v3, vA, sh_let, q_sub b2, cA]
          have x2 : mK (sh_pI H1 13 53 (6 * stt (mS hm) i + sK (mS hm) i) (nI (T (6 * stt (mS hm) i + sK (mS hm) i) - sN (mS hm) i))) H0 := x1.p3
          have ml2 := ML_T (a := 6 * stt (mS hm) i + sK (mS hm) i) (v := T (6 * stt (mS hm) i + sK (mS hm) i) - sN (mS hm) i) ml1
          generalize sh_pI H1 13 53 (6 * stt (mS hm) i + sK (mS hm) i) (nI (T (6 * stt (mS hm) i + sK (mS hm) i) - sN (mS hm) i)) = H2 at x2 ml2 ⊢
          obtain ⟨-, -, v2, v3, -⟩ := sd_m (x2.s.tr x0).mS sd (by omega)
          have vB : H2.1 13 53 (nI (6 * too (mS hm) i + sK (mS hm) i)).toNatClampNeg = nI (T (6 * too (mS hm) i + sK (mS hm) i)) := by
            rw [q_cl (by omega), ml2.2 _ (by omega)]
            exact congrArg nI (if_neg (by omega))
          have cB : (nI (6 * too (mS hm) i + sK (mS hm) i)).toNatClampNeg = 6 * too (mS hm) i + sK (mS hm) i := q_cl (by omega)
          unfold f_M_judgeAll_b240
          rw [a2, a3, if_pos (in8 (by omega)), v2, e6, if_pos (i30 (by omega)), if_pos (in8 (by omega)), if_pos (i30 (by omega)), v3, vB, sh_let, nI_add, cB, nx]
          exact ⟨_, rfl, x2.p3, ML_T ml2⟩
        have go2 : ∃ E, f_M_judgeAll_b137 NF (f_M_judgeAll_l52 NF (f_M_judgeAll_b101 NF) K276 u) (nI t) (nI i) (nI (310 + 6 * i)) (nI (stt (mS hm) i)) H = f_M_judgeAll_l52 NF (f_M_judgeAll_b101 NF) K276 u (nI t) (nI (i + 1)) E ∧ mK E H0 ∧ ML E (crL (mS hm) L i) (crT (mS hm) T i) := by
          unfold f_M_judgeAll_b137
          rw [a4, if_pos (in8 (by omega)), v4, a1, v1]
          unfold too at go3
          by_cases z : sB (mS hm) i = 0
          · rw [if_pos z] at go3
            rw [if_neg (show ¬ nI (sB (mS hm) i) = 1 by rw [z]; decide), if_pos (in8 (by omega))]
            exact go3
          · rw [if_neg z] at go3
            rw [if_pos (show nI (sB (mS hm) i) = 1 by rw [show sB (mS hm) i = 1 by omega]; rfl)]
            exact go3
        have go1 : ∃ E, (if ai_in (nI (310 + 6 * i) + 4) 8000 then (if H.1 13 46 (nI (310 + 6 * i) + 4).toNatClampNeg = 1 then (if ai_in (nI (310 + 6 * i) + 1) 8000 then f_M_judgeAll_b137 NF (f_M_judgeAll_l52 NF (f_M_judgeAll_b101 NF) K276 u) (nI t) (nI i) (nI (310 + 6 * i)) (H.1 13 46 (nI (310 + 6 * i) + 1).toNatClampNeg) H else none) else f_M_judgeAll_b137 NF (f_M_judgeAll_l52 NF (f_M_judgeAll_b101 NF) K276 u) (nI t) (nI i) (nI (310 + 6 * i)) 0 H) else none) = f_M_judgeAll_l52 NF (f_M_judgeAll_b101 NF) K276 u (nI t) (nI (i + 1)) E ∧ mK E H0 ∧ ML E (crL (mS hm) L i) (crT (mS hm) T i) := by
          rw [a4, if_pos (in8 (by omega)), v4, a1, v1]
          unfold stt at go2
          by_cases z : sB (mS hm) i = 0
          · rw [if_pos z] at go2
            rw [if_neg (show ¬ nI (sB (mS hm) i) = 1 by rw [z]; decide)]
            exact go2
          · rw [if_neg z] at go2
            rw [if_pos (show nI (sB (mS hm) i) = 1 by rw [show sB (mS hm) i = 1 by omega]; rfl), if_pos (in8 (by omega))]
            exact go2
        obtain ⟨E, E1, E2, E3⟩ := go1
        have tc := crT_S sd b2
        obtain ⟨i1, i2⟩ := ih (i + 1) u (crL (mS hm) L i) (crT (mS hm) T i) E (by omega) (by omega) E2 E3 (by omega) (crL_le h er hL)
        rw [tc] at i2
        refine ⟨fun y ey => ?_, fun s es => ?_⟩
        · rw [E1]; exact i1 y ey
        · rw [E1]; exact i2 s es
      · rw [if_pos (show (0 : Int32) < nI (rsn (mS hm) L (T (6 * stt (mS hm) i + sK (mS hm) i)) i (t % 12)) from nI_lt (a := 0) (by omega) (by omega)), jin_f et er]
        refine ⟨fun y e => ?_, fun s e => (by cases e)⟩
        have : (i, rsn (mS hm) L (T (6 * stt (mS hm) i + sK (mS hm) i)) i (t % 12)) = y := Sum.inl.inj e
        rw [← this]
        exact ⟨H, rfl, x⟩
    · rw [if_neg (nI_ne et (by omega) (by omega)), jin_n et]
      exact ih (i + 1) u L T H (by omega) (by omega) x ml tb hL
theorem M_jout {c : Nat} {hc hm : sh_H} (h : St c hc hm) {n : Nat} (hn : mS hm 7 = nI n) (n4 : n ≤ 40) (H0 : sh_H) (x0 : sM H0 hm) (z27 : H0.1 12 0 27 = -2) (z28 : H0.1 12 0 28 = 0) : ∀ (q t u : Nat) (T : Nat → Nat) (H : sh_H), t + q = 240 → q < u → mK H H0 → (∀ j, j < 30 → H.1 13 53 j = nI (T j)) → tS T < 2 ^ 30 → ∃ E, f_M_judgeAll_l23 NF (f_M_judgeAll_b101 NF) u (nI t) H = some E ∧ sM E hm ∧ E.1 12 0 27 = jA (jout (mS hm) n q t T) ∧ E.1 12 0 28 = jR (jout (mS hm) n q t T) := by
  have clr : ∀ (T : Nat → Nat) (K : Int32 → sh_H → Option sh_H) (a1 : Int32) (q p u : Nat) (H : sh_H), p + q = 5 → q < u → mK H H0 → (∀ j, j < p → H.1 13 52 j = 0) → (∀ j, j < 30 → H.1 13 53 j = nI (T j)) → ∃ E, f_M_judgeAll_l32 NF K u a1 (nI p) H = K a1 E ∧ mK E H0 ∧ ML E (fun _ => 0) T := by
    intro T K a1 q
    induction q with
    | zero =>
      intro p u H e1 e2 x dn tn
      obtain ⟨u, rfl⟩ : ∃ m, u = m + 1 := ⟨u - 1, by omega⟩
      obtain rfl : p = 5 := by omega
      refine ⟨H, ?_, x, dn, tn⟩
      show f_M_judgeAll_c32 NF K (f_M_judgeAll_l32 NF K u) a1 (nI 5) H = _
      unfold f_M_judgeAll_c32
      rw [if_neg (show ¬ nI 5 < 5 by decide)]
    | succ q ih =>
      intro p u H e1 e2 x dn tn
      obtain ⟨u, rfl⟩ : ∃ m, u = m + 1 := ⟨u - 1, by omega⟩
      show ∃ E, f_M_judgeAll_c32 NF K (f_M_judgeAll_l32 NF K u) a1 (nI p) H = _ ∧ _
      unfold f_M_judgeAll_c32
      rw [if_pos (show nI p < 5 from nI_lt (b := 5) (by omega) (by omega)), if_pos (q_in (k := p) (n := 5) (by omega) (by omega)), sh_let, q_cl (by omega), nI_1]
      refine ih (p + 1) u _ (by omega) (by omega) x.p2 (fun j hj => ?_) (fun j hj => (pI_ne (by omega)).trans (tn j hj))
      by_cases z : j = p
      · rw [z, pI_at]
      · rw [pI_ne (by omega)]; exact dn j (by omega)
  intro q
  induction q with
  | zero =>
    intro t u T H e1 e2 x ml tb
    obtain ⟨u, rfl⟩ : ∃ m, u = m + 1 := ⟨u - 1, by omega⟩
    obtain rfl : t = 240 := by omega
    refine ⟨H, ?_, x.s.tr x0, (x.1 12 0 27 (by omega)).trans z27, (x.1 12 0 28 (by omega)).trans z28⟩
    show f_M_judgeAll_c23 NF (f_M_judgeAll_b101 NF) (f_M_judgeAll_l23 NF (f_M_judgeAll_b101 NF) u) (nI 240) H = _
    unfold f_M_judgeAll_c23
    rw [if_neg (show ¬ nI 240 < 240 by decide)]
  | succ q ih =>
    intro t u T H e1 e2 x ml tb
    obtain ⟨u, rfl⟩ : ∃ m, u = m + 1 := ⟨u - 1, by omega⟩
    show ∃ E, f_M_judgeAll_c23 NF (f_M_judgeAll_b101 NF) (f_M_judgeAll_l23 NF (f_M_judgeAll_b101 NF) u) (nI t) H = _ ∧ _
    unfold f_M_judgeAll_c23
    obtain ⟨F, F1, F2, F3⟩ := clr T (f_M_judgeAll_b50 NF (f_M_judgeAll_l23 NF (f_M_judgeAll_b101 NF) u) (f_M_judgeAll_b101 NF)) (nI t) 5 0 NF H (by omega) (NF_gt (by omega)) x (fun j hj => absurd hj (by omega)) ml
    rw [if_pos (show nI t < 240 from nI_lt (b := 240) (by omega) (by omega)), show f_M_judgeAll_l32 NF (f_M_judgeAll_b50 NF (f_M_judgeAll_l23 NF (f_M_judgeAll_b101 NF) u) (f_M_judgeAll_b101 NF)) NF (nI t) 0 H = _ from F1]
    unfold f_M_judgeAll_b50
    obtain ⟨i1, i2⟩ := M_jin h (t := t) (by omega) hn n4 (f_M_judgeAll_b276 NF (f_M_judgeAll_l23 NF (f_M_judgeAll_b101 NF) u)) H0 x0 n 0 NF (fun _ => 0) T F (by omega) (NF_gt (by omega)) F2 F3 tb (fun _ _ => Nat.zero_le _)
    cases ej : jin (mS hm) t n 0 (fun _ => 0) T with
    | inl y =>
      obtain ⟨E, E1, E2⟩ := i1 y ej
      rw [jout_l ej, show f_M_judgeAll_l52 NF (f_M_judgeAll_b101 NF) (f_M_judgeAll_b276 NF (f_M_judgeAll_l23 NF (f_M_judgeAll_b101 NF) u)) NF (nI t) 0 F = _ from E1]
      unfold f_M_judgeAll_b101
      rw [sh_let, sh_let]
      refine ⟨_, rfl, ((E2.s.tr x0).pI (by unfold scM; omega)).pI (by unfold scM; omega), ?_, pI_at _ _ _ _ _⟩
      rw [pI_ne (by omega), pI_at]
      rfl
    | inr s =>
      obtain ⟨E, E1, E2, E3, E4⟩ := i2 s ej
      rw [jout_r ej, show f_M_judgeAll_l52 NF (f_M_judgeAll_b101 NF) (f_M_judgeAll_b276 NF (f_M_judgeAll_l23 NF (f_M_judgeAll_b101 NF) u)) NF (nI t) 0 F = _ from E1]
      unfold f_M_judgeAll_b276
      rw [nI_1]
      exact ih (t + 1) u s.2 E (by omega) (by omega) E2 E3.2 (by omega)
theorem sumN_mono {g : Nat → Nat} {B : Nat} : ∀ {n : Nat}, (∀ q, q < n → g q ≤ B) → sumN g n ≤ n * B := by
  intro n
  induction n with
  | zero => intro _; exact Nat.zero_le _
  | succ n ih =>
    intro h
    show sumN g n + g n ≤ (n + 1) * B
    have a := ih (fun q hq => h q (by omega))
    have b := h n (by omega)
    rw [Nat.add_mul, Nat.one_mul]
    omega
theorem M_judgeAll {c : Nat} {hc hm : sh_H} (h : St c hc hm) (hc5 : c ≤ 512) {n tm : Nat} (hn : mS hm 7 = nI n) (n4 : n ≤ 40) (htm : mS hm 9 = nI tm) (tm2 : tm ≤ 240) : ∃ E, f_M_judgeAll NF hm = some E ∧ sM E hm ∧ E.1 12 0 27 = jA (jout (mS hm) n (240 - tm) tm (tl0 (mS hm))) ∧ E.1 12 0 28 = jR (jout (mS hm) n (240 - tm) tm (tl0 (mS hm))) := by
  obtain ⟨A, A1, A2, A3⟩ := M_layTills h hc5 (sM.rf hm)
  have xB : sM (sh_pI (sh_pI A 12 0 27 (-2)) 12 0 28 0) hm := (A2.s.pI (by unfold scM; omega)).pI (by unfold scM; omega)
  have j9 : ai_in (9 : Int32) 8000 := in8 (k := 9) (by omega)
  have tb : tS (tl0 (mS hm)) < 2 ^ 30 := by
    have := sumN_mono (g := tl0 (mS hm)) (B := 20480000) (n := 30) (fun q hq => (al_of (St_S h) hc5 (p := q / 6) (k := q % 6) (by omega) (by omega)).1)
    show sumN _ 30 < _
    omega
  unfold f_M_judgeAll
  rw [A1, Option.bind_some, sh_let, sh_let, if_pos j9, show (sh_pI (sh_pI A 12 0 27 (-2)) 12 0 28 0).1 13 46 (9 : Int32).toNatClampNeg = nI tm from (xB.mS 9).trans htm]
  have z27 : (sh_pI (sh_pI A 12 0 27 (-2)) 12 0 28 0).1 12 0 27 = -2 := by rw [pI_ne (by omega), pI_at]
  have z28 : (sh_pI (sh_pI A 12 0 27 (-2)) 12 0 28 0).1 12 0 28 = 0 := pI_at _ _ _ _ _
  exact M_jout h hn n4 _ xB z27 z28 (240 - tm) tm NF (tl0 (mS hm)) _ (by omega) (NF_gt (by omega)) ⟨fun _ _ _ _ => rfl, rfl⟩ (fun j hj => by rw [pI_ne (by omega), pI_ne (by omega)]; exact A3 j hj) tb
theorem St_tm {c : Nat} {hc hm : sh_H} (h : St c hc hm) : ∃ tm, tm ≤ 240 ∧ mS hm 9 = nI tm := by
  obtain ⟨v, -, v2, v3⟩ := (St_S h).2.1
  exact ⟨v, v2, v3⟩
theorem P_judge : Pair (f_CB_judge NF) (f_M_judge NF) := Pair.o (by
  intro c hc hm hc5 h
  obtain ⟨tm, t1, t2⟩ := St_tm h
  obtain ⟨n, n4, hn, -⟩ := St_sd h
  obtain ⟨E, E1, E2, E3⟩ := C_firstUndone h (by omega) hn n4 t2 t1
  obtain ⟨F, F1, F2, F3, F4⟩ := M_judgeAll h (by omega) hn n4 t2 t1
  refine ⟨jA (jout (mS hm) n (240 - tm) tm (tl0 (mS hm))), ⟨E, ?_, E2⟩, ⟨F, ?_, F2⟩⟩
  · unfold f_CB_judge
    rw [E1]
    rfl
  · unfold f_M_judge
    rw [F1, Option.bind_some, F3])
theorem P_why : Pair (f_CB_why NF) (f_M_why NF) := Pair.o (by
  intro c hc hm hc5 h
  obtain ⟨tm, t1, t2⟩ := St_tm h
  obtain ⟨n, n4, hn, -⟩ := St_sd h
  obtain ⟨E, E1, E2, E3⟩ := C_firstUndone h (by omega) hn n4 t2 t1
  obtain ⟨F, F1, F2, F3, F4⟩ := M_judgeAll h (by omega) hn n4 t2 t1
  refine ⟨jR (jout (mS hm) n (240 - tm) tm (tl0 (mS hm))), ⟨E, ?_, E2⟩, ⟨F, ?_, F2⟩⟩
  · unfold f_CB_why f_Calendar_reason
    rw [E1, sh_b2_some, Option.bind_some, E3]
  · unfold f_M_why
    rw [F1, Option.bind_some, F4])
