/-! PAIRS: least, order, price -/
theorem lv_last {f : Nat → Int32} {p k d m n : Nat} (hm : m ≤ 11) (n1 : 1 ≤ n) (q : Nat) : lv f p k d m n n q = (stp f p k d m ((d + 1) ^ (n - 1)) (lv f p k d m n (n - 1)) q).1 := by
  obtain ⟨r, rfl⟩ : ∃ r, n = r + 1 := ⟨n - 1, by omega⟩
  show (stp f p k d ((m + (r + 1 - 1 - r)) % 12) ((d + 1) ^ r) (lv f p k d m (r + 1) r) q).1 = _
  rw [show m + (r + 1 - 1 - r) = m by omega, Nat.mod_eq_of_lt (by omega), Nat.add_sub_cancel]
theorem M_coins {c : Nat} {hc hm : sh_H} (h : St c hc hm) {p k d m n q ni nk : Nat} (k2 : mS hm 0 = nI nk) (k1 : nk ≤ 6) (hk : k < nk) (i2 : mS hm 1 = nI ni) (i1 : ni ≤ 4) (hp : p < ni + 1) (p1 : 1 ≤ p) (hm2 : m ≤ 11) (hn : n ≤ 12) (n1 : 1 ≤ n) (hd : d ≤ 3) (hq : q ≤ 60) (G : sh_H) (y : sM G hm) : ∃ E, f_M_coins NF (nI p) (nI k) (nI m) (nI n) (nI q) (nI d) G = some (lv (mS hm) p k d m n n q, E) ∧ sM E hm ∧ E.1 12 0 37 = nI (stp (mS hm) p k d m ((d + 1) ^ (n - 1)) (lv (mS hm) p k d m n (n - 1)) q).2 := by
  rw [lv_last hm2 n1]
  have e1n : nI n - 1 = nI (n - 1) := q_sub (b := 1) n1
  have lpm : ∀ (i u : Nat) (G : sh_H), i < n → i < u → sM G hm → (∀ s, s < 61 → G.2.1 14 9 s = lv (mS hm) p k d m n (n - 1 - i) s) → ∃ E, f_M_coins_l30 NF (f_M_coins_b130 NF) u (nI p) (nI k) (nI m) (nI n) (nI q) (nI d) (nI i) G = some ((stp (mS hm) p k d m ((d + 1) ^ (n - 1)) (lv (mS hm) p k d m n (n - 1)) q).1, E) ∧ sM E hm ∧ E.1 12 0 37 = nI (stp (mS hm) p k d m ((d + 1) ^ (n - 1)) (lv (mS hm) p k d m n (n - 1)) q).2 := by
    intro i
    induction i with
    | zero =>
      intro u G e0 e1 y hC
      obtain ⟨u, rfl⟩ : ∃ m, u = m + 1 := ⟨u - 1, by omega⟩
      show ∃ E, f_M_coins_c30 NF (f_M_coins_b130 NF) (f_M_coins_l30 NF (f_M_coins_b130 NF) u) (nI p) (nI k) (nI m) (nI n) (nI q) (nI d) (nI 0) G = _ ∧ _
      unfold f_M_coins_c30 f_M_coins_b130
      rw [if_neg (show ¬ (0 : Int32) < nI 0 by decide), e1n, nI_l (by omega), show lN d + (1 : Int64) = lN (d + 1) from lN_1 d, M_power (by omega), Option.bind_some]
      obtain ⟨E, E1, E2, E3⟩ := M_leastOf h (p := p) (k := k) (mo := m) (q := q) (d := d) (W := (d + 1) ^ (n - 1)) k2 k1 hk i2 i1 hp p1 hq hd (lv (mS hm) p k d m n (n - 1)) G y hC
      rw [E1, sh_b2_some]
      exact ⟨E, rfl, E2.s.tr y, E3⟩
    | succ i ih =>
      intro u G e0 e1 y hC
      obtain ⟨u, rfl⟩ : ∃ m, u = m + 1 := ⟨u - 1, by omega⟩
      show ∃ E, f_M_coins_c30 NF (f_M_coins_b130 NF) (f_M_coins_l30 NF (f_M_coins_b130 NF) u) (nI p) (nI k) (nI m) (nI n) (nI q) (nI d) (nI (i + 1)) G = _ ∧ _
      unfold f_M_coins_c30
      rw [if_pos (show (0 : Int32) < nI (i + 1) from nI_lt (a := 0) (by omega) (by omega)), e1n, q_sub (by omega), nI_l (by omega), show lN d + (1 : Int64) = lN (d + 1) from lN_1 d, M_power (by omega), Option.bind_some]
      have nl : lv (mS hm) p k d m n (n - 1 - i) = fun s => (stp (mS hm) p k d ((m + (i + 1)) % 12) ((d + 1) ^ (n - 1 - (i + 1))) (lv (mS hm) p k d m n (n - 1 - (i + 1))) s).1 := by
        obtain ⟨r, hr⟩ : ∃ r, r = n - 1 - (i + 1) := ⟨_, rfl⟩
        rw [show n - 1 - i = r + 1 by omega, ← hr, show i + 1 = n - 1 - r by omega]
        rfl
      have lpc : ∀ (t s v : Nat) (H : sh_H), s + t = 61 → t < v → sM H hm → (∀ r, r < s → H.2.1 14 9 r = lv (mS hm) p k d m n (n - 1 - i) r) → (∀ r, r < 61 → H.2.1 14 8 r = lv (mS hm) p k d m n (n - 1 - i) r) → ∃ E, f_M_coins_l97 NF (f_M_coins_b124 NF (f_M_coins_l30 NF (f_M_coins_b130 NF) u)) v (nI p) (nI k) (nI m) (nI n) (nI q) (nI d) (nI (i + 1)) (nI s) H = some ((stp (mS hm) p k d m ((d + 1) ^ (n - 1)) (lv (mS hm) p k d m n (n - 1)) q).1, E) ∧ sM E hm ∧ E.1 12 0 37 = nI (stp (mS hm) p k d m ((d + 1) ^ (n - 1)) (lv (mS hm) p k d m n (n - 1)) q).2 := by
        intro t
        induction t with
        | zero =>
          intro s v H f1 f2 z g1 g2
          obtain ⟨v, rfl⟩ : ∃ m, v = m + 1 := ⟨v - 1, by omega⟩
          obtain rfl : s = 61 := by omega
          show ∃ E, f_M_coins_c97 NF (f_M_coins_b124 NF (f_M_coins_l30 NF (f_M_coins_b130 NF) u)) (f_M_coins_l97 NF (f_M_coins_b124 NF (f_M_coins_l30 NF (f_M_coins_b130 NF) u)) v) (nI p) (nI k) (nI m) (nI n) (nI q) (nI d) (nI (i + 1)) (nI 61) H = _ ∧ _
          unfold f_M_coins_c97 f_M_coins_b124
          rw [if_neg (show ¬ nI 61 < (61 : Int32) by decide), pk_m1]
          exact ih u H (by omega) (by omega) z g1
        | succ t ih2 =>
          intro s v H f1 f2 z g1 g2
          obtain ⟨v, rfl⟩ : ∃ m, v = m + 1 := ⟨v - 1, by omega⟩
          show ∃ E, f_M_coins_c97 NF (f_M_coins_b124 NF (f_M_coins_l30 NF (f_M_coins_b130 NF) u)) (f_M_coins_l97 NF (f_M_coins_b124 NF (f_M_coins_l30 NF (f_M_coins_b130 NF) u)) v) (nI p) (nI k) (nI m) (nI n) (nI q) (nI d) (nI (i + 1)) (nI s) H = _ ∧ _
          unfold f_M_coins_c97
          have ei : ai_in (nI s) 61 := q_in (by omega) (by omega)
          have ec : (nI s).toNatClampNeg = s := q_cl (by omega)
          rw [if_pos (show nI s < (61 : Int32) from nI_lt (b := 61) (by omega) (by omega)), if_pos ei, if_pos ei, sh_let, nI_1, ec]
          refine ih2 (s + 1) v _ (by omega) (by omega) (sM.pJ (by unfold sjM; omega) z) (fun r hr => ?_) (fun r hr => ?_)
          · by_cases e : r = s
            · subst e; rw [pJ_at]; exact g2 r (by omega)
            · rw [pJ_ne (by omega)]; exact g1 r (by omega)
          · rw [pJ_ne (by omega)]; exact g2 r hr
      have lps : ∀ (t s v : Nat) (H : sh_H), s + t = 61 → t < v → sM H hm → (∀ r, r < 61 → H.2.1 14 9 r = lv (mS hm) p k d m n (n - 1 - (i + 1)) r) → (∀ r, r < s → H.2.1 14 8 r = lv (mS hm) p k d m n (n - 1 - i) r) → ∃ E, f_M_coins_l55 NF (f_M_coins_b94 NF (f_M_coins_l30 NF (f_M_coins_b130 NF) u)) v (nI p) (nI k) (nI m) (nI n) (nI q) (nI d) (nI (i + 1)) (lN ((d + 1) ^ (n - 1 - (i + 1)))) (nI s) H = some ((stp (mS hm) p k d m ((d + 1) ^ (n - 1)) (lv (mS hm) p k d m n (n - 1)) q).1, E) ∧ sM E hm ∧ E.1 12 0 37 = nI (stp (mS hm) p k d m ((d + 1) ^ (n - 1)) (lv (mS hm) p k d m n (n - 1)) q).2 := by
        intro t
        induction t with
        | zero =>
          intro s v H f1 f2 z g1 g2
          obtain ⟨v, rfl⟩ : ∃ m, v = m + 1 := ⟨v - 1, by omega⟩
          obtain rfl : s = 61 := by omega
          show ∃ E, f_M_coins_c55 NF (f_M_coins_b94 NF (f_M_coins_l30 NF (f_M_coins_b130 NF) u)) (f_M_coins_l55 NF (f_M_coins_b94 NF (f_M_coins_l30 NF (f_M_coins_b130 NF) u)) v) (nI p) (nI k) (nI m) (nI n) (nI q) (nI d) (nI (i + 1)) (lN ((d + 1) ^ (n - 1 - (i + 1)))) (nI 61) H = _ ∧ _
          unfold f_M_coins_c55 f_M_coins_b94
          rw [if_neg (show ¬ nI 61 < (61 : Int32) by decide)]
          exact lpc 61 0 NF H (by omega) (NF_gt (by omega)) z (fun r hr => by omega) g2
        | succ t ih2 =>
          intro s v H f1 f2 z g1 g2
          obtain ⟨v, rfl⟩ : ∃ m, v = m + 1 := ⟨v - 1, by omega⟩
          show ∃ E, f_M_coins_c55 NF (f_M_coins_b94 NF (f_M_coins_l30 NF (f_M_coins_b130 NF) u)) (f_M_coins_l55 NF (f_M_coins_b94 NF (f_M_coins_l30 NF (f_M_coins_b130 NF) u)) v) (nI p) (nI k) (nI m) (nI n) (nI q) (nI d) (nI (i + 1)) (lN ((d + 1) ^ (n - 1 - (i + 1)))) (nI s) H = _ ∧ _
          unfold f_M_coins_c55
          have ei : ai_in (nI s) 61 := q_in (by omega) (by omega)
          have ec : (nI s).toNatClampNeg = s := q_cl (by omega)
          obtain ⟨E, E1, E2, -⟩ := M_leastOf h (p := p) (k := k) (mo := (m + (i + 1)) % 12) (q := s) (d := d) (W := (d + 1) ^ (n - 1 - (i + 1))) k2 k1 hk i2 i1 hp p1 (by omega) hd (lv (mS hm) p k d m n (n - 1 - (i + 1))) H z g1
          rw [if_pos (show nI s < (61 : Int32) from nI_lt (b := 61) (by omega) (by omega)), if_pos (show ¬ (12 : Int32) = 0 by decide), nI_add, show nI (m + (i + 1)) - nI (m + (i + 1)) / 12 * 12 = nI ((m + (i + 1)) % 12) from pk_rem (d := 12) (by omega) (by omega) (by omega), E1, sh_b2_some, if_pos ei, sh_let, nI_1, ec]
          refine ih2 (s + 1) v _ (by omega) (by omega) (sM.pJ (by unfold sjM; omega) (E2.s.tr z)) (fun r hr => ?_) (fun r hr => ?_)
          · rw [pJ_ne (by omega), E2.2]; exact g1 r hr
          · by_cases e : r = s
            · subst e; rw [pJ_at, nl]
            · rw [pJ_ne (by omega), E2.2]; exact g2 r (by omega)
      exact lps 61 0 NF G (by omega) (NF_gt (by omega)) y hC (fun r hr => by omega)
  have lp0 : ∀ (t s v : Nat) (H : sh_H), s + t = 61 → t < v → sM H hm → (∀ r, r < s → H.2.1 14 9 r = 0) → ∃ E, f_M_coins_l3 NF (f_M_coins_b24 NF) v (nI p) (nI k) (nI m) (nI n) (nI q) (nI d) (nI s) H = some ((stp (mS hm) p k d m ((d + 1) ^ (n - 1)) (lv (mS hm) p k d m n (n - 1)) q).1, E) ∧ sM E hm ∧ E.1 12 0 37 = nI (stp (mS hm) p k d m ((d + 1) ^ (n - 1)) (lv (mS hm) p k d m n (n - 1)) q).2 := by
    intro t
    induction t with
    | zero =>
      intro s v H f1 f2 z g1
      obtain ⟨v, rfl⟩ : ∃ m, v = m + 1 := ⟨v - 1, by omega⟩
      obtain rfl : s = 61 := by omega
      show ∃ E, f_M_coins_c3 NF (f_M_coins_b24 NF) (f_M_coins_l3 NF (f_M_coins_b24 NF) v) (nI p) (nI k) (nI m) (nI n) (nI q) (nI d) (nI 61) H = _ ∧ _
      unfold f_M_coins_c3 f_M_coins_b24
      rw [if_neg (show ¬ nI 61 < (61 : Int32) by decide), e1n]
      refine lpm (n - 1) NF H (by omega) (NF_gt (by omega)) z (fun s hs => ?_)
      rw [Nat.sub_self]
      exact g1 s hs
    | succ t ih2 =>
      intro s v H f1 f2 z g1
      obtain ⟨v, rfl⟩ : ∃ m, v = m + 1 := ⟨v - 1, by omega⟩
      show ∃ E, f_M_coins_c3 NF (f_M_coins_b24 NF) (f_M_coins_l3 NF (f_M_coins_b24 NF) v) (nI p) (nI k) (nI m) (nI n) (nI q) (nI d) (nI s) H = _ ∧ _
      unfold f_M_coins_c3
      have ei : ai_in (nI s) 61 := q_in (by omega) (by omega)
      have ec : (nI s).toNatClampNeg = s := q_cl (by omega)
      rw [if_pos (show nI s < (61 : Int32) from nI_lt (b := 61) (by omega) (by omega)), if_pos ei, sh_let, nI_1, ec]
      refine ih2 (s + 1) v _ (by omega) (by omega) (sM.pJ (by unfold sjM; omega) z) (fun r hr => ?_)
      by_cases e : r = s
      · subst e; rw [pJ_at]
      · rw [pJ_ne (by omega)]; exact g1 r (by omega)
  unfold f_M_coins
  exact lp0 61 0 NF G (by omega) (NF_gt (by omega)) y (fun r hr => by omega)
/-- the checks of a plan -/
theorem isPlan_eq {c : Nat} {hc hm : sh_H} (h : St c hc hm) (a1 a2 a3 a4 a5 a6 : Int32) : (f_CB_isPlan a1 a2 a3 a4 a6 hc = some 0 ∧ f_M_isCoin a1 a2 a3 a4 a5 a6 hm = some 0) ∨ (f_CB_isPlan a1 a2 a3 a4 a6 hc = some 1 ∧ (q_within a5 0 60 = 0 → f_M_isCoin a1 a2 a3 a4 a5 a6 hm = some 0) ∧ (¬ q_within a5 0 60 = 0 → f_M_isCoin a1 a2 a3 a4 a5 a6 hm = some 1) ∧ ∃ p k m n d nk ni, a1 = nI p ∧ a2 = nI k ∧ a3 = nI m ∧ a4 = nI n ∧ a6 = nI d ∧ mS hm 0 = nI nk ∧ nk ≤ 6 ∧ k < nk ∧ mS hm 1 = nI ni ∧ ni ≤ 4 ∧ p < ni + 1 ∧ 1 ≤ p ∧ m ≤ 11 ∧ n ≤ 12 ∧ 1 ≤ n ∧ d ≤ 3) := by
  obtain ⟨ni, i1, i2, -⟩ := (St_T h).2.1
  obtain ⟨nk, k1, k2, -⟩ := (St_T h).1
  unfold f_CB_isPlan f_CB_isPlan_b41 f_M_isCoin f_M_isCoin_b62
  simp only [CB_isOf, M_isIsland, M_isKind, CB_isMonth, CB_within, M_isIn, St_z h 1 (by omega), St_z h 0 (by omega), i2, k2, Option.bind_some, q_nar0, q_nar1]
  by_cases c1 : q_isl a1 (nI ni) = 0
  · simp only [c1, if_true]; exact Or.inl ⟨trivial, trivial⟩
  by_cases c2 : q_kind a2 (nI nk) = 0
  · simp only [c1, c2, if_true, if_false]; exact Or.inl ⟨trivial, trivial⟩
  by_cases c3 : q_within a3 0 11 = 0
  · simp only [c1, c2, c3, if_true, if_false, q_10]; exact Or.inl ⟨trivial, trivial⟩
  by_cases c4 : q_within a4 1 12 = 0
  · simp only [c1, c2, c3, c4, if_true, if_false, q_10]; exact Or.inl ⟨trivial, trivial⟩
  by_cases c6 : q_within a6 0 3 = 0
  · simp only [c1, c2, c3, c4, c6, if_true, if_false, q_10, ite_self]; exact Or.inl ⟨trivial, trivial⟩
  simp only [c1, c2, c3, c4, c6, if_false, q_10]
  obtain ⟨p, hp, rfl⟩ := q_isl_in (by omega) c1
  obtain ⟨k, hk, rfl⟩ := q_kind_in (by omega) c2
  obtain ⟨m, -, hm2, rfl⟩ := q_within_in (a := 0) (b := 11) (by omega) (by omega) c3
  obtain ⟨n, n1, n2, rfl⟩ := q_within_in (a := 1) (b := 12) (by omega) (by omega) c4
  obtain ⟨d, -, d2, rfl⟩ := q_within_in (a := 0) (b := 3) (by omega) (by omega) c6
  exact Or.inr ⟨trivial, fun z => by rw [if_pos z], fun z => by rw [if_neg z], p + 1, k, m, n, d, nk, ni, rfl, rfl, rfl, rfl, rfl, rfl, k1, hk, rfl, i1, by omega, by omega, hm2, n2, n1, d2⟩
theorem P_least (a1 a2 a3 a4 a5 a6 : Int32) : Pair (f_CB_least NF a1 a2 a3 a4 a5 a6) (f_M_least NF a1 a2 a3 a4 a5 a6) := Pair.o (by
  intro c hc hm _ h
  unfold f_CB_least f_CB_least_b25 f_M_least
  rcases isPlan_eq h a1 a2 a3 a4 a5 a6 with ⟨j1, j2⟩ | ⟨j1, j2, j3, p, k, m, n, d, nk, ni, rfl, rfl, rfl, rfl, rfl, k2, k1, hk, i2, i1, hp, p1, hm2, hn, n1, hd⟩
  · rw [j1, j2]
    exact ⟨-1, oC.v, oM.v⟩
  rw [j1, Option.bind_some, if_neg q_10, CB_within, Option.bind_some]
  by_cases c5 : q_within a5 0 60 = 0
  · rw [if_pos c5, j2 c5]
    exact ⟨-1, oC.v, oM.v⟩
  rw [if_neg c5, j3 c5, Option.bind_some, if_neg q_10]
  obtain ⟨q, -, hq, rfl⟩ := q_within_in (a := 0) (b := 60) (by omega) (by omega) c5
  obtain ⟨E, E1, E2, E3, -⟩ := C_plan h k2 k1 hk i2 i1 hp p1 hm2 hn n1 hd
  obtain ⟨G, G1, G2, -⟩ := M_coins h k2 k1 hk i2 i1 hp p1 hm2 hn n1 hd hq hm (sM.rf hm)
  rw [E1, Option.bind_some, C_cost (by omega), Option.bind_some, E3 q (by omega), G1, sh_b2_some]
  exact ⟨_, ⟨E, rfl, E2⟩, ⟨G, rfl, G2⟩⟩)
theorem P_order (a1 a2 a3 a4 a5 a6 : Int32) : Pair (f_CB_order NF a1 a2 a3 a4 a5 a6) (f_M_order NF a1 a2 a3 a4 a5 a6) := Pair.o (by
  intro c hc hm _ h
  unfold f_CB_order f_M_order
  rcases isPlan_eq h a1 a2 a3 a4 a5 a6 with ⟨j1, j2⟩ | ⟨j1, j2, j3, p, k, m, n, d, nk, ni, rfl, rfl, rfl, rfl, rfl, k2, k1, hk, i2, i1, hp, p1, hm2, hn, n1, hd⟩
  · rw [j1, j2]
    exact ⟨-1, oC.v, oM.v⟩
  rw [j1, Option.bind_some, if_neg q_10, CB_within, Option.bind_some]
  by_cases c5 : q_within a5 0 60 = 0
  · rw [if_pos c5, j2 c5]
    exact ⟨-1, oC.v, oM.v⟩
  rw [if_neg c5, j3 c5, Option.bind_some, if_neg q_10]
  obtain ⟨q, -, hq, rfl⟩ := q_within_in (a := 0) (b := 60) (by omega) (by omega) c5
  obtain ⟨E, E1, E2, -, E4⟩ := C_plan h k2 k1 hk i2 i1 hp p1 hm2 hn n1 hd
  obtain ⟨G, G1, G2, G3⟩ := M_coins h k2 k1 hk i2 i1 hp p1 hm2 hn n1 hd hq hm (sM.rf hm)
  rw [E1, Option.bind_some, C_brings (by omega), Option.bind_some, E4 q (by omega), G1, sh_b2_some, G3]
  exact ⟨_, ⟨E, rfl, E2⟩, ⟨G, rfl, G2⟩⟩)
theorem P_price (a1 a2 a3 a4 a5 a6 : Int32) : Pair (f_CB_price NF a1 a2 a3 a4 a5 a6) (f_M_price NF a1 a2 a3 a4 a5 a6) := Pair.o (by
  intro c hc hm _ h
  unfold f_CB_price f_CB_price_b25 f_M_price f_M_price_b23
  rcases isPlan_eq h a1 a2 a3 a4 a5 a6 with ⟨j1, j2⟩ | ⟨j1, j2, j3, p, k, m, n, d, nk, ni, rfl, rfl, rfl, rfl, rfl, k2, k1, hk, i2, i1, hp, p1, hm2, hn, n1, hd⟩
  · rw [j1, j2]
    exact ⟨-1, oC.v, oM.v⟩
  rw [j1, Option.bind_some, if_neg q_10, CB_within, Option.bind_some]
  by_cases c5 : q_within a5 0 60 = 0
  · rw [j2 c5, if_pos (show q_within a5 0 59 = 0 from ?_)]
    · exact ⟨-1, oC.v, oM.v⟩
    · rw [q_within_0] at c5 ⊢
      exact c5.imp id (fun z => Int32.lt_trans (by decide) z)
  rw [j3 c5, Option.bind_some, if_neg q_10]
  obtain ⟨q, -, hq, rfl⟩ := q_within_in (a := 0) (b := 60) (by omega) (by omega) c5
  by_cases e60 : q = 60
  · subst e60
    rw [if_pos (show q_within (nI 60) 0 59 = 0 by decide), if_pos (show nI 60 = 60 from rfl)]
    exact ⟨-1, oC.v, oM.v⟩
  rw [if_neg (show ¬ q_within (nI q) 0 59 = 0 from fun z => by rw [show (0 : Int32) = nI 0 from rfl, show (59 : Int32) = nI 59 from rfl, q_within_eq (x := 0) (by omega) (by omega) q (by omega), if_pos (by omega)] at z; exact absurd z (by decide)), if_neg (show ¬ nI q = 60 from nI_ne (b := 60) e60 (by omega) (by omega))]
  obtain ⟨E, E1, E2, E3, -⟩ := C_plan h k2 k1 hk i2 i1 hp p1 hm2 hn n1 hd
  obtain ⟨G, G1, G2, -⟩ := M_coins h k2 k1 hk i2 i1 hp p1 hm2 hn n1 hd hq hm (sM.rf hm)
  obtain ⟨G', G1', G2', -⟩ := M_coins h k2 k1 hk i2 i1 hp p1 hm2 hn n1 hd (q := q + 1) (by omega) G G2
  rw [E1, Option.bind_some, C_cost (by omega), Option.bind_some, E3 q (by omega), nI_1, C_cost (by omega), Option.bind_some, E3 (q + 1) (by omega), G1, sh_b2_some, G1', sh_b2_some]
  exact ⟨_, ⟨E, rfl, E2⟩, ⟨G', rfl, G2'⟩⟩)
