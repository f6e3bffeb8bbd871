/-! PAIRS: whose, whoseWays -/
theorem isCountable_eq {H : sh_H} {S : Nat} (hS : S < 2 ^ 31) (h : H.1 3 0 4 = nI S) : f_Ledger_isCountable H = some (if 1 ≤ S ∧ S ≤ 60 then 1 else 0) := by
  unfold f_Ledger_isCountable f_Ledger_isCountable_b21
  rw [h, q_nar0, q_nar1]
  by_cases c1 : S < 1
  · rw [if_pos (show nI S < (1 : Int32) from nI_lt (b := 1) c1 (by omega)), if_neg (by omega)]
  · rw [if_neg (show ¬ nI S < (1 : Int32) from nI_nlt (b := 1) (a := S) (by omega) (by omega))]
    by_cases c2 : 60 < S
    · rw [if_pos (show (60 : Int32) < nI S from nI_lt (a := 60) c2 hS), if_neg (by omega)]
    · rw [if_neg (show ¬ (60 : Int32) < nI S from nI_nlt (a := 60) (b := S) (by omega) (by omega)), if_pos (by omega)]
theorem wMore_lt {f : Nat → Int32} {n n0 : Nat} (hA : lkA f n 552 n < 61) (m4 : ∀ i, i < n0 → BKi f i) (hn : n ≤ n0) (p : Nat) : wMore f n p < 2 ^ 63 := by
  have l1 := lk_le (f := f) (N := n) (q := 552) (p := p) n
  have l2 := lk_le (f := f) (N := n) (q := 553) (p := p) n
  have l3 := (lkA_le (N := n) m4 n hn).1
  have := fw_lt (F := lkA f n 553 n) (R := lkA f n 552 n - lkA f n 553 n) (t := lk f n 552 p n) (q := lkA f n 553 n + 1 - lk f n 553 p n) (j := lk f n 553 p n) (by omega) (by omega) (by omega)
  unfold wMore
  omega
theorem wAll_in {f : Nat → Int32} {n : Nat} (hA : lkA f n 552 n < 61) (p : Nat) : 0 < wAll f n p ∧ wAll f n p < 2 ^ 62 := by
  have l1 := lk_le (f := f) (N := n) (q := 552) (p := p) n
  have w1 := wy_le (lkA f n 552 n) hA (lk f n 552 p n) (by omega)
  have w2 := wy_pos (lkA f n 552 n) hA (lk f n 552 p n) (by omega)
  have p1 : 2 ^ lkA f n 552 n ≤ 2 ^ 60 := Nat.pow_le_pow_right (by omega) (by omega)
  have p2 : (2 : Nat) ^ 60 < 2 ^ 62 := by decide
  unfold wAll
  exact ⟨w2, by omega⟩
theorem M_isLess {a b c d : Nat} (h2 : 0 < b) (h3 : 0 < d) (b1 : a < 2 ^ 63) (b2 : b < 2 ^ 62) (b3 : c < 2 ^ 63) (b4 : d < 2 ^ 63) (h : sh_H) : f_M_isLess NF (lN a) (lN b) (lN c) (lN d) h = some (bI (lsP 124 a b c d false)) := M_less h 124 a b c d NF false (trm_of 62 a b c d h2 b2) h2 h3 b1 (by omega) b3 b4 (NF_gt (by omega))
theorem C_isLess {H : sh_H} {f : Nat → Int32} {n n0 : Nat} (hC : RC H) (hL : LD H f n n n) (hA : lkA f n 552 n < 61) (m4 : ∀ i, i < n0 → BKi f i) (hn : n ≤ n0) {p r : Nat} (hp : p < 5) (hr : r < 5) : f_Ledger_isLessLuck NF (nI p) (nI r) H = some (bI (lsP 124 (wMore f n p) (wAll f n p) (wMore f n r) (wAll f n r) false)) := by
  obtain ⟨a1, a2⟩ := wAll_in hA p
  obtain ⟨b1, b2⟩ := wAll_in hA r
  unfold f_Ledger_isLessLuck
  rw [C_more hC hL hA m4 hn hp, Option.bind_some, C_all hC hL hA hp, Option.bind_some, C_more hC hL hA m4 hn hr, Option.bind_some, C_all hC hL hA hr, Option.bind_some]
  exact C_less H 124 _ _ _ _ 0 NF false (trm_of 62 _ _ _ _ a1 a2) a1 b1 (wMore_lt hA m4 hn p) (by omega) (wMore_lt hA m4 hn r) (by omega) (by omega) (NF_gt (by omega))
theorem P_whoseWays (a1 a2 a3 : Int32) (hb : a3 = 0 ∨ a3 = 1) : Pair (f_CB_whoseWays NF a1 a2 a3) (f_M_whoseWays NF a1 a2 a3) := Pair.o (by
  intro c hc hm _ h
  obtain ⟨n0, m0, m1, m2, m3, m4⟩ := St_b h
  obtain ⟨ni, i1, i2, -⟩ := (St_T h).2.1
  have e16 : 4 * 0 + 16 = 16 := rfl
  unfold f_CB_whoseWays f_M_whoseWays f_CB_whoseWays_b19 f_CB_whoseWays_b59 f_M_whoseWays_b16 f_M_whoseWays_b50
  simp only [e16, Text_isIsland, M_isIsland, CB_isKnown, M_isKnown, St_z h 1 (by omega), i2, m1, m2, Option.bind_some]
  refine pickO (fun _ => ⟨-1, oC.v, oM.v⟩) (fun c1 => ?_)
  refine pickO (fun _ => ⟨-1, oC.v, oM.v⟩) (fun c2 => ?_)
  obtain ⟨p, hp, rfl⟩ := q_isl_in (by omega) c1
  obtain ⟨n, -, hn, rfl⟩ := q_within_in (a := 0) (b := n0) (by omega) (by omega) c2
  obtain ⟨E, E1, E2, E3⟩ := C_know h m2 m0 hn
  obtain ⟨G, G1, G2, G3⟩ := M_layFalse m0 m4 hn
  have la := (lkA_le (N := n) m4 n hn).2
  have ip : ai_in (nI (p + 1)) 5 := q_in (by omega) (by omega)
  have yp : (nI (p + 1)).toNatClampNeg = p + 1 := q_cl (by omega)
  have ye : G.1 13 60 (nI (p + 1)).toNatClampNeg = nI (lk (mS hm) n 552 (p + 1) n) := by rw [yp]; exact (G3.2.2 (p + 1) (by omega)).1
  have l1 := lk_le (f := mS hm) (N := n) (q := 552) (p := p + 1) n
  rw [E1, G1, Option.bind_some, Option.bind_some, isCountable_eq (by omega) E3.2.2.2.2.2.2.2.1, Option.bind_some, G3.1]
  by_cases s0 : lkA (mS hm) n 552 n = 0
  · rw [if_neg (show ¬ (1 ≤ lkA (mS hm) n 552 n ∧ lkA (mS hm) n 552 n ≤ 60) by omega), if_pos (rfl : (0 : Int32) = 0), s0, if_pos (show nI 0 = 0 from rfl)]
    exact ⟨-2, ⟨E, rfl, E2⟩, ⟨G, rfl, G2⟩⟩
  rw [if_neg (show ¬ nI (lkA (mS hm) n 552 n) = 0 from fun q => s0 ((nI_eq (b := 0) (by omega) (by omega)).mp q))]
  by_cases s1 : 60 < lkA (mS hm) n 552 n
  · rw [if_neg (show ¬ (1 ≤ lkA (mS hm) n 552 n ∧ lkA (mS hm) n 552 n ≤ 60) by omega), if_pos (rfl : (0 : Int32) = 0), if_pos (show (60 : Int32) < nI (lkA (mS hm) n 552 n) from nI_lt (a := 60) s1 (by omega))]
    exact ⟨-2, ⟨E, rfl, E2⟩, ⟨G, rfl, G2⟩⟩
  have hA : lkA (mS hm) n 552 n < 61 := by omega
  rw [if_neg (show ¬ (60 : Int32) < nI (lkA (mS hm) n 552 n) from nI_nlt (a := 60) (by omega) (by omega)), if_pos (show 1 ≤ lkA (mS hm) n 552 n ∧ lkA (mS hm) n 552 n ≤ 60 by omega), if_neg q_10, if_pos ip, ye, (LD_seen (sC_RC E2 h.1) E3 (by omega)).1, Option.bind_some]
  by_cases s2 : lk (mS hm) n 552 (p + 1) n = 0
  · rw [s2, if_pos (show nI 0 = 0 from rfl), if_pos (show nI 0 = 0 from rfl)]
    exact ⟨-2, ⟨E, rfl, E2⟩, ⟨G, rfl, G2⟩⟩
  have s3 : ¬ nI (lk (mS hm) n 552 (p + 1) n) = 0 := fun q => s2 ((nI_eq (b := 0) (by omega) (by omega)).mp q)
  rw [if_neg s3, if_neg s3, if_pos ip]
  by_cases s4 : a3 = 0
  · rw [if_pos s4, if_pos s4, C_all (sC_RC E2 h.1) E3 hA (by omega), Option.bind_some, M_chosen hA (by omega), Option.bind_some]
    exact ⟨_, ⟨E, rfl, E2⟩, ⟨G, rfl, G2⟩⟩
  · rw [if_neg s4, if_neg s4, C_more (sC_RC E2 h.1) E3 hA m4 hn (by omega), Option.bind_some, M_more G3 hA m4 hn (by omega), Option.bind_some]
    exact ⟨_, ⟨E, rfl, E2⟩, ⟨G, rfl, G2⟩⟩)
theorem P_whose (a1 : Int32) : Pair (f_CB_whose NF a1) (f_M_whose NF a1) := Pair.o (by
  intro c hc hm _ h
  obtain ⟨n0, m0, m1, m2, m3, m4⟩ := St_b h
  obtain ⟨ni, i1, i2, -⟩ := (St_T h).2.1
  have e16 : 4 * 0 + 16 = 16 := rfl
  unfold f_CB_whose f_M_whose
  simp only [e16, CB_isKnown, M_isKnown, m1, m2, Option.bind_some]
  refine pickO (fun _ => ⟨-1, oC.v, oM.v⟩) (fun c2 => ?_)
  obtain ⟨n, -, hn, rfl⟩ := q_within_in (a := 0) (b := n0) (by omega) (by omega) c2
  obtain ⟨E, E1, E2, E3⟩ := C_know h m2 m0 hn
  obtain ⟨G, G1, G2, G3⟩ := M_layFalse m0 m4 hn
  have la := (lkA_le (N := n) m4 n hn).2
  have hE := St_sC E2 h
  have z1 : f_Rows_size (7 * E.2.2.1 + 1) E = some (nI ni) := by
    unfold f_Rows_size
    rw [(St_z hE 1 (by omega)).trans i2]
  have ct := isCountable_eq (H := E) (by omega) E3.2.2.2.2.2.2.2.1
  have j1 : ai_in (1 : Int32) 8000 := in8 (k := 1) (by omega)
  have v1 : G.1 13 46 (1 : Int32).toNatClampNeg = nI ni := (G2.mS 1).trans i2
  rw [E1, G1, Option.bind_some, Option.bind_some, z1, Option.bind_some, G3.1]
  unfold f_Ledger_beyondLuck
  have un : ∀ (hz : ¬ (1 ≤ lkA (mS hm) n 552 n ∧ lkA (mS hm) n 552 n ≤ 60)), f_Ledger_beyondLuck_l5 NF NF (nI ni) (-2) 1 E = some (-2) := by
    intro hz
    show f_Ledger_beyondLuck_c5 NF (f_Ledger_beyondLuck_l5 NF 999999) (nI ni) (-2) 1 E = _
    unfold f_Ledger_beyondLuck_c5
    rw [ct, if_neg hz, Option.bind_some, if_pos (rfl : (0 : Int32) = 0), ite_self]
  by_cases s0 : lkA (mS hm) n 552 n = 0
  · rw [un (by omega), Option.bind_some, s0, if_pos (show nI 0 = 0 from rfl)]
    exact ⟨-2, ⟨E, rfl, E2⟩, ⟨G, rfl, G2⟩⟩
  rw [if_neg (show ¬ nI (lkA (mS hm) n 552 n) = 0 from fun q => s0 ((nI_eq (b := 0) (by omega) (by omega)).mp q))]
  by_cases s1 : 60 < lkA (mS hm) n 552 n
  · rw [un (by omega), Option.bind_some, if_pos (show (60 : Int32) < nI (lkA (mS hm) n 552 n) from nI_lt (a := 60) s1 (by omega))]
    exact ⟨-2, ⟨E, rfl, E2⟩, ⟨G, rfl, G2⟩⟩
  have hA : lkA (mS hm) n 552 n < 61 := by omega
  rw [if_neg (show ¬ (60 : Int32) < nI (lkA (mS hm) n 552 n) from nI_nlt (a := 60) (by omega) (by omega))]
  rw [if_pos (show 1 ≤ lkA (mS hm) n 552 n ∧ lkA (mS hm) n 552 n ≤ 60 by omega)] at ct
  have lp : ∀ (q p u u' : Nat) (best : Int32) (x y : Int64), p + q = ni + 1 → q < u → q < u' → 0 < p → (best = -2 ∨ ∃ r, r < 5 ∧ best = nI r ∧ x = lN (wMore (mS hm) n r) ∧ y = lN (wAll (mS hm) n r)) → ∃ v, f_Ledger_beyondLuck_l5 NF u (nI ni) best (nI p) E = some v ∧ f_M_whose_l45 NF u' best x y (nI p) G = some (v, G) := by
    intro q
    induction q with
    | zero =>
      intro p u u' best x y e1 e2 e3 e4 J
      obtain ⟨u, rfl⟩ : ∃ m, u = m + 1 := ⟨u - 1, by omega⟩
      obtain ⟨u', rfl⟩ : ∃ m, u' = m + 1 := ⟨u' - 1, by omega⟩
      refine ⟨best, ?_, ?_⟩
      · show f_Ledger_beyondLuck_c5 NF (f_Ledger_beyondLuck_l5 NF u) (nI ni) best (nI p) E = _
        unfold f_Ledger_beyondLuck_c5
        rw [if_pos (nI_lt (by omega) (by omega))]
      · show f_M_whose_c45 NF (f_M_whose_l45 NF u') best x y (nI p) G = _
        unfold f_M_whose_c45
        rw [if_pos j1, v1, if_pos (nI_lt (by omega) (by omega))]
    | succ q ih =>
      intro p u u' best x y e1 e2 e3 e4 J
      obtain ⟨u, rfl⟩ : ∃ m, u = m + 1 := ⟨u - 1, by omega⟩
      obtain ⟨u', rfl⟩ : ∃ m, u' = m + 1 := ⟨u' - 1, by omega⟩
      show ∃ v, f_Ledger_beyondLuck_c5 NF (f_Ledger_beyondLuck_l5 NF u) (nI ni) best (nI p) E = some v ∧ f_M_whose_c45 NF (f_M_whose_l45 NF u') best x y (nI p) G = some (v, G)
      unfold f_Ledger_beyondLuck_c5 f_M_whose_c45 f_Ledger_beyondLuck_b42 f_Ledger_beyondLuck_b40 f_M_whose_b123 f_M_whose_b113
      have ip : ai_in (nI p) 5 := q_in (by omega) (by omega)
      have yp : (nI p).toNatClampNeg = p := q_cl (by omega)
      have ye : G.1 13 60 (nI p).toNatClampNeg = nI (lk (mS hm) n 552 p n) := by rw [yp]; exact (G3.2.2 p (by omega)).1
      have l1 := lk_le (f := mS hm) (N := n) (q := 552) (p := p) n
      have sk := fun best x y J => ih (p + 1) u u' best x y (by omega) (by omega) (by omega) (by omega) J
      rw [if_neg (nI_nlt (by omega) (by omega)), ct, Option.bind_some, if_neg q_10, (LD_seen (sC_RC E2 h.1) E3 (p := p) (by omega)).1, Option.bind_some, if_pos j1, v1, if_neg (nI_nlt (by omega) (by omega)), if_pos ip, ye]
      unfold f_Ledger_beyondLuck_b42 f_M_whose_b123
      rw [nI_1]
      by_cases s2 : lk (mS hm) n 552 p n = 0
      · rw [s2, if_neg (show ¬ (0 : Int32) < nI 0 by decide), if_pos (show nI 0 = 0 from rfl)]
        exact sk _ _ _ J
      have s3 : ¬ nI (lk (mS hm) n 552 p n) = 0 := fun q => s2 ((nI_eq (b := 0) (by omega) (by omega)).mp q)
      rw [if_pos (show (0 : Int32) < nI (lk (mS hm) n 552 p n) from nI_lt (a := 0) (by omega) (by omega)), if_neg s3, M_more G3 hA m4 hn (by omega), Option.bind_some, if_pos ip, G3.1, M_chosen hA (by omega), Option.bind_some]
      have tk := sk (nI p) (lN (wMore (mS hm) n p)) (lN (wAll (mS hm) n p)) (Or.inr ⟨p, by omega, rfl, rfl, rfl⟩)
      rcases J with rfl | ⟨r, r5, rfl, rfl, rfl⟩
      · rw [if_pos rfl, if_pos (show (-2 : Int32) < 0 by decide)]
        exact tk
      · rw [if_neg (show ¬ nI r = -2 from fun z => nI_pos (n := r) (by omega) (by rw [z]; decide)), if_neg (nI_pos (by omega)), C_isLess (sC_RC E2 h.1) E3 hA m4 hn (by omega) r5, Option.bind_some]
        have ml := M_isLess (a := wMore (mS hm) n p) (b := wAll (mS hm) n p) (c := wMore (mS hm) n r) (d := wAll (mS hm) n r) (wAll_in hA p).1 (wAll_in hA r).1 (wMore_lt hA m4 hn p) (wAll_in hA p).2 (wMore_lt hA m4 hn r) (by have := (wAll_in hA r).2; omega) G
        rw [show f_M_isLess NF (lN (wMore (mS hm) n p)) (lN (wy (lkA (mS hm) n 552 n) (lk (mS hm) n 552 p n))) _ _ G = _ from ml, Option.bind_some]
        cases lsP 124 (wMore (mS hm) n p) (wAll (mS hm) n p) (wMore (mS hm) n r) (wAll (mS hm) n r) false with
        | false => exact sk _ _ _ (Or.inr ⟨r, r5, rfl, rfl, rfl⟩)
        | true => exact tk
  obtain ⟨v, A, B⟩ := lp ni 1 NF NF (-2) 0 1 (by omega) (NF_gt (by omega)) (NF_gt (by omega)) (by omega) (Or.inl rfl)
  rw [show f_Ledger_beyondLuck_l5 NF NF (nI ni) (-2) 1 E = _ from A, Option.bind_some, show f_M_whose_l45 NF NF (-2) 0 1 1 G = _ from B]
  exact ⟨v, ⟨E, rfl, E2⟩, ⟨G, rfl, G2⟩⟩)
