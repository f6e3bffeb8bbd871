/-! PAIRS: jars, ends -/
theorem isJars_eq {c : Nat} {hc hm : sh_H} (h : St c hc hm) (x y z : Int32) : (f_CB_isJars x y z hc = some 0 ∧ f_M_isJars x y z hm = some 0) ∨ (f_CB_isJars x y z hc = some 1 ∧ f_M_isJars x y z hm = some 1 ∧ ∃ p n b n0, x = nI (p + 1) ∧ y = nI n ∧ z = nI b ∧ p < 4 ∧ b ≤ 501 ∧ n ≤ n0 ∧ n0 ≤ 60 ∧ mS hm 8 = nI n0 ∧ ∀ i, i < n0 → BKi (mS hm) i) := by
  obtain ⟨n0, m0, m1, m2, m3, m4⟩ := St_b h
  obtain ⟨ni, i1, i2, -⟩ := (St_T h).2.1
  unfold f_CB_isJars f_M_isJars f_CB_isJars_b34 f_M_isJars_b31
  simp only [Text_isIsland, M_isIsland, CB_isKnown, M_isKnown, CB_within, M_isIn, St_z h 1 (by omega), i2, m1, m2, Option.bind_some, q_nar0, q_nar1]
  by_cases c1 : q_isl x (nI ni) = 0
  · rw [if_pos c1]; exact Or.inl ⟨rfl, rfl⟩
  rw [if_neg c1]
  by_cases c2 : q_within y 0 (nI n0) = 0
  · rw [if_pos c2]; exact Or.inl ⟨rfl, rfl⟩
  rw [if_neg c2]
  by_cases c3 : q_within z 1 501 = 0
  · rw [if_pos c3]; exact Or.inl ⟨rfl, rfl⟩
  rw [if_neg c3]
  obtain ⟨p, hp, rfl⟩ := q_isl_in (by omega) c1
  obtain ⟨n, -, hn, rfl⟩ := q_within_in (a := 0) (b := n0) (by omega) (by omega) c2
  obtain ⟨b, -, hb, rfl⟩ := q_within_in (a := 1) (b := 501) (by omega) (by omega) c3
  exact Or.inr ⟨rfl, rfl, p, n, b, n0, rfl, rfl, rfl, by omega, hb, hn, m0, rfl, m4⟩
def Qj (w : Int32) (hc G : sh_H) (A B : Option (Int32 × sh_H)) : Prop := ∃ v E, A = some (nI v, E) ∧ sC E hc ∧ B = some ((if w = 0 then E.1 3 0 6 else if w = 1 then E.1 3 0 7 else nI v), G)
theorem P_jars (a1 a2 a3 a4 : Int32) : Pair (f_CB_jars NF a1 a2 a3 a4) (f_M_jars NF a1 a2 a3 a4) := Pair.o (by
  intro c hc hm _ h
  have e16 : 4 * 0 + 16 = 16 := rfl
  unfold f_CB_jars f_M_jars
  simp only [e16]
  rcases isJars_eq h a1 a2 a3 with ⟨j1, j2⟩ | ⟨j1, j2, p, n, b, n0, rfl, rfl, rfl, hp, hb, hn, m0, m2, m4⟩
  · rw [j1, j2]
    exact ⟨-1, oC.v, oM.v⟩
  rw [j1, j2, Option.bind_some, Option.bind_some, if_neg q_10, if_neg q_10, CB_within, M_isIn, Option.bind_some, Option.bind_some]
  refine pickO (fun _ => ⟨-1, oC.v, oM.v⟩) (fun _ => ?_)
  obtain ⟨nk, k1, k2, k3⟩ := (St_T h).1
  obtain ⟨E, E1, E2, E3⟩ := C_know h m2 m0 hn
  obtain ⟨G, G1, G2, G3⟩ := M_layBooks m0 m4 hn k2 k1 (p + 1)
  have tE : E.2.2.1 = hc.2.2.1 := E2.tx
  rw [E1, G1, Option.bind_some, Option.bind_some, tE]
  have k3' : ∀ r, r < nk → rg (mS hm) (20 + 3 * r) 1 500 := fun r hr => (k3 r hr).1
  have obd : ∀ k l, ofs (mS hm) n (p + 1) b k l nk < 2 ^ 31 := fun k l => by
    have := ofs_le m4 hn m0 (p + 1) b k l nk
    omega
  have cO := fun (E' : sh_H) (x : sC E' hc) (L : LD E' (mS hm) n n n) (k l : Nat) (hk : k ≤ 10) (hl : l ≤ 10) => C_off h x m2 m0 m4 hn k2 k1 k3' L (p := p + 1) (b := b) (by omega) hb hk hl
  have mO := fun (k l : Nat) (hk : k ≤ 10) (hl : l ≤ 10) => M_off G2 m0 m4 hn k2 k1 k3' G3 hb hk hl
  have inn : ∀ (k : Nat) (hk : k ≤ 10) (K : Nat → Int32 → Int32 → Int32 → Int32 → sh_H → Option (Int32 × sh_H)) (K' : Int32 → Int32 → Int32 → Int32 → Int32 → Int32 → sh_H → Option (Int32 × sh_H)), (∀ E v m5 m6, sC E hc → LD E (mS hm) n n n → v < 2 ^ 31 → E.1 3 0 6 = m5 → E.1 3 0 7 = m6 → Qj a4 hc G (K hc.2.2.1 (nI (p + 1)) (nI b) (nI v) (nI k) E) (K' (nI b) a4 m5 m6 (nI v) (nI k) G)) → ∀ (q l u u' : Nat) (E : sh_H) (best m5 m6 : Int32), l + q = 11 → q < u → q < u' → sC E hc → LD E (mS hm) n n n → ((best = -1 ∧ k = 0 ∧ l = 0) ∨ ∃ v, v < 2 ^ 31 ∧ best = nI v ∧ E.1 3 0 6 = m5 ∧ E.1 3 0 7 = m6) → Qj a4 hc G (f_Ledger_leastOff_l16 NF K u hc.2.2.1 (nI (p + 1)) (nI b) best (nI k) (nI l) E) (f_M_jars_l50 NF K' u' (nI b) a4 m5 m6 best (nI k) (nI l) G) := by
    intro k hk K K' hK q
    induction q with
    | zero =>
      intro l u u' E best m5 m6 e1 e2 e3 x L J
      obtain ⟨u, rfl⟩ : ∃ m, u = m + 1 := ⟨u - 1, by omega⟩
      obtain ⟨u', rfl⟩ : ∃ m, u' = m + 1 := ⟨u' - 1, by omega⟩
      obtain rfl : l = 11 := by omega
      show Qj a4 hc G (f_Ledger_leastOff_c16 NF K (f_Ledger_leastOff_l16 NF K u) hc.2.2.1 (nI (p + 1)) (nI b) best (nI k) (nI 11) E) (f_M_jars_c50 NF K' (f_M_jars_l50 NF K' u') (nI b) a4 m5 m6 best (nI k) (nI 11) G)
      unfold f_Ledger_leastOff_c16 f_M_jars_c50
      rw [if_pos (show (10 : Int32) < nI 11 by decide), if_neg (show ¬ nI 11 < (11 : Int32) by decide)]
      rcases J with ⟨-, -, q⟩ | ⟨v, v1, rfl, v2, v3⟩
      · omega
      · exact hK E v m5 m6 x L v1 v2 v3
    | succ q ih =>
      intro l u u' E best m5 m6 e1 e2 e3 x L J
      obtain ⟨u, rfl⟩ : ∃ m, u = m + 1 := ⟨u - 1, by omega⟩
      obtain ⟨u', rfl⟩ : ∃ m, u' = m + 1 := ⟨u' - 1, by omega⟩
      show Qj a4 hc G (f_Ledger_leastOff_c16 NF K (f_Ledger_leastOff_l16 NF K u) hc.2.2.1 (nI (p + 1)) (nI b) best (nI k) (nI l) E) (f_M_jars_c50 NF K' (f_M_jars_l50 NF K' u') (nI b) a4 m5 m6 best (nI k) (nI l) G)
      unfold f_Ledger_leastOff_c16 f_M_jars_c50 f_Ledger_leastOff_b49 f_Ledger_leastOff_b65 f_M_jars_b83 f_M_jars_b95
      rw [if_neg (show ¬ (10 : Int32) < nI l from nI_nlt (b := l) (a := 10) (by omega) (by omega)), if_pos (show nI l < (11 : Int32) from nI_lt (b := 11) (by omega) (by omega)), cO E x L k l hk (by omega), mO k l hk (by omega), Option.bind_some, Option.bind_some, nI_1]
      have st : Qj a4 hc G (f_Ledger_leastOff_l16 NF K u hc.2.2.1 (nI (p + 1)) (nI b) (nI (ofs (mS hm) n (p + 1) b k l nk)) (nI k) (nI (l + 1)) (sh_pI (sh_pI E 3 0 6 (nI k)) 3 0 7 (nI l))) (f_M_jars_l50 NF K' u' (nI b) a4 (nI k) (nI l) (nI (ofs (mS hm) n (p + 1) b k l nk)) (nI k) (nI (l + 1)) G) := by
        refine ih (l + 1) u u' _ _ _ _ (by omega) (by omega) (by omega) (sC.pI (by unfold scC; omega) (sC.pI (by unfold scC; omega) x)) L (Or.inr ⟨_, obd k l, rfl, ?_, pI_at _ _ _ _ _⟩)
        rw [pI_ne (by omega), pI_at]
      rcases J with ⟨rfl, -, -⟩ | ⟨v, v1, rfl, v2, v3⟩
      · rw [if_pos rfl, if_pos q_n1]
        exact st
      · rw [if_neg (show ¬ nI v = -1 from fun z => nI_pos v1 (by rw [z]; decide)), if_neg (nI_pos v1)]
        by_cases e : ofs (mS hm) n (p + 1) b k l nk < v
        · rw [if_pos (nI_lt e v1), if_pos (nI_lt e v1)]
          exact st
        · rw [if_neg (nI_nlt (by omega) (obd k l)), if_neg (nI_nlt (by omega) (obd k l))]
          exact ih (l + 1) u u' E _ m5 m6 (by omega) (by omega) (by omega) x L (Or.inr ⟨v, v1, rfl, v2, v3⟩)
  have out : ∀ (q k u u' : Nat) (E : sh_H) (best m5 m6 : Int32), k + q = 11 → q < u → q < u' → sC E hc → LD E (mS hm) n n n → ((best = -1 ∧ k = 0) ∨ ∃ v, v < 2 ^ 31 ∧ best = nI v ∧ E.1 3 0 6 = m5 ∧ E.1 3 0 7 = m6) → Qj a4 hc G (f_Ledger_leastOff_l6 NF u hc.2.2.1 (nI (p + 1)) (nI b) best (nI k) E) (f_M_jars_l40 NF (f_M_jars_b107 NF) u' (nI b) a4 m5 m6 best (nI k) G) := by
    intro q
    induction q with
    | zero =>
      intro k u u' E best m5 m6 e1 e2 e3 x L J
      obtain ⟨u, rfl⟩ : ∃ m, u = m + 1 := ⟨u - 1, by omega⟩
      obtain ⟨u', rfl⟩ : ∃ m, u' = m + 1 := ⟨u' - 1, by omega⟩
      obtain rfl : k = 11 := by omega
      show Qj a4 hc G (f_Ledger_leastOff_c6 NF (f_Ledger_leastOff_l6 NF u) hc.2.2.1 (nI (p + 1)) (nI b) best (nI 11) E) (f_M_jars_c40 NF (f_M_jars_b107 NF) (f_M_jars_l40 NF (f_M_jars_b107 NF) u') (nI b) a4 m5 m6 best (nI 11) G)
      unfold f_Ledger_leastOff_c6 f_M_jars_c40 f_M_jars_b107
      rw [if_pos (show (10 : Int32) < nI 11 by decide), if_neg (show ¬ nI 11 < (11 : Int32) by decide)]
      rcases J with ⟨-, q⟩ | ⟨v, v1, rfl, rfl, rfl⟩
      · omega
      · refine ⟨v, E, rfl, x, ?_⟩
        split
        · rfl
        · split <;> rfl
    | succ q ih =>
      intro k u u' E best m5 m6 e1 e2 e3 x L J
      obtain ⟨u, rfl⟩ : ∃ m, u = m + 1 := ⟨u - 1, by omega⟩
      obtain ⟨u', rfl⟩ : ∃ m, u' = m + 1 := ⟨u' - 1, by omega⟩
      show Qj a4 hc G (f_Ledger_leastOff_c6 NF (f_Ledger_leastOff_l6 NF u) hc.2.2.1 (nI (p + 1)) (nI b) best (nI k) E) (f_M_jars_c40 NF (f_M_jars_b107 NF) (f_M_jars_l40 NF (f_M_jars_b107 NF) u') (nI b) a4 m5 m6 best (nI k) G)
      unfold f_Ledger_leastOff_c6 f_M_jars_c40
      rw [if_neg (show ¬ (10 : Int32) < nI k from nI_nlt (b := k) (a := 10) (by omega) (by omega)), if_pos (show nI k < (11 : Int32) from nI_lt (b := 11) (by omega) (by omega))]
      refine inn k (by omega) _ _ (fun E v m5 m6 x L v1 v2 v3 => ?_) 11 0 NF NF E best m5 m6 (by omega) (NF_gt (by omega)) (NF_gt (by omega)) x L ?_
      · unfold f_Ledger_leastOff_b71 f_M_jars_b101
        rw [nI_1]
        exact ih (k + 1) u u' E _ m5 m6 (by omega) (by omega) (by omega) x L (Or.inr ⟨v, v1, rfl, v2, v3⟩)
      · rcases J with ⟨q1, q2⟩ | q1
        · exact Or.inl ⟨q1, q2, rfl⟩
        · exact Or.inr q1
  obtain ⟨v, E', A, x, B⟩ := out 11 0 NF NF E (-1) 0 0 (by omega) (NF_gt (by omega)) (NF_gt (by omega)) E2 E3 (Or.inl ⟨rfl, rfl⟩)
  unfold f_Ledger_leastOff f_Ledger_kept f_Ledger_lost
  rw [show f_Ledger_leastOff_l6 NF NF hc.2.2.1 (nI (p + 1)) (nI b) (-1) 0 E = _ from A, sh_b2_some, show f_M_jars_l40 NF (f_M_jars_b107 NF) NF (nI b) a4 0 0 (-1) 0 G = _ from B]
  refine ⟨_, ⟨E', ?_, x⟩, ⟨G, rfl, G2⟩⟩
  by_cases w0 : a4 = 0
  · rw [if_pos w0, if_pos w0]; rfl
  · rw [if_neg w0, if_neg w0]
    by_cases w1 : a4 = 1
    · rw [if_pos w1, if_pos w1]; rfl
    · rw [if_neg w1, if_neg w1])
/-- is there an l of q from l on within o -/
def nrr (g : Nat → Nat) (o : Nat) : Nat → Nat → Bool
  | 0, _ => false
  | q + 1, l => if o < g l then nrr g o q (l + 1) else true
theorem P_ends (a1 a2 a3 a4 : Int32) : Pair (f_CB_ends NF a1 a2 a3 a4) (f_M_ends NF a1 a2 a3 a4) := Pair.o (by
  intro c hc hm _ h
  have e16 : 4 * 0 + 16 = 16 := rfl
  unfold f_CB_ends f_M_ends
  simp only [e16]
  rcases isJars_eq h a1 a2 a3 with ⟨j1, j2⟩ | ⟨j1, j2, p, n, b, n0, rfl, rfl, rfl, hp, hb, hn, m0, m2, m4⟩
  · rw [j1, j2]
    exact ⟨-1, oC.v, oM.v⟩
  rw [j1, j2, Option.bind_some, Option.bind_some, if_neg q_10, if_neg q_10, CB_within, M_isIn, Option.bind_some, Option.bind_some]
  refine pickO (fun _ => ⟨-1, oC.v, oM.v⟩) (fun c4 => ?_)
  obtain ⟨o, -, ho, rfl⟩ := q_within_in (a := 0) (b := 99999) (by omega) (by omega) c4
  obtain ⟨nk, k1, k2, k3⟩ := (St_T h).1
  obtain ⟨E, E1, E2, E3⟩ := C_know h m2 m0 hn
  obtain ⟨G, G1, G2, G3⟩ := M_layBooks m0 m4 hn k2 k1 (p + 1)
  have tE : E.2.2.1 = hc.2.2.1 := E2.tx
  rw [E1, G1, Option.bind_some, Option.bind_some, tE]
  have k3' : ∀ r, r < nk → rg (mS hm) (20 + 3 * r) 1 500 := fun r hr => (k3 r hr).1
  have obd : ∀ k l, ofs (mS hm) n (p + 1) b k l nk < 2 ^ 31 := fun k l => by
    have := ofs_le m4 hn m0 (p + 1) b k l nk
    omega
  have cO := fun (k l : Nat) (hk : k ≤ 10) (hl : l ≤ 10) => C_off h E2 m2 m0 m4 hn k2 k1 k3' E3 (p := p + 1) (b := b) (by omega) hb hk hl
  have mO := fun (k l : Nat) (hk : k ≤ 10) (hl : l ≤ 10) => M_off G2 m0 m4 hn k2 k1 k3' G3 hb hk hl
  have cN : ∀ (k : Nat) (hk : k ≤ 10) (q l u : Nat), l + q = 11 → q < u → f_Ledger_isNear_l3 NF u hc.2.2.1 (nI (p + 1)) (nI b) (nI k) (nI o) (nI l) E = some (if nrr (fun l => ofs (mS hm) n (p + 1) b k l nk) o q l = true then 1 else 0) := by
    intro k hk q
    induction q with
    | zero =>
      intro l u e1 e2
      obtain ⟨u, rfl⟩ : ∃ m, u = m + 1 := ⟨u - 1, by omega⟩
      obtain rfl : l = 11 := by omega
      show f_Ledger_isNear_c3 NF (f_Ledger_isNear_l3 NF u) hc.2.2.1 (nI (p + 1)) (nI b) (nI k) (nI o) (nI 11) E = _
      unfold f_Ledger_isNear_c3
      rw [if_pos (show (10 : Int32) < nI 11 by decide), q_nar0]
      rfl
    | succ q ih =>
      intro l u e1 e2
      obtain ⟨u, rfl⟩ : ∃ m, u = m + 1 := ⟨u - 1, by omega⟩
      show f_Ledger_isNear_c3 NF (f_Ledger_isNear_l3 NF u) hc.2.2.1 (nI (p + 1)) (nI b) (nI k) (nI o) (nI l) E = _
      unfold f_Ledger_isNear_c3
      rw [if_neg (show ¬ (10 : Int32) < nI l from nI_nlt (b := l) (a := 10) (by omega) (by omega)), cO k l hk (by omega), Option.bind_some, nI_1, ih (l + 1) u (by omega) (by omega), q_nar1]
      show _ = some (if (if o < ofs (mS hm) n (p + 1) b k l nk then nrr (fun l => ofs (mS hm) n (p + 1) b k l nk) o q (l + 1) else true) = true then 1 else 0)
      by_cases e : o < ofs (mS hm) n (p + 1) b k l nk
      · rw [if_pos (nI_lt e (obd k l)), if_pos e]
      · rw [if_neg (nI_nlt (by omega) (by omega)), if_neg e, if_pos rfl]
  have mN : ∀ (k : Nat) (hk : k ≤ 10) (K : Int32 → Int32 → Int32 → Int32 → Int32 → Int32 → sh_H → Option (Int32 × sh_H)) (l5 l6 : Int32) (q l u : Nat), l + q = 11 → q + 1 < u → f_M_ends_l52 NF K u (nI b) (nI o) l5 l6 (nI k) 0 (nI l) G = K (nI b) (nI o) l5 l6 (nI k) (if nrr (fun l => ofs (mS hm) n (p + 1) b k l nk) o q l = true then 1 else 0) G := by
    intro k hk K l5 l6 q
    induction q with
    | zero =>
      intro l u e1 e2
      obtain ⟨u, rfl⟩ : ∃ m, u = m + 1 := ⟨u - 1, by omega⟩
      obtain rfl : l = 11 := by omega
      show f_M_ends_c52 NF K (f_M_ends_l52 NF K u) (nI b) (nI o) l5 l6 (nI k) 0 (nI 11) G = _
      unfold f_M_ends_c52
      rw [if_neg (show ¬ nI 11 < (11 : Int32) by decide)]
      rfl
    | succ q ih =>
      intro l u e1 e2
      obtain ⟨u, rfl⟩ : ∃ m, u = m + 1 := ⟨u - 1, by omega⟩
      show f_M_ends_c52 NF K (f_M_ends_l52 NF K u) (nI b) (nI o) l5 l6 (nI k) 0 (nI l) G = K (nI b) (nI o) l5 l6 (nI k) (if (if o < ofs (mS hm) n (p + 1) b k l nk then nrr (fun l => ofs (mS hm) n (p + 1) b k l nk) o q (l + 1) else true) = true then 1 else 0) G
      unfold f_M_ends_c52 f_M_ends_b83
      rw [if_pos (show nI l < (11 : Int32) from nI_lt (b := 11) (by omega) (by omega)), if_pos (rfl : (0 : Int32) = 0), mO k l hk (by omega), Option.bind_some, nI_1]
      by_cases e : o < ofs (mS hm) n (p + 1) b k l nk
      · rw [if_pos (nI_lt e (obd k l)), if_pos e]
        exact ih (l + 1) u (by omega) (by omega)
      · rw [if_neg (nI_nlt (by omega) (by omega)), if_neg e, if_pos rfl]
        obtain ⟨u, rfl⟩ : ∃ m, u = m + 1 := ⟨u - 1, by omega⟩
        show f_M_ends_c52 NF K (f_M_ends_l52 NF K u) (nI b) (nI o) l5 l6 (nI k) 1 (nI (l + 1)) G = _
        unfold f_M_ends_c52
        rw [if_neg q_10, ite_self]
  have out : ∀ (q k u u' : Nat) (l5 l6 : Int32), k + q = 11 → q < u → q < u' → (l5 = -1 ∨ ∃ v, v < 2 ^ 31 ∧ l5 = nI v) → ∃ r, f_Ledger_keptEnds_l9 NF (f_Ledger_keptEnds_b55 NF) u hc.2.2.1 (nI (p + 1)) (nI b) (nI o) l5 l6 (nI k) E = some r ∧ f_M_ends_l39 NF (f_M_ends_b118 NF) u' (nI b) (nI o) l5 l6 (nI k) G = some (r, G) := by
    intro q
    induction q with
    | zero =>
      intro k u u' l5 l6 e1 e2 e3 J
      obtain ⟨u, rfl⟩ : ∃ m, u = m + 1 := ⟨u - 1, by omega⟩
      obtain ⟨u', rfl⟩ : ∃ m, u' = m + 1 := ⟨u' - 1, by omega⟩
      obtain rfl : k = 11 := by omega
      show ∃ r, f_Ledger_keptEnds_c9 NF (f_Ledger_keptEnds_b55 NF) (f_Ledger_keptEnds_l9 NF (f_Ledger_keptEnds_b55 NF) u) hc.2.2.1 (nI (p + 1)) (nI b) (nI o) l5 l6 (nI 11) E = some r ∧ f_M_ends_c39 NF (f_M_ends_b118 NF) (f_M_ends_l39 NF (f_M_ends_b118 NF) u') (nI b) (nI o) l5 l6 (nI 11) G = some (r, G)
      unfold f_Ledger_keptEnds_c9 f_M_ends_c39 f_Ledger_keptEnds_b55 f_M_ends_b118
      rw [if_pos (show (10 : Int32) < nI 11 by decide), if_neg (show ¬ nI 11 < (11 : Int32) by decide)]
      rcases J with rfl | ⟨v, v1, rfl⟩
      · rw [if_pos rfl, if_pos q_n1]
        exact ⟨-2, rfl, rfl⟩
      · rw [if_neg (show ¬ nI v = -1 from fun z => nI_pos v1 (by rw [z]; decide)), if_neg (nI_pos v1)]
        exact ⟨_, rfl, rfl⟩
    | succ q ih =>
      intro k u u' l5 l6 e1 e2 e3 J
      obtain ⟨u, rfl⟩ : ∃ m, u = m + 1 := ⟨u - 1, by omega⟩
      obtain ⟨u', rfl⟩ : ∃ m, u' = m + 1 := ⟨u' - 1, by omega⟩
      show ∃ r, f_Ledger_keptEnds_c9 NF (f_Ledger_keptEnds_b55 NF) (f_Ledger_keptEnds_l9 NF (f_Ledger_keptEnds_b55 NF) u) hc.2.2.1 (nI (p + 1)) (nI b) (nI o) l5 l6 (nI k) E = some r ∧ f_M_ends_c39 NF (f_M_ends_b118 NF) (f_M_ends_l39 NF (f_M_ends_b118 NF) u') (nI b) (nI o) l5 l6 (nI k) G = some (r, G)
      unfold f_Ledger_keptEnds_c9 f_M_ends_c39 f_Ledger_isNear f_Ledger_keptEnds_b49 f_Ledger_keptEnds_b43
      rw [if_neg (show ¬ (10 : Int32) < nI k from nI_nlt (b := k) (a := 10) (by omega) (by omega)), if_pos (show nI k < (11 : Int32) from nI_lt (b := 11) (by omega) (by omega)), show f_Ledger_isNear_l3 NF NF hc.2.2.1 (nI (p + 1)) (nI b) (nI k) (nI o) 0 E = _ from cN k (by omega) 11 0 NF (by omega) (NF_gt (by omega)), Option.bind_some, show f_M_ends_l52 NF _ NF (nI b) (nI o) l5 l6 (nI k) 0 0 G = _ from mN k (by omega) _ l5 l6 11 0 NF (by omega) (NF_gt (by omega)), nI_1]
      unfold f_M_ends_b91 f_M_ends_b108 f_M_ends_b112 f_Ledger_keptEnds_b49
      rw [nI_1]
      cases nrr (fun l => ofs (mS hm) n (p + 1) b k l nk) o 11 0 with
      | false =>
        rw [if_neg (show ¬ false = true by decide), if_pos (rfl : (0 : Int32) = 0), if_pos (rfl : (0 : Int32) = 0)]
        exact ih (k + 1) u u' l5 l6 (by omega) (by omega) (by omega) J
      | true =>
        rw [if_pos rfl, if_neg q_10, if_neg q_10]
        rcases J with rfl | ⟨v, v1, rfl⟩
        · rw [if_pos rfl, if_pos q_n1]
          exact ih (k + 1) u u' _ _ (by omega) (by omega) (by omega) (Or.inr ⟨k, by omega, rfl⟩)
        · rw [if_neg (show ¬ nI v = -1 from fun z => nI_pos v1 (by rw [z]; decide)), if_neg (nI_pos v1)]
          exact ih (k + 1) u u' _ _ (by omega) (by omega) (by omega) (Or.inr ⟨v, v1, rfl⟩)
  obtain ⟨r, A, B⟩ := out 11 0 NF NF (-1) (-1) (by omega) (NF_gt (by omega)) (NF_gt (by omega)) (Or.inl rfl)
  unfold f_Ledger_keptEnds
  rw [show f_Ledger_keptEnds_l9 NF (f_Ledger_keptEnds_b55 NF) NF hc.2.2.1 (nI (p + 1)) (nI b) (nI o) (-1) (-1) 0 E = _ from A, Option.bind_some, show f_M_ends_l39 NF (f_M_ends_b118 NF) NF (nI b) (nI o) (-1) (-1) 0 G = _ from B]
  exact ⟨r, ⟨E, rfl, E2⟩, ⟨G, rfl, G2⟩⟩)
