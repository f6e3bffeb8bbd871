/-! PAIRS: pool, saved, holds -/
theorem two_pow : ∀ n, n < 5 → (1 : Int32) <<< (nI n &&& 31) = nI (2 ^ n) := by decide +kernel
theorem one_shl : ∀ p, p < 5 → 1 ≤ p → (1 : Int32) <<< ((nI p - 1) &&& 31) = nI (2 ^ (p - 1)) := by decide +kernel
theorem isShare_eq {c : Nat} {hc hm : sh_H} (h : St c hc hm) (x y z : Int32) : (f_CB_isShare x y z hc = some 0 ∧ f_M_isPool x y z hm = some 0) ∨ (f_CB_isShare x y z hc = some 1 ∧ f_M_isPool x y z hm = some 1 ∧ ∃ k m u ni, x = nI k ∧ y = nI m ∧ z = nI u ∧ k < 6 ∧ m ≤ 11 ∧ u < 2 ^ ni ∧ ni ≤ 4 ∧ mS hm 1 = nI ni) := by
  obtain ⟨ni, i1, i2, -⟩ := (St_T h).2.1
  obtain ⟨nk, k1, k2, -⟩ := (St_T h).1
  have p16 : 2 ^ ni ≤ 2 ^ 4 := Nat.pow_le_pow_right (by omega) i1
  have p1 : 1 ≤ 2 ^ ni := Nat.one_le_two_pow
  have j1 : ai_in (1 : Int32) 8000 := in8 (k := 1) (by omega)
  have v1 : hm.1 13 46 (1 : Int32).toNatClampNeg = nI ni := i2
  unfold f_CB_isShare f_M_isPool f_CB_isShare_b44 f_M_isPool_b38 f_Rows_size
  simp only [Text_isKind, M_isKind, CB_isMonth, CB_within, M_isIn, St_z h 1 (by omega), St_z h 0 (by omega), i2, k2, v1, if_pos j1, two_pow ni (by omega), Option.bind_some, q_nar0, q_nar1]
  by_cases c1 : q_kind x (nI nk) = 0
  · rw [if_pos c1, if_pos c1]; exact Or.inl ⟨rfl, rfl⟩
  rw [if_neg c1, if_neg c1]
  by_cases c2 : q_within y 0 11 = 0
  · rw [if_pos c2, if_pos c2]; exact Or.inl ⟨rfl, rfl⟩
  rw [if_neg c2, if_neg c2]
  obtain ⟨k, hk, rfl⟩ := q_kind_in (by omega) c1
  obtain ⟨m, -, hm2, rfl⟩ := q_within_in (a := 0) (b := 11) (by omega) (by omega) c2
  by_cases c3 : z < 0
  · rw [if_pos (show q_within z 0 (nI (2 ^ ni) - 1) = 0 from q_within_0.mpr (Or.inl c3)), if_pos c3]
    exact Or.inl ⟨rfl, rfl⟩
  obtain ⟨u, hu, rfl⟩ := nI_of c3
  rw [if_neg c3, q_wm1 hu (by omega)]
  by_cases c4 : u < 2 ^ ni
  · rw [if_pos c4, if_neg q_10, if_pos (nI_lt c4 (by omega))]
    exact Or.inr ⟨rfl, rfl, k, m, u, ni, rfl, rfl, rfl, by omega, hm2, c4, i1, rfl⟩
  · rw [if_neg c4, if_pos (rfl : (0 : Int32) = 0), if_neg (nI_nlt (by omega) hu)]
    exact Or.inl ⟨rfl, rfl⟩
theorem P_pool (a1 a2 a3 : Int32) : Pair (f_CB_pool NF a1 a2 a3) (f_M_pool NF a1 a2 a3) := Pair.o (by
  intro c hc hm hc5 h
  unfold f_CB_pool f_M_pool
  rcases isShare_eq h a1 a2 a3 with ⟨j1, j2⟩ | ⟨j1, j2, k, m, u, ni, rfl, rfl, rfl, hk, hm2, hu, i1, i2⟩
  · rw [j1, j2]
    exact ⟨-1, oC.v, oM.v⟩
  have p16 : 2 ^ ni ≤ 2 ^ 4 := Nat.pow_le_pow_right (by omega) i1
  rw [j1, j2, Option.bind_some, Option.bind_some, if_neg q_10, if_neg q_10]
  exact ⟨_, oC.b (C_harm h (by omega) i2 i1 hk (by omega)) (fun _ _ => oC.v), oM.b (M_poolOf h (by omega) i2 i1 hk (by omega) (sM.rf hm)) (fun _ _ => oM.v)⟩)
/-- what each of a set is harmed alone, together -/
def aln (f : Nat → Int32) (k m u n : Nat) : Nat → Nat → Nat
  | 0, _ => 0
  | q + 1, p => (if inb u p = true then pol f k m (2 ^ (p - 1)) n else 0) + aln f k m u n q (p + 1)
def svg (f : Nat → Int32) (k m u n : Nat) : Int32 := nI (aln f k m u n n 1) - nI (pol f k m u n)
theorem pw_lt {p : Nat} (hp : p < 5) (p1 : 1 ≤ p) : 2 ^ (p - 1) < 16 := by
  have : 2 ^ (p - 1) ≤ 2 ^ 3 := Nat.pow_le_pow_right (by omega) (by omega)
  omega
theorem C_saving {c : Nat} {hc hm : sh_H} (h : St c hc hm) (hc5 : c ≤ 512) {ni k m u : Nat} (i2 : mS hm 1 = nI ni) (i1 : ni ≤ 4) (hk : k < 6) (hu : u < 16) : oC (f_Stocks_saving NF hc.2.2.1 0 (nI k) (nI m) (nI u) hc) (svg (mS hm) k m u ni) hc := by
  have lp : ∀ (q p t A : Nat) (H : sh_H), p + q = ni + 1 → q < t → 1 ≤ p → A + aln (mS hm) k m u ni q p = aln (mS hm) k m u ni ni 1 → sC H hc → oC (f_Stocks_saving_l6 NF (f_Stocks_saving_b52 NF) t hc.2.2.1 0 (nI k) (nI m) (nI u) (nI A) (nI p) H) (svg (mS hm) k m u ni) H := by
    intro q
    induction q with
    | zero =>
      intro p t A H e1 e2 e3 e4 x
      obtain ⟨t, rfl⟩ : ∃ m, t = m + 1 := ⟨t - 1, by omega⟩
      have hH := St_sC x h
      have tH : H.2.2.1 = hc.2.2.1 := x.tx
      have z1 : H.1 6 (7 * hc.2.2.1 + 1) 3 = nI ni := by rw [← tH]; exact (St_z hH 1 (by omega)).trans i2
      show oC (f_Stocks_saving_c6 NF (f_Stocks_saving_b52 NF) (f_Stocks_saving_l6 NF (f_Stocks_saving_b52 NF) t) hc.2.2.1 0 (nI k) (nI m) (nI u) (nI A) (nI p) H) _ H
      unfold f_Stocks_saving_c6 f_Rows_size f_Stocks_saving_b52
      have eA : A = aln (mS hm) k m u ni ni 1 := e4
      rw [z1, Option.bind_some, if_pos (nI_lt (by omega) (by omega)), eA]
      have hh := C_harm hH hc5 i2 i1 hk hu (m := m)
      rw [tH] at hh
      exact oC.b hh (fun _ _ => oC.v)
    | succ q ih =>
      intro p t A H e1 e2 e3 e4 x
      obtain ⟨t, rfl⟩ : ∃ m, t = m + 1 := ⟨t - 1, by omega⟩
      have hH := St_sC x h
      have tH : H.2.2.1 = hc.2.2.1 := x.tx
      have z1 : H.1 6 (7 * hc.2.2.1 + 1) 3 = nI ni := by rw [← tH]; exact (St_z hH 1 (by omega)).trans i2
      show oC (f_Stocks_saving_c6 NF (f_Stocks_saving_b52 NF) (f_Stocks_saving_l6 NF (f_Stocks_saving_b52 NF) t) hc.2.2.1 0 (nI k) (nI m) (nI u) (nI A) (nI p) H) _ H
      unfold f_Stocks_saving_c6 f_Rows_size f_Stocks_saving_b46
      rw [z1, Option.bind_some, if_neg (nI_nlt (by omega) (by omega)), isIn_eq u p hu (by omega) e3, Option.bind_some, nI_1]
      have e5 : A + ((if inb u p = true then pol (mS hm) k m (2 ^ (p - 1)) ni else 0) + aln (mS hm) k m u ni q (p + 1)) = aln (mS hm) k m u ni ni 1 := e4
      cases b : inb u p with
      | false =>
        rw [b, if_neg (show ¬ false = true by decide), Nat.zero_add] at e5
        rw [if_neg (show ¬ false = true by decide), if_pos (rfl : (0 : Int32) = 0)]
        exact ih (p + 1) t A H (by omega) (by omega) (by omega) e5 x
      | true =>
        rw [b, if_pos rfl] at e5
        rw [if_pos rfl, if_neg q_10, one_shl p (by omega) e3]
        have hh := C_harm hH hc5 i2 i1 hk (pw_lt (p := p) (by omega) e3) (m := m)
        rw [tH] at hh
        refine oC.b hh (fun H' x' => ?_)
        rw [nI_add]
        exact ih (p + 1) t _ H' (by omega) (by omega) (by omega) (by omega) (x'.tr x)
  unfold f_Stocks_saving
  exact lp ni 1 NF 0 hc (by omega) (NF_gt (by omega)) (by omega) (Nat.zero_add _) (sC.rf hc)
theorem aln_0 {f : Nat → Int32} {k m u n : Nat} (hn : n ≤ 4) (hu : u < 2 ^ n) : ∀ q p, n < p → p + q ≤ 5 → aln f k m u n q p = 0 := by
  intro q
  induction q with
  | zero => intro p _ _; rfl
  | succ q ih =>
    intro p h1 h2
    show (if inb u p = true then _ else 0) + aln f k m u n q (p + 1) = 0
    rw [if_neg (fun z => by have := inb_0 n (by omega) u hu p (by omega) ⟨by omega, z⟩; omega), ih (p + 1) (by omega) (by omega)]
theorem aln_add {f : Nat → Int32} {k m u n : Nat} : ∀ q q' p, aln f k m u n (q + q') p = aln f k m u n q p + aln f k m u n q' (p + q) := by
  intro q
  induction q with
  | zero => intro q' p; rw [Nat.zero_add]; exact (Nat.zero_add _).symm
  | succ q ih =>
    intro q' p
    rw [show q + 1 + q' = (q + q') + 1 by omega]
    show (if inb u p = true then pol f k m (2 ^ (p - 1)) n else 0) + aln f k m u n (q + q') (p + 1) = (if inb u p = true then pol f k m (2 ^ (p - 1)) n else 0) + aln f k m u n q (p + 1) + aln f k m u n q' (p + (q + 1))
    rw [ih, show p + (q + 1) = p + 1 + q by omega]
    exact (Nat.add_assoc _ _ _).symm
theorem bit_eq0 : ∀ u, u < 16 → ∀ p, p < 4 → (nI u >>> (nI p &&& 31)) &&& 1 = if inb u (p + 1) = true then 1 else 0 := by decide +kernel
theorem M_savedOf {c : Nat} {hc hm H : sh_H} (h : St c hc hm) (hc5 : c ≤ 512) {ni k m u : Nat} (i2 : mS hm 1 = nI ni) (i1 : ni ≤ 4) (hk : k < 6) (hu : u < 2 ^ ni) (x : sM H hm) : oM (f_M_savedOf NF (nI k) (nI m) (nI u) H) (svg (mS hm) k m u ni) hm := by
  have p16 : 2 ^ ni ≤ 2 ^ 4 := Nat.pow_le_pow_right (by omega) i1
  have hu' : u < 16 := by omega
  have e4 : aln (mS hm) k m u ni 4 1 = aln (mS hm) k m u ni ni 1 := by
    have := aln_add (f := mS hm) (k := k) (m := m) (u := u) (n := ni) ni (4 - ni) 1
    rw [aln_0 i1 hu (4 - ni) (1 + ni) (by omega) (by omega), show ni + (4 - ni) = 4 by omega] at this
    omega
  have lp : ∀ (q p t A : Nat) (G : sh_H), p + q = 4 → q < t → A + aln (mS hm) k m u ni q (p + 1) = aln (mS hm) k m u ni ni 1 → sM G hm → oM (f_M_savedOf_l6 NF (f_M_savedOf_b43 NF) t (nI k) (nI m) (nI u) (nI A) (nI p) G) (svg (mS hm) k m u ni) hm := by
    intro q
    induction q with
    | zero =>
      intro p t A G e1 e2 e3 y
      obtain ⟨t, rfl⟩ : ∃ m, t = m + 1 := ⟨t - 1, by omega⟩
      obtain rfl : p = 4 := by omega
      show oM (f_M_savedOf_c6 NF (f_M_savedOf_b43 NF) (f_M_savedOf_l6 NF (f_M_savedOf_b43 NF) t) (nI k) (nI m) (nI u) (nI A) (nI 4) G) _ hm
      unfold f_M_savedOf_c6 f_M_savedOf_b43
      have eA : A = aln (mS hm) k m u ni ni 1 := e3
      rw [if_neg (show ¬ nI 4 < (4 : Int32) by decide), eA]
      obtain ⟨G', g1, g2⟩ := M_poolOf h hc5 i2 i1 hk hu' y (m := m)
      rw [g1, sh_b2_some]
      exact ⟨G', rfl, g2⟩
    | succ q ih =>
      intro p t A G e1 e2 e3 y
      obtain ⟨t, rfl⟩ : ∃ m, t = m + 1 := ⟨t - 1, by omega⟩
      show oM (f_M_savedOf_c6 NF (f_M_savedOf_b43 NF) (f_M_savedOf_l6 NF (f_M_savedOf_b43 NF) t) (nI k) (nI m) (nI u) (nI A) (nI p) G) _ hm
      unfold f_M_savedOf_c6 f_M_savedOf_b37
      rw [if_pos (show nI p < (4 : Int32) from nI_lt (b := 4) (by omega) (by omega)), bit_eq0 u hu' p (by omega), nI_1]
      have e5 : A + ((if inb u (p + 1) = true then pol (mS hm) k m (2 ^ (p + 1 - 1)) ni else 0) + aln (mS hm) k m u ni q (p + 1 + 1)) = aln (mS hm) k m u ni ni 1 := e3
      cases b : inb u (p + 1) with
      | false =>
        rw [b, if_neg (show ¬ false = true by decide), Nat.zero_add] at e5
        rw [if_neg (show ¬ false = true by decide), if_neg (show ¬ (0 : Int32) = 1 by decide)]
        exact ih (p + 1) t A G (by omega) (by omega) e5 y
      | true =>
        rw [b, if_pos rfl] at e5
        rw [if_pos rfl, if_pos rfl, two_pow p (by omega)]
        rw [Nat.add_sub_cancel] at e5
        obtain ⟨G', g1, g2⟩ := M_poolOf h hc5 i2 i1 hk (u := 2 ^ p) (pw_lt (p := p + 1) (by omega) (by omega)) y (m := m)
        rw [g1, sh_b2_some, nI_add]
        exact ih (p + 1) t _ G' (by omega) (by omega) (by omega) g2
  unfold f_M_savedOf
  exact lp 4 0 NF 0 H (by omega) (NF_gt (by omega)) (by rw [Nat.zero_add]; exact e4) x
theorem P_saved (a1 a2 a3 : Int32) : Pair (f_CB_saved NF a1 a2 a3) (f_M_saved NF a1 a2 a3) := Pair.o (by
  intro c hc hm hc5 h
  unfold f_CB_saved f_M_saved
  rcases isShare_eq h a1 a2 a3 with ⟨j1, j2⟩ | ⟨j1, j2, k, m, u, ni, rfl, rfl, rfl, hk, hm2, hu, i1, i2⟩
  · rw [j1, j2]
    exact ⟨-1, oC.v, oM.v⟩
  have p16 : 2 ^ ni ≤ 2 ^ 4 := Nat.pow_le_pow_right (by omega) i1
  rw [j1, j2, Option.bind_some, Option.bind_some, if_neg q_10, if_neg q_10]
  exact ⟨_, oC.b (C_saving h (by omega) i2 i1 hk (by omega)) (fun _ _ => oC.v), oM.b (M_savedOf h (by omega) i2 i1 hk hu (sM.rf hm)) (fun _ _ => oM.v)⟩)
/-- the sum of the parts of a set -/
def spt (u a b c d : Int32) : Int64 := (((if u &&& 1 = 0 then (0 : Int64) else a.toInt64) + (if u &&& 2 = 0 then (0 : Int64) else b.toInt64)) + (if u &&& 4 = 0 then (0 : Int64) else c.toInt64)) + (if u &&& 8 = 0 then (0 : Int64) else d.toInt64)
theorem C_spt (u a b c d : Int32) (h : sh_H) : f_CB_sumOfParts u a b c d h = some (spt u a b c d) := by
  unfold f_CB_sumOfParts f_CB_sumOfParts_b17 f_CB_sumOfParts_b34 f_CB_sumOfParts_b51 f_CB_sumOfParts_b70 spt
  by_cases c1 : u &&& 1 = 0 <;> by_cases c2 : u &&& 2 = 0 <;> by_cases c4 : u &&& 4 = 0 <;> by_cases c8 : u &&& 8 = 0 <;> simp only [c1, c2, c4, c8, if_true, if_false, Int64.zero_add]
theorem P_holds (a1 a2 a3 a4 a5 a6 : Int32) : Pair (f_CB_holds NF a1 a2 a3 a4 a5 a6) (f_M_holds NF a1 a2 a3 a4 a5 a6) := Pair.o (by
  intro c hc hm hc5 h
  have j1 : ai_in (1 : Int32) 8000 := in8 (k := 1) (by omega)
  have e0 : ∀ x y, f_CB_isShare x y 0 hc = f_CB_isShare x y (nI 0) hc := fun _ _ => rfl
  unfold f_CB_holds f_M_holds
  rcases isShare_eq h a1 a2 0 with ⟨j3, j2⟩ | ⟨j3, j2, k, m, u0, ni, rfl, rfl, -, hk, hm2, -, i1, i2⟩
  · rw [j3, j2]
    exact ⟨-1, oC.v, oM.v⟩
  have p16 : 2 ^ ni ≤ 2 ^ 4 := Nat.pow_le_pow_right (by omega) i1
  have p1 : 1 ≤ 2 ^ ni := Nat.one_le_two_pow
  have v1 : hm.1 13 46 (1 : Int32).toNatClampNeg = nI ni := i2
  have z1 : f_Rows_size (7 * hc.2.2.1 + 1) hc = some (nI ni) := by
    unfold f_Rows_size
    rw [(St_z h 1 (by omega)).trans i2]
  rw [j3, j2, Option.bind_some, Option.bind_some, if_neg q_10, if_neg q_10, z1, Option.bind_some, if_pos j1, v1]
  have lp : ∀ (q u t t' : Nat) (H G : sh_H) (sm : Int64), u + q = 2 ^ ni → q < t → q < t' → 1 ≤ u → sC H hc → sM G hm → (sm = if u = 1 then 0 else spt (nI (u - 1)) a3 a4 a5 a6) → ∃ r, oC (f_CB_holds_l79 NF (f_CB_holds_b130 NF) t (nI k) (nI m) a3 a4 a5 a6 (nI (2 ^ ni - 1)) (nI u) H) r hc ∧ oM (f_M_holds_l70 NF (f_M_holds_b168 NF) t' (nI k) (nI m) a3 a4 a5 a6 (nI ni) sm (nI u) G) r hm := by
    intro q
    induction q with
    | zero =>
      intro u t t' H G sm e1 e2 e3 e4 x y es
      obtain ⟨t, rfl⟩ : ∃ m, t = m + 1 := ⟨t - 1, by omega⟩
      obtain ⟨t', rfl⟩ : ∃ m, t' = m + 1 := ⟨t' - 1, by omega⟩
      show ∃ r, oC (f_CB_holds_c79 NF (f_CB_holds_b130 NF) (f_CB_holds_l79 NF (f_CB_holds_b130 NF) t) (nI k) (nI m) a3 a4 a5 a6 (nI (2 ^ ni - 1)) (nI u) H) r hc ∧ oM (f_M_holds_c70 NF (f_M_holds_b168 NF) (f_M_holds_l70 NF (f_M_holds_b168 NF) t') (nI k) (nI m) a3 a4 a5 a6 (nI ni) sm (nI u) G) r hm
      unfold f_CB_holds_c79 f_M_holds_c70 f_CB_holds_b130 f_M_holds_b168
      have hH := St_sC x h
      have tH : H.2.2.1 = hc.2.2.1 := x.tx
      obtain ⟨H', h1, h2⟩ := C_saving hH (by omega) i2 i1 hk (u := 2 ^ ni - 1) (by omega) (m := m)
      obtain ⟨G', g1, g2⟩ := M_savedOf h (by omega) i2 i1 hk (u := 2 ^ ni - 1) (by omega) y (m := m)
      rw [two_pow ni (by omega), if_pos (nI_lt (by omega) (by omega)), if_neg (nI_nlt (by omega) (by omega)), show nI (2 ^ ni) - 1 = nI (2 ^ ni - 1) from q_sub (b := 1) p1, h1, g1, sh_b2_some, sh_b2_some, C_spt, Option.bind_some]
      have es2 : sm = spt (nI (2 ^ ni - 1)) a3 a4 a5 a6 := by
        have hu : u = 2 ^ ni := by omega
        rw [es, hu]
        by_cases o : 2 ^ ni = 1
        · rw [if_pos o, o]
          unfold spt
          rfl
        · rw [if_neg o]
      rw [es2]
      exact pickO (h := hc) (g := hm) (fun _ => ⟨0, ⟨H', rfl, h2.tr x⟩, ⟨G', rfl, g2⟩⟩) (fun _ => ⟨16, ⟨H', rfl, h2.tr x⟩, ⟨G', rfl, g2⟩⟩)
    | succ q ih =>
      intro u t t' H G sm e1 e2 e3 e4 x y es
      obtain ⟨t, rfl⟩ : ∃ m, t = m + 1 := ⟨t - 1, by omega⟩
      obtain ⟨t', rfl⟩ : ∃ m, t' = m + 1 := ⟨t' - 1, by omega⟩
      show ∃ r, oC (f_CB_holds_c79 NF (f_CB_holds_b130 NF) (f_CB_holds_l79 NF (f_CB_holds_b130 NF) t) (nI k) (nI m) a3 a4 a5 a6 (nI (2 ^ ni - 1)) (nI u) H) r hc ∧ oM (f_M_holds_c70 NF (f_M_holds_b168 NF) (f_M_holds_l70 NF (f_M_holds_b168 NF) t') (nI k) (nI m) a3 a4 a5 a6 (nI ni) sm (nI u) G) r hm
      unfold f_CB_holds_c79 f_M_holds_c70
      have hH := St_sC x h
      have tH : H.2.2.1 = hc.2.2.1 := x.tx
      obtain ⟨H', h1, h2⟩ := C_saving hH (by omega) i2 i1 hk (u := u) (by omega) (m := m)
      obtain ⟨G', g1, g2⟩ := M_savedOf h (by omega) i2 i1 hk (u := u) (by omega) y (m := m)
      rw [two_pow ni (by omega), if_neg (nI_nlt (by omega) (by omega)), if_pos (nI_lt (by omega) (by omega)), h1, sh_b2_some, C_spt, Option.bind_some, nI_1]
      have em : (if nI u &&& 1 = 0 then f_M_holds_b92 NF (f_M_holds_l70 NF (f_M_holds_b168 NF) t') (nI k) (nI m) a3 a4 a5 a6 (nI ni) (nI u) 0 G else f_M_holds_b92 NF (f_M_holds_l70 NF (f_M_holds_b168 NF) t') (nI k) (nI m) a3 a4 a5 a6 (nI ni) (nI u) a3.toInt64 G) = if 0 < lg_cmp (svg (mS hm) k m u ni).toInt64 (spt (nI u) a3 a4 a5 a6) then some (nI u, G') else f_M_holds_l70 NF (f_M_holds_b168 NF) t' (nI k) (nI m) a3 a4 a5 a6 (nI ni) (spt (nI u) a3 a4 a5 a6) (nI (u + 1)) G' := by
        unfold f_M_holds_b92 f_M_holds_b106 f_M_holds_b121 f_M_holds_b137 spt
        rw [g1, nI_1]
        simp only [sh_b2_some]
        by_cases c1 : nI u &&& 1 = 0 <;> by_cases c2 : nI u &&& 2 = 0 <;> by_cases c4 : nI u &&& 4 = 0 <;> by_cases c8 : nI u &&& 8 = 0 <;> simp only [c1, c2, c4, c8, if_true, if_false]
      rw [em]
      refine pickO (h := hc) (g := hm) (fun _ => ⟨nI u, ⟨H', rfl, h2.tr x⟩, ⟨G', rfl, g2⟩⟩) (fun _ => ?_)
      exact ih (u + 1) t t' H' G' _ (by omega) (by omega) (by omega) (by omega) (h2.tr x) g2 (by rw [if_neg (by omega), Nat.add_sub_cancel])
  have fin := lp (2 ^ ni - 1) 1 NF NF hc hm 0 (by omega) (NF_gt (by omega)) (NF_gt (by omega)) (by omega) (sC.rf hc) (sM.rf hm) (if_pos rfl).symm
  have f68 : ∃ r, oC (f_CB_holds_b68 NF (nI k) (nI m) a3 a4 a5 a6 (nI ni) hc) r hc ∧ oM (f_M_holds_b64 NF (nI k) (nI m) a3 a4 a5 a6 (nI ni) hm) r hm := by
    unfold f_CB_holds_b68 f_M_holds_b64
    rw [two_pow ni (by omega), show nI (2 ^ ni) - 1 = nI (2 ^ ni - 1) from q_sub (b := 1) p1]
    exact fin
  have n1 : ∃ r, oC (some ((-1 : Int32), hc)) r hc ∧ oM (some ((-1 : Int32), hm)) r hm := ⟨-1, oC.v, oM.v⟩
  unfold f_CB_holds_b33 f_M_holds_b29 f_CB_holds_b44 f_M_holds_b40 f_CB_holds_b55 f_M_holds_b51
  have s3 : ∃ r, oC (if 3 < nI ni then if a6 < 0 then some (-1, hc) else f_CB_holds_b68 NF (nI k) (nI m) a3 a4 a5 a6 (nI ni) hc else f_CB_holds_b68 NF (nI k) (nI m) a3 a4 a5 a6 (nI ni) hc) r hc ∧ oM (if 3 < nI ni then if a6 < 0 then some (-1, hm) else f_M_holds_b64 NF (nI k) (nI m) a3 a4 a5 a6 (nI ni) hm else f_M_holds_b64 NF (nI k) (nI m) a3 a4 a5 a6 (nI ni) hm) r hm := pickO (fun _ => pickO (fun _ => n1) (fun _ => f68)) (fun _ => f68)
  have s2 := pickO (c := 2 < nI ni) (fun _ => pickO (c := a5 < 0) (fun _ => n1) (fun _ => s3)) (fun _ => s3)
  have s1 := pickO (c := 1 < nI ni) (fun _ => pickO (c := a4 < 0) (fun _ => n1) (fun _ => s2)) (fun _ => s2)
  exact pickO (fun _ => pickO (fun _ => n1) (fun _ => s1)) (fun _ => s1))
