/-! PAIRS: pool, saved, holds -/
theorem clr_bits : ∀ u, u < 16 → ∀ p, p < 5 → 1 ≤ p → nI u &&& (((1 : Int32) <<< ((nI p - 1) &&& 31)) ^^^ (-1)) = nI (clr u p) := by decide +kernel
theorem clr_lt : ∀ u, u < 16 → ∀ p, p < 5 → clr u p < 16 := by decide +kernel
theorem C_harm {c : Nat} {hc hm : sh_H} (h : St c hc hm) (hc5 : c ≤ 512) {ni k m u : Nat} (i2 : mS hm 1 = nI ni) (i1 : ni ≤ 4) (hk : k < 6) (hu : u < 16) : oC (f_Stocks_harm NF hc.2.2.1 0 (nI k) (nI m) (nI u) hc) (nI (pol (mS hm) k m u ni)) hc := by
  have z1 : hc.1 6 (7 * hc.2.2.1 + 1) 3 = nI ni := (St_z h 1 (by omega)).trans i2
  have ll := lft_le (St_S h) hc5 (u := u) hk ni 1 (by omega)
  have lp2 : ∀ (q i v t : Nat) (s : Nat × Nat) (H : sh_H), i + q = 4 → q < t → v < 16 → s.1 < 2 ^ 31 → sC H hc → oC (f_Stocks_harm_l60 NF t hc.2.2.1 (nI k) (nI m) (nI s.1) (nI s.2) (nI v) (nI i) H) (nI (srv (wW (mS hm) k m) (wX (mS hm)) ni q v s).2) H := by
    intro q
    induction q with
    | zero =>
      intro i v t s H e1 e2 hv hs x
      obtain ⟨t, rfl⟩ : ∃ m, t = m + 1 := ⟨t - 1, by omega⟩
      obtain rfl : i = 4 := by omega
      show oC (f_Stocks_harm_c60 NF (f_Stocks_harm_l60 NF t) hc.2.2.1 (nI k) (nI m) (nI s.1) (nI s.2) (nI v) (nI 4) H) _ H
      unfold f_Stocks_harm_c60
      rw [if_neg (show ¬ nI 4 < (4 : Int32) by decide)]
      exact ⟨H, rfl, sC.rf H⟩
    | succ q ih =>
      intro i v t s H e1 e2 hv hs x
      obtain ⟨t, rfl⟩ : ∃ m, t = m + 1 := ⟨t - 1, by omega⟩
      have hH := St_sC x h
      have tH : H.2.2.1 = hc.2.2.1 := x.tx
      show oC (f_Stocks_harm_c60 NF (f_Stocks_harm_l60 NF t) hc.2.2.1 (nI k) (nI m) (nI s.1) (nI s.2) (nI v) (nI i) H) _ H
      unfold f_Stocks_harm_c60 f_Stocks_harm_b136 srv
      have mm := C_mh hH i2 i1 hv
      rw [tH] at mm
      rw [if_pos (show nI i < (4 : Int32) from nI_lt (b := 4) (by omega) (by omega)), mm, Option.bind_some, nI_1]
      rcases mh_of (X := wX (mS hm)) (u := v) (q := ni) (p := 1) (b := 0) (by omega) (Or.inl rfl) (fun r r1 r2 => by omega) with ⟨m0, -⟩ | ⟨m1, m2, m3, -⟩
      · rw [if_pos m0, if_pos rfl, if_pos m0]
        exact ih (i + 1) v t s H (by omega) (by omega) hv hs x
      · generalize mh (wX (mS hm)) v ni 1 0 = r at *
        rw [if_neg (show ¬ r = 0 by omega), if_neg (show ¬ r = 0 by omega), if_neg (show ¬ nI r = -1 from fun z => nI_pos (n := r) (by omega) (by rw [z]; decide))]
        have wt := C_wanted hH (nI r) (nI k) (nI m)
        rw [tH] at wt
        refine oC.b wt (fun H' x' => ?_)
        have x2 : sC H' hc := x'.tr x
        have hH' := St_sC x2 h
        have tH' : H'.2.2.1 = hc.2.2.1 := x2.tx
        have w9 := wnt_le (mS hm) (nI r) (nI k) (nI m)
        obtain ⟨y1, y2, -⟩ := C_harmOf hH' i2 i1 (p := r) (by omega) m1
        rw [tH'] at y1
        rw [Math_min hs (by omega), Option.bind_some, y1, Option.bind_some, q_sub (Nat.min_le_left _ _), q_sub (Nat.min_le_right _ _), q_mul, nI_add, clr_bits v hv r (by omega) m1]
        exact ih (i + 1) (clr v r) t (sv (wW (mS hm) k m) (wX (mS hm)) r s) H' (by omega) (by omega) (clr_lt v hv r (by omega)) (by unfold sv; show s.1 - _ < _; omega) x2
  have lp1 : ∀ (q p t A : Nat), p + q = ni + 1 → q < t → 1 ≤ p → A + lft (mS hm) u k q p = lft (mS hm) u k ni 1 → oC (f_Stocks_harm_l6 NF (f_Stocks_harm_b50 NF) t hc.2.2.1 0 (nI k) (nI m) (nI u) (nI A) (nI p) hc) (nI (pol (mS hm) k m u ni)) hc := by
    intro q
    induction q with
    | zero =>
      intro p t A e1 e2 e3 e4
      obtain ⟨t, rfl⟩ : ∃ m, t = m + 1 := ⟨t - 1, by omega⟩
      show oC (f_Stocks_harm_c6 NF (f_Stocks_harm_b50 NF) (f_Stocks_harm_l6 NF (f_Stocks_harm_b50 NF) t) hc.2.2.1 0 (nI k) (nI m) (nI u) (nI A) (nI p) hc) _ hc
      unfold f_Stocks_harm_c6 f_Rows_size f_Stocks_harm_b50
      rw [z1, Option.bind_some, if_pos (nI_lt (by omega) (by omega))]
      have eA : A = lft (mS hm) u k ni 1 := e4
      rw [eA]
      exact lp2 4 0 u NF (lft (mS hm) u k ni 1, 0) hc (by omega) (NF_gt (by omega)) hu (by show lft (mS hm) u k ni 1 < _; omega) (sC.rf hc)
    | succ q ih =>
      intro p t A e1 e2 e3 e4
      obtain ⟨t, rfl⟩ : ∃ m, t = m + 1 := ⟨t - 1, by omega⟩
      show oC (f_Stocks_harm_c6 NF (f_Stocks_harm_b50 NF) (f_Stocks_harm_l6 NF (f_Stocks_harm_b50 NF) t) hc.2.2.1 0 (nI k) (nI m) (nI u) (nI A) (nI p) hc) _ hc
      unfold f_Stocks_harm_c6 f_Rows_size f_Stocks_harm_b41
      rw [z1, Option.bind_some, if_neg (nI_nlt (by omega) (by omega)), isIn_eq u p hu (by omega) e3, Option.bind_some, nI_1]
      have e5 : A + ((if inb u p = true then al (mS hm) p k else 0) + lft (mS hm) u k q (p + 1)) = lft (mS hm) u k ni 1 := e4
      cases b : inb u p with
      | false =>
        rw [b, if_neg (show ¬ false = true by decide), Nat.zero_add] at e5
        rw [if_neg (show ¬ false = true by decide), if_pos (rfl : (0 : Int32) = 0), Int32.add_zero]
        exact ih (p + 1) t A (by omega) (by omega) (by omega) e5
      | true =>
        rw [b, if_pos rfl] at e5
        rw [if_pos rfl, if_neg q_10, C_all' h hc5 (by omega) hk, Option.bind_some, nI_add]
        exact ih (p + 1) t _ (by omega) (by omega) (by omega) (by omega)
  unfold f_Stocks_harm
  exact lp1 ni 1 NF 0 (by omega) (NF_gt (by omega)) (by omega) (Nat.zero_add _)
theorem bit_eq : ∀ u, u < 16 → ∀ p, p < 5 → 1 ≤ p → (nI u >>> ((nI p - 1) &&& 31)) &&& 1 = if inb u p = true then 1 else 0 := by decide +kernel
theorem inb_0 : ∀ n, n < 5 → ∀ u, u < 2 ^ n → ∀ r, r < 5 → (1 ≤ r ∧ inb u r = true) → r ≤ n := by decide +kernel
theorem M_harm {c : Nat} {hc hm H : sh_H} (h : St c hc hm) (x : sM H hm) {ni p : Nat} (i2 : mS hm 1 = nI ni) (i1 : ni ≤ 4) (hp : p < ni + 1) (p1 : 1 ≤ p) : f_M_harm (nI p) H = some (nI (wX (mS hm) p)) := by
  unfold f_M_harm
  obtain ⟨q, rfl⟩ : ∃ q, p = q + 1 := ⟨p - 1, by omega⟩
  have b2 : (40 : Int32) + 2 * nI (q + 1) - 1 = nI (39 + 2 * (q + 1)) := by rw [show (40 : Int32) = nI 40 from rfl, show (2 : Int32) = nI 2 from rfl, q_mul, nI_add, show 40 + 2 * (q + 1) = 39 + 2 * (q + 1) + 1 by omega, nI_pred]
  rw [b2, if_pos (in8 (by omega)), cl8 (by omega)]
  exact congrArg some ((x.mS _).trans (C_harmOf h i2 i1 hp p1).2.2)
theorem M_poolOf {c : Nat} {hc hm H : sh_H} (h : St c hc hm) (hc5 : c ≤ 512) {ni k m u : Nat} (i2 : mS hm 1 = nI ni) (i1 : ni ≤ 4) (hk : k < 6) (hu : u < 16) (x : sM H hm) : oM (f_M_poolOf NF (nI k) (nI m) (nI u) H) (nI (pol (mS hm) k m u ni)) hm := by
  have ll := lft_le (St_S h) hc5 (u := u) hk ni 1 (by omega)
  have j1 : ai_in (1 : Int32) 8000 := in8 (k := 1) (by omega)
  have e0 : pol (mS hm) k m u ni = (down (wW (mS hm) k m) (wX (mS hm)) u ni 100 (lft (mS hm) u k ni 1, 0)).2 := by
    unfold pol
    rw [srv_down i1 4 u 100 _ hu (crd_le u hu) (fun r r1 r2 _ => by
      have := (C_harmOf h i2 i1 (p := r) (by omega) r1).2.1
      omega)]
  rw [e0]
  have lpl : ∀ (g : Nat) (K : Int32 → Int32 → Int32 → Int32 → Int32 → Int32 → sh_H → Option (Int32 × sh_H)) (R : Nat × Nat → Int32), (∀ s G, s.1 < 2 ^ 31 → sM G hm → oM (K (nI k) (nI m) (nI u) (nI s.1) (nI s.2) (nI g) G) (R s) hm) → g < 100 → ∀ (q p t : Nat) (s : Nat × Nat) (G : sh_H), p + q = ni + 1 → q < t → 1 ≤ p → s.1 < 2 ^ 31 → sM G hm → oM (f_M_poolOf_l62 NF K t (nI k) (nI m) (nI u) (nI s.1) (nI s.2) (nI g) (nI p) G) (R (lev (wW (mS hm) k m) (wX (mS hm)) u g q p s)) hm := by
    intro g K R hK hg q
    induction q with
    | zero =>
      intro p t s G e1 e2 e3 hs y
      obtain ⟨t, rfl⟩ : ∃ m, t = m + 1 := ⟨t - 1, by omega⟩
      show oM (f_M_poolOf_c62 NF K (f_M_poolOf_l62 NF K t) (nI k) (nI m) (nI u) (nI s.1) (nI s.2) (nI g) (nI p) G) _ hm
      unfold f_M_poolOf_c62
      rw [if_pos j1, show G.1 13 46 (1 : Int32).toNatClampNeg = nI ni from (y.mS 1).trans i2, if_pos (nI_lt (by omega) (by omega))]
      exact hK s G hs y
    | succ q ih =>
      intro p t s G e1 e2 e3 hs y
      obtain ⟨t, rfl⟩ : ∃ m, t = m + 1 := ⟨t - 1, by omega⟩
      show oM (f_M_poolOf_c62 NF K (f_M_poolOf_l62 NF K t) (nI k) (nI m) (nI u) (nI s.1) (nI s.2) (nI g) (nI p) G) _ hm
      unfold f_M_poolOf_c62 f_M_poolOf_b122 f_M_poolOf_b144
      rw [if_pos j1, show G.1 13 46 (1 : Int32).toNatClampNeg = nI ni from (y.mS 1).trans i2, if_neg (nI_nlt (by omega) (by omega)), bit_eq u hu p (by omega) e3, nI_1]
      unfold lev
      cases b : inb u p with
      | false =>
        rw [if_neg (show ¬ false = true by decide), if_pos (rfl : (0 : Int32) = 0), if_neg (fun z => by cases z.1)]
        exact ih (p + 1) t s G (by omega) (by omega) (by omega) hs y
      | true =>
        obtain ⟨-, x9, -⟩ := C_harmOf h i2 i1 (p := p) (by omega) e3
        rw [if_pos rfl, if_neg q_10, M_harm h y i2 i1 (by omega) e3, Option.bind_some]
        by_cases e : wX (mS hm) p = g
        · rw [e, if_pos rfl, if_pos ⟨rfl, rfl⟩]
          obtain ⟨G', g1, g2⟩ := M_wanted (St_T h) y (nI p) (nI k) (nI m)
          rw [g1, sh_b2_some]
          have w9 := wnt_le (mS hm) (nI p) (nI k) (nI m)
          have nx := ih (p + 1) t (sv (wW (mS hm) k m) (wX (mS hm)) p s) G' (by omega) (by omega) (by omega) (by unfold sv; show s.1 - _ < _; omega) g2
          have sve : sv (wW (mS hm) k m) (wX (mS hm)) p s = (s.1 - min s.1 (wnt (mS hm) (nI p) (nI k) (nI m)), s.2 + g * (wnt (mS hm) (nI p) (nI k) (nI m) - min s.1 (wnt (mS hm) (nI p) (nI k) (nI m)))) := by
            unfold sv
            rw [e, Nat.mul_comm]
            rfl
          rw [sve] at nx
          by_cases l : wnt (mS hm) (nI p) (nI k) (nI m) < s.1
          · rw [if_pos (nI_lt l hs), q_sub (by omega), q_sub (by omega), q_mul, nI_add]
            rw [Nat.min_eq_right (by omega)] at nx
            rw [sve, Nat.min_eq_right (by omega)]
            exact nx
          · rw [if_neg (nI_nlt (by omega) (by omega)), q_sub (by omega), q_sub (by omega), q_mul, nI_add]
            rw [Nat.min_eq_left (by omega)] at nx
            rw [sve, Nat.min_eq_left (by omega)]
            exact nx
        · rw [if_neg (nI_ne e (by omega) (by omega)), if_neg (fun z => e z.2)]
          exact ih (p + 1) t s G (by omega) (by omega) (by omega) hs y
  have lpd : ∀ (q t : Nat) (s : Nat × Nat) (G : sh_H), q ≤ 100 → q < t → s.1 < 2 ^ 31 → sM G hm → oM (f_M_poolOf_l54 NF t (nI k) (nI m) (nI u) (nI s.1) (nI s.2) (nI q - 1) G) (nI (down (wW (mS hm) k m) (wX (mS hm)) u ni q s).2) hm := by
    intro q
    induction q with
    | zero =>
      intro t s G e1 e2 hs y
      obtain ⟨t, rfl⟩ : ∃ m, t = m + 1 := ⟨t - 1, by omega⟩
      exact ⟨G, rfl, y⟩
    | succ q ih =>
      intro t s G e1 e2 hs y
      obtain ⟨t, rfl⟩ : ∃ m, t = m + 1 := ⟨t - 1, by omega⟩
      show oM (f_M_poolOf_c54 NF (f_M_poolOf_l54 NF t) (nI k) (nI m) (nI u) (nI s.1) (nI s.2) (nI (q + 1) - 1) G) _ hm
      unfold f_M_poolOf_c54
      rw [nI_pred, if_neg (nI_pos (by omega))]
      refine lpl q (f_M_poolOf_b150 NF (f_M_poolOf_l54 NF t)) (fun s => nI (down (wW (mS hm) k m) (wX (mS hm)) u ni q s).2) (fun s G hs y => ?_) (by omega) ni 1 NF s G (by omega) (NF_gt (by omega)) (by omega) hs y
      unfold f_M_poolOf_b150
      rw [show nI q + (-1) = nI q - 1 from (Int32.sub_eq_add_neg _ _).symm]
      exact ih t s G (by omega) (by omega) hs y
  have lp1 : ∀ (q p t A : Nat), p + q = ni + 1 → q < t → 1 ≤ p → A + lft (mS hm) u k q p = lft (mS hm) u k ni 1 → oM (f_M_poolOf_l6 NF (f_M_poolOf_b47 NF) t (nI k) (nI m) (nI u) (nI A) (nI p) H) (nI (down (wW (mS hm) k m) (wX (mS hm)) u ni 100 (lft (mS hm) u k ni 1, 0)).2) hm := by
    intro q
    induction q with
    | zero =>
      intro p t A e1 e2 e3 e4
      obtain ⟨t, rfl⟩ : ∃ m, t = m + 1 := ⟨t - 1, by omega⟩
      show oM (f_M_poolOf_c6 NF (f_M_poolOf_b47 NF) (f_M_poolOf_l6 NF (f_M_poolOf_b47 NF) t) (nI k) (nI m) (nI u) (nI A) (nI p) H) _ hm
      unfold f_M_poolOf_c6 f_M_poolOf_b47
      rw [if_pos j1, show H.1 13 46 (1 : Int32).toNatClampNeg = nI ni from (x.mS 1).trans i2, if_pos (nI_lt (by omega) (by omega))]
      have eA : A = lft (mS hm) u k ni 1 := e4
      rw [eA]
      exact lpd 100 NF (lft (mS hm) u k ni 1, 0) H (by omega) (NF_gt (by omega)) (by show lft (mS hm) u k ni 1 < _; omega) x
    | succ q ih =>
      intro p t A e1 e2 e3 e4
      obtain ⟨t, rfl⟩ : ∃ m, t = m + 1 := ⟨t - 1, by omega⟩
      show oM (f_M_poolOf_c6 NF (f_M_poolOf_b47 NF) (f_M_poolOf_l6 NF (f_M_poolOf_b47 NF) t) (nI k) (nI m) (nI u) (nI A) (nI p) H) _ hm
      unfold f_M_poolOf_c6 f_M_poolOf_b41
      rw [if_pos j1, show H.1 13 46 (1 : Int32).toNatClampNeg = nI ni from (x.mS 1).trans i2, if_neg (nI_nlt (by omega) (by omega)), bit_eq u hu p (by omega) e3, nI_1]
      have e5 : A + ((if inb u p = true then al (mS hm) p k else 0) + lft (mS hm) u k q (p + 1)) = lft (mS hm) u k ni 1 := e4
      cases b : inb u p with
      | false =>
        rw [b, if_neg (show ¬ false = true by decide), Nat.zero_add] at e5
        rw [if_neg (show ¬ false = true by decide), if_neg (show ¬ (0 : Int32) = 1 by decide)]
        exact ih (p + 1) t A (by omega) (by omega) (by omega) e5
      | true =>
        rw [b, if_pos rfl] at e5
        rw [if_pos rfl, if_pos rfl, M_all' (St_S h) hc5 x (by omega) hk, Option.bind_some, nI_add]
        exact ih (p + 1) t _ (by omega) (by omega) (by omega) (by omega)
  unfold f_M_poolOf
  exact lp1 ni 1 NF 0 (by omega) (NF_gt (by omega)) (by omega) (Nat.zero_add _)
