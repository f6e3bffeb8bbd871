/-! PAIR: months: wears -/
def lrw (f : Nat → Int32) (k : Int32) : Nat → Option Nat
  | 0 => none
  | n + 1 => if f (210 + 3 * n) = k then some n else lrw f k n
theorem lrw_some {f : Nat → Int32} {k : Int32} : ∀ {n r : Nat}, lrw f k n = some r → r < n := by
  intro n
  induction n with
  | zero => intro r h; cases h
  | succ n ih =>
    intro r h
    unfold lrw at h
    by_cases c : f (210 + 3 * n) = k
    · rw [if_pos c] at h
      cases h
      omega
    · rw [if_neg c] at h
      have := ih h
      omega
theorem lrw_hit {f : Nat → Int32} {r : Nat} {k : Int32} : ∀ {n : Nat}, r < n → f (210 + 3 * r) = k → (∀ s, r < s → s < n → ¬ f (210 + 3 * s) = k) → lrw f k n = some r := by
  intro n
  induction n with
  | zero => intro h; omega
  | succ n ih =>
    intro h1 h2 h3
    unfold lrw
    by_cases e : r = n
    · subst e; exact if_pos h2
    · rw [if_neg (h3 n (by omega) (by omega))]
      exact ih (by omega) h2 (fun s s1 s2 => h3 s s1 (by omega))
theorem lrw_ge {f : Nat → Int32} {r : Nat} {k : Int32} : ∀ {n : Nat}, r < n → f (210 + 3 * r) = k → ∃ s, lrw f k n = some s ∧ r ≤ s := by
  intro n
  induction n with
  | zero => intro h; omega
  | succ n ih =>
    intro h1 h2
    unfold lrw
    by_cases c : f (210 + 3 * n) = k
    · rw [if_pos c]; exact ⟨n, rfl, by omega⟩
    · rw [if_neg c]
      exact ih (by
        have : r ≠ n := fun e => c (by rw [← e]; exact h2)
        omega) h2
def ilw (f : Nat → Int32) (i n : Nat) : Bool := decide (lrw f (f (210 + 3 * i)) n = some i)
theorem ad3 (r : Nat) : (210 : Int32) + 3 * nI r = nI (210 + 3 * r) := by rw [show (210 : Int32) = nI 210 from rfl, show (3 : Int32) = nI 3 from rfl, q_mul, nI_add]
theorem M_isLastWear {H : sh_H} {i n : Nat} (hn : mS H 5 = nI n) (n12 : n ≤ 12) (hi : i < n) : f_M_isLastWear NF (nI i) H = some (if ilw (mS H) i n then 1 else 0) := by
  have j5 : ai_in (5 : Int32) 8000 := in8 (k := 5) (by omega)
  have lp : ∀ (q s u : Nat), s + q = n → q < u → i < s → (∀ r, i < r → r < s → ¬ mS H (210 + 3 * r) = mS H (210 + 3 * i)) → f_M_isLastWear_l4 NF u (nI i) (nI s) H = some (if ilw (mS H) i n then 1 else 0) := by
    intro q
    induction q with
    | zero =>
      intro s u e1 e2 e3 no
      obtain ⟨u, rfl⟩ : ∃ m, u = m + 1 := ⟨u - 1, by omega⟩
      obtain rfl : s = n := by omega
      show f_M_isLastWear_c4 NF (f_M_isLastWear_l4 NF u) (nI i) (nI s) H = _
      unfold f_M_isLastWear_c4
      have e : ilw (mS H) i s = true := decide_eq_true (lrw_hit hi rfl no)
      rw [if_pos j5, show H.1 13 46 (5 : Int32).toNatClampNeg = nI s from hn, if_neg (nI_nlt (by omega) (by omega)), if_pos e, q_nar1]
    | succ q ih =>
      intro s u e1 e2 e3 no
      obtain ⟨u, rfl⟩ : ∃ m, u = m + 1 := ⟨u - 1, by omega⟩
      show f_M_isLastWear_c4 NF (f_M_isLastWear_l4 NF u) (nI i) (nI s) H = _
      unfold f_M_isLastWear_c4
      rw [if_pos j5, show H.1 13 46 (5 : Int32).toNatClampNeg = nI n from hn, if_pos (nI_lt (by omega) (by omega)), ad3, ad3, if_pos (in8 (by omega)), if_pos (in8 (by omega)), cl8 (by omega), cl8 (by omega), nI_1]
      by_cases c1 : mS H (210 + 3 * s) = mS H (210 + 3 * i)
      · rw [if_pos (show H.1 13 46 (210 + 3 * s) = H.1 13 46 (210 + 3 * i) from c1), q_nar0]
        have e : ¬ ilw (mS H) i n = true := fun z => by
          obtain ⟨r, r1, r2⟩ := lrw_ge (f := mS H) (r := s) (n := n) (by omega) c1
          have z' : lrw (mS H) (mS H (210 + 3 * i)) n = some i := of_decide_eq_true z
          rw [z'] at r1
          have := Option.some.inj r1
          omega
        rw [if_neg e]
      · rw [if_neg (show ¬ H.1 13 46 (210 + 3 * s) = H.1 13 46 (210 + 3 * i) from c1)]
        exact ih (s + 1) u (by omega) (by omega) (by omega) (fun r r1 r2 => by
          by_cases e : r = s
          · rw [e]; exact c1
          · exact no r r1 (by omega))
  unfold f_M_isLastWear
  rw [nI_1]
  exact lp (n - (i + 1)) (i + 1) NF (by omega) (NF_gt (by omega)) (by omega) (fun r r1 r2 => by omega)
theorem St_w0 {c : Nat} {hc hm : sh_H} (h : St c hc hm) {n r : Nat} (hn : mS hm 5 = nI n) (n12 : n ≤ 12) (hr : r < n) : f_Rows_get (7 * hc.2.2.1 + 5) (nI r) 0 hc = some 0 := by
  have ht := St_tx h
  obtain ⟨e1, e2, e3⟩ := rc_tx _ ht 5 (by omega)
  have z : hc.1 6 (7 * hc.2.2.1 + 5) 3 = nI n := (St_z h 5 (by omega)).trans hn
  have w := h.2.2.2.2.1.2.2 n n12 z r hr
  have w5 : sh_w 5 = 5 := rfl
  have a := rows_get (r := 7 * hc.2.2.1 + 5) (s := n) (a := r) (b := 0) h.1 (by omega) z (by rw [e2]; exact n12) (by omega) (by omega)
  rw [if_pos ⟨hr, by rw [e3, w5]; omega⟩, e1, e3, w5] at a
  exact a.trans (congrArg some w)
theorem St_w1 {c : Nat} {hc hm : sh_H} (h : St c hc hm) {n r : Nat} (hn : mS hm 5 = nI n) (n12 : n ≤ 12) (hr : r < n) : f_Rows_get (7 * hc.2.2.1 + 5) (nI r) 1 hc = some (mS hm (210 + 3 * r)) := tx_get h (j := 5) (r := r) (q := 1) (by omega) hn (by omega) hr (by omega) (by decide) (by decide)
theorem C_inForceW {c : Nat} {hc hm : sh_H} (h : St c hc hm) {n i : Nat} (hn : mS hm 5 = nI n) (n12 : n ≤ 12) (hi : i < n) : f_Text_isInForce NF hc.2.2.1 (7 * hc.2.2.1 + 5) (nI i) hc = some (if ilw (mS hm) i n then 1 else 0) := by
  have z : hc.1 6 (7 * hc.2.2.1 + 5) 3 = nI n := (St_z h 5 (by omega)).trans hn
  have lp : ∀ (m u : Nat), m ≤ n → m < u → f_Text_lastOf_l7 NF u (7 * hc.2.2.1 + 5) 0 (mS hm (210 + 3 * i)) (nI m - 1) hc = some (oI2 (lrw (mS hm) (mS hm (210 + 3 * i)) m) (-1)) := by
    intro m
    induction m with
    | zero =>
      intro u e1 e2
      obtain ⟨u, rfl⟩ : ∃ m, u = m + 1 := ⟨u - 1, by omega⟩
      rfl
    | succ m ih =>
      intro u e1 e2
      obtain ⟨u, rfl⟩ : ∃ m, u = m + 1 := ⟨u - 1, by omega⟩
      have i2 := ih u (by omega) (by omega)
      rw [show nI m - 1 = nI m + (-1) from Int32.sub_eq_add_neg _ _] at i2
      show f_Text_lastOf_c7 NF (f_Text_lastOf_l7 NF u) (7 * hc.2.2.1 + 5) 0 (mS hm (210 + 3 * i)) (nI (m + 1) - 1) hc = _
      unfold f_Text_lastOf_c7 f_Text_lastOf_b33 lrw
      rw [nI_pred, if_neg (nI_pos (by omega)), St_w0 h hn n12 (by omega), Option.bind_some, if_pos rfl, St_w1 h hn n12 (by omega), Option.bind_some, i2]
      by_cases c : mS hm (210 + 3 * m) = mS hm (210 + 3 * i)
      · rw [if_pos c, if_pos c]; rfl
      · rw [if_neg c, if_neg c]
  unfold f_Text_isInForce f_Text_lastOf f_Rows_size
  rw [St_w0 h hn n12 hi, Option.bind_some, St_w1 h hn n12 hi, Option.bind_some, z, Option.bind_some, lp n NF (Nat.le_refl _) (NF_gt (by omega)), Option.bind_some, q_nar0, q_nar1]
  unfold ilw
  cases e : lrw (mS hm) (mS hm (210 + 3 * i)) n with
  | none =>
    rw [if_neg (show ¬ oI2 none (-1) = nI i from fun y => nI_pos (n := i) (by omega) (by rw [← y]; decide)), if_neg (by rw [decide_eq_true_eq]; intro y; cases y)]
  | some r =>
    have r1 := lrw_some e
    by_cases y : r = i
    · rw [if_pos (show oI2 (some r) (-1) = nI i by rw [y]; rfl), if_pos (by rw [decide_eq_true_eq, y])]
    · rw [if_neg (show ¬ oI2 (some r) (-1) = nI i from nI_ne y (by omega) (by omega)), if_neg (by rw [decide_eq_true_eq]; intro q; exact y (Option.some.inj q))]
/-- one place's pieces of one kind wear -/
theorem LK_wearAt {c : Nat} {hc hm : sh_H} (h : St c hc hm) (hc5 : c ≤ 512) {t n i p k : Nat} (ht : mS hm 9 = nI t) (ht2 : t ≤ 240) (hn : mS hm 5 = nI n) (n12' : n ≤ 12) (hi : i < n) (hp : p < 5) (hk : k < 6) (fe : FE (mS hm) (211 + 3 * i)) (K : Int32 → Int32 → Int32 → Int32 → sh_H → Option sh_H) : ∃ hc' hm', f_Calendar_wearAt_l14 NF NF hc.2.2.1 0 (nI i) (nI p) (nI k) 2 hc = some hc' ∧ f_M_wears_l53 NF K NF (nI t) (nI i) (nI k) (nI p) 2 hm = K (nI t) (nI i) (nI k) (nI p) hm' ∧ LK c hc hm hc' hm' := by
  have lp : ∀ (w u : Nat) (H G : sh_H), w ≤ 3 → w < u → LK c hc hm H G → ∃ hc' hm', f_Calendar_wearAt_l14 NF u hc.2.2.1 0 (nI i) (nI p) (nI k) (nI w + (-1)) H = some hc' ∧ f_M_wears_l53 NF K u (nI t) (nI i) (nI k) (nI p) (nI w + (-1)) G = K (nI t) (nI i) (nI k) (nI p) hm' ∧ LK c hc hm hc' hm' := by
    intro w
    induction w with
    | zero =>
      intro u H G e1 e2 x
      obtain ⟨u, rfl⟩ : ∃ m, u = m + 1 := ⟨u - 1, by omega⟩
      refine ⟨H, G, ?_, ?_, x⟩
      · show f_Calendar_wearAt_c14 NF (f_Calendar_wearAt_l14 NF u) hc.2.2.1 0 (nI i) (nI p) (nI k) (nI 0 + (-1)) H = _
        unfold f_Calendar_wearAt_c14
        rw [if_pos (show nI 0 + (-1) < 0 by decide)]
      · show f_M_wears_c53 NF K (f_M_wears_l53 NF K u) (nI t) (nI i) (nI k) (nI p) (nI 0 + (-1)) G = _
        unfold f_M_wears_c53
        rw [if_pos (show nI 0 + (-1) < 0 by decide)]
    | succ w ih =>
      intro u H G e1 e2 x
      obtain ⟨u, rfl⟩ : ∃ m, u = m + 1 := ⟨u - 1, by omega⟩
      have g5 : mS G 5 = nI n := (x.2.2.2.2.2 5 (by omega)).trans hn
      have g9 : mS G 9 = nI t := (x.2.2.2.2.2 9 (by omega)).trans ht
      have tx := x.tx
      have t7 : H.1 7 0 4 = nI t := (rSt_0 x.1).2.2.2.2.1.trans (by rw [Nat.zero_add]; exact g9)
      have feG : FE (mS G) (211 + 3 * i) := FE_to (x.2.2.2.2.2 _ (by omega)) (x.2.2.2.2.2 _ (by omega)) (x.2.2.2.2.2 _ (by omega)) (fun k h1 h2 => x.2.2.2.2.2 k (by omega)) fe
      obtain ⟨g, g1, g2⟩ := St_g x.1
      have ha : (6 * p + k) * 4 + w < 120 := by omega
      have ha2 : (6 * p + k) * 4 + (w + 1) < 120 := by omega
      have gl := sumN_le (g := g) (q := (6 * p + k) * 4 + w) (n := 120) ha
      have pc := pcs_get x.1.1 (by omega) (rSt_0 x.1).1 hp hk (w := w) (by omega)
      rw [Nat.zero_add, g1 _ ha] at pc
      obtain ⟨C1, s1, s2⟩ := C_says x.1 (j := 5) (r := i) (x := 211 + 3 * i) (by omega) g5 n12' hi (by show _ = 210 + 3 * i + 1; omega) (by decide) (by decide) (by decide) feG (nI (t % 12)) (nI (g ((6 * p + k) * 4 + w))) (nI w) 0
      obtain ⟨A, M1, r1, r2, r3, r4⟩ := M_says x.1 (x := 211 + 3 * i) (by omega) feG (nI (t % 12)) (nI (g ((6 * p + k) * 4 + w))) (nI w) 0
      generalize ev : fval (mS G) (fq (nI (t % 12)) (nI (g ((6 * p + k) * 4 + w))) (nI w) 0) (211 + 3 * i) = v at s1 r3
      have L1 := LK.sc x.1 s2 r4
      have cl := clN_le v (g ((6 * p + k) * 4 + w))
      have g1' : ∀ q, q < 120 → mS M1 (800 + q) = nI (g q) := fun q hq => (r4.mS _).trans (g1 q hq)
      have ad1 : ∀ v, f_Pieces_add 0 (nI p) (nI k) (nI w) v C1 = some (sh_pI C1 13 20 ((6 * p + k) * 4 + w) (nI (g ((6 * p + k) * 4 + w)) + v)) := fun v => by
        have := pcs_add (v := v) L1.1.1 (by omega) (rSt_0 L1.1).1 hp hk (w := w) (by omega)
        rw [Nat.zero_add, g1' _ ha] at this
        exact this
      have L2 := LK.p L1.1 g1' (v := g ((6 * p + k) * 4 + w) - clN v (g ((6 * p + k) * 4 + w))) ha (by omega)
      have su := sum_up (G := g) (a := (6 * p + k) * 4 + w) (v := g ((6 * p + k) * 4 + w) - clN v (g ((6 * p + k) * 4 + w))) ha
      have g2' : ∀ q, q < 120 → mS (sh_pI M1 13 46 (800 + ((6 * p + k) * 4 + w)) (nI (g ((6 * p + k) * 4 + w) - clN v (g ((6 * p + k) * 4 + w))))) (800 + q) = nI (up0 g ((6 * p + k) * 4 + w) (g ((6 * p + k) * 4 + w) - clN v (g ((6 * p + k) * 4 + w))) q) := by
        intro q hq
        by_cases z : q = (6 * p + k) * 4 + w
        · rw [z, show up0 g ((6 * p + k) * 4 + w) (g ((6 * p + k) * 4 + w) - clN v (g ((6 * p + k) * 4 + w))) ((6 * p + k) * 4 + w) = g ((6 * p + k) * 4 + w) - clN v (g ((6 * p + k) * 4 + w)) from if_pos rfl]
          exact pI_at _ _ _ _ _
        · rw [show up0 g ((6 * p + k) * 4 + w) (g ((6 * p + k) * 4 + w) - clN v (g ((6 * p + k) * 4 + w))) q = g q from if_neg z]
          exact (pI_ne (by omega)).trans (g1' q hq)
      have gq : up0 g ((6 * p + k) * 4 + w) (g ((6 * p + k) * 4 + w) - clN v (g ((6 * p + k) * 4 + w))) ((6 * p + k) * 4 + (w + 1)) = g ((6 * p + k) * 4 + (w + 1)) := if_neg (by omega)
      have ad2 : f_Pieces_add 0 (nI p) (nI k) (nI (w + 1)) (nI (clN v (g ((6 * p + k) * 4 + w)))) (sh_pI C1 13 20 ((6 * p + k) * 4 + w) (nI (g ((6 * p + k) * 4 + w) - clN v (g ((6 * p + k) * 4 + w))))) = some (sh_pI (sh_pI C1 13 20 ((6 * p + k) * 4 + w) (nI (g ((6 * p + k) * 4 + w) - clN v (g ((6 * p + k) * 4 + w))))) 13 20 ((6 * p + k) * 4 + (w + 1)) (nI (g ((6 * p + k) * 4 + (w + 1)) + clN v (g ((6 * p + k) * 4 + w))))) := by
        have := pcs_add (v := nI (clN v (g ((6 * p + k) * 4 + w)))) L2.1.1 (by omega) (rSt_0 L2.1).1 hp hk (w := w + 1) (by omega)
        rw [Nat.zero_add, g2' _ ha2, gq, nI_add] at this
        exact this
      have gl2 := sumN_le (g := up0 g ((6 * p + k) * 4 + w) (g ((6 * p + k) * 4 + w) - clN v (g ((6 * p + k) * 4 + w)))) (q := (6 * p + k) * 4 + (w + 1)) (n := 120) ha2
      rw [gq] at gl2
      have L3 := LK.p L2.1 g2' (v := g ((6 * p + k) * 4 + (w + 1)) + clN v (g ((6 * p + k) * 4 + w))) ha2 (by rw [gq]; omega)
      obtain ⟨C3, M3, y1, y2, y3⟩ := ih u _ _ (by omega) (by omega) (((x.tr L1).tr L2).tr L3)
      refine ⟨C3, M3, ?_, ?_, y3⟩
      · show f_Calendar_wearAt_c14 NF (f_Calendar_wearAt_l14 NF u) hc.2.2.1 0 (nI i) (nI p) (nI k) (nI (w + 1) + (-1)) H = _
        unfold f_Calendar_wearAt_c14
        rw [pk_m1, if_neg (nI_pos (by omega)), pc, Option.bind_some, if_pos n12, t7, q_m12 (by omega), ← tx, s1, sh_b2_some, CB_limit (by omega), Option.bind_some, ad1, Option.bind_some, q_neg cl, nI_1, ad2, Option.bind_some, tx]
        exact y1
      · show f_M_wears_c53 NF K (f_M_wears_l53 NF K u) (nI t) (nI i) (nI k) (nI p) (nI (w + 1) + (-1)) G = _
        unfold f_M_wears_c53
        have c1 : (nI (800 + ((6 * p + k) * 4 + w))).toNatClampNeg = 800 + ((6 * p + k) * 4 + w) := cl8 (by omega)
        have c2 : (nI (800 + ((6 * p + k) * 4 + (w + 1)))).toNatClampNeg = 800 + ((6 * p + k) * 4 + (w + 1)) := cl8 (by omega)
        have a1 : nI (210 + 3 * i) + 1 = nI (211 + 3 * i) := by rw [nI_1]; congr 1; omega
        rw [pk_m1, if_neg (nI_pos (by omega)), M_cell, Option.bind_some, if_pos (in8 (by omega)), c1, show G.1 13 46 (800 + ((6 * p + k) * 4 + w)) = _ from g1 _ ha, if_pos n12, q_m12 (by omega), r1, Option.bind_some, ad3, a1, r3, sh_b2_some, M_within (by omega), Option.bind_some, M_cell, Option.bind_some, if_pos (in8 (by omega)), if_pos (in8 (by omega)), c1, show M1.1 13 46 (800 + ((6 * p + k) * 4 + w)) = _ from g1' _ ha, sh_let, q_sub cl, nI_1, M_cell, Option.bind_some, if_pos (in8 (by omega)), if_pos (in8 (by omega)), c2, show (sh_pI M1 13 46 (800 + ((6 * p + k) * 4 + w)) (nI (g ((6 * p + k) * 4 + w) - clN v (g ((6 * p + k) * 4 + w))))).1 13 46 (800 + ((6 * p + k) * 4 + (w + 1))) = _ from g2' _ ha2, sh_let, gq, nI_add]
        exact y2
  exact lp 3 NF hc hm (by omega) (NF_gt (by omega)) (LK.rf h)
theorem IT_e {f : Nat → Int32} {n : Nat} (h : IT f) (hn : f 5 = nI n) (n2 : n < 2 ^ 31) : n ≤ 12 ∧ ∀ r, r < n → kd f (210 + 3 * r) ∧ FE f (211 + 3 * r) := by
  obtain ⟨n', m1, m2, m3⟩ := h.2.2.2.2.2.1
  obtain rfl : n' = n := (nI_eq (by omega) (by omega)).mp (m2.symm.trans hn)
  exact ⟨m1, m3⟩
theorem LK_wear {c : Nat} {hc hm : sh_H} (h : St c hc hm) (hc5 : c ≤ 512) {t : Nat} (ht : mS hm 9 = nI t) (ht2 : t ≤ 240) : ∃ hc' hm', f_Calendar_wear NF hc.2.2.1 0 hc = some hc' ∧ f_M_wears NF (nI t) hm = some hm' ∧ LK c hc hm hc' hm' := by
  obtain ⟨n, n1, n2, -⟩ := (St_T h).2.2.2.2.2.1
  obtain ⟨ni, i1, i2, -⟩ := (St_T h).2.1
  have j5 : ai_in (5 : Int32) 8000 := in8 (k := 5) (by omega)
  have j1 : ai_in (1 : Int32) 8000 := in8 (k := 1) (by omega)
  have inn : ∀ (i k : Nat) (KC : Nat → Nat → Int32 → sh_H → Option sh_H) (KM : Int32 → Int32 → sh_H → Option sh_H), i < n → k < 6 → ∀ (q p u : Nat) (H G : sh_H), p + q = ni + 1 → q < u → 1 ≤ p → mS hm (210 + 3 * i) = nI k → LK c hc hm H G → ∃ hc' hm', f_Calendar_wear_l40 NF KC u hc.2.2.1 0 (nI i) (nI ni) (nI p) H = KC hc.2.2.1 0 (nI i) hc' ∧ f_M_wears_l39 NF KM u (nI t) (nI i) (nI k) (nI p) G = KM (nI t) (nI i) hm' ∧ LK c hc hm hc' hm' := by
    intro i k KC KM hi hk q
    induction q with
    | zero =>
      intro p u H G e1 e2 e3 ek x
      obtain ⟨u, rfl⟩ : ∃ m, u = m + 1 := ⟨u - 1, by omega⟩
      refine ⟨H, G, ?_, ?_, x⟩
      · show f_Calendar_wear_c40 NF KC (f_Calendar_wear_l40 NF KC u) hc.2.2.1 0 (nI i) (nI ni) (nI p) H = _
        unfold f_Calendar_wear_c40
        rw [if_pos (nI_lt (by omega) (by omega))]
      · show f_M_wears_c39 NF KM (f_M_wears_l39 NF KM u) (nI t) (nI i) (nI k) (nI p) G = _
        unfold f_M_wears_c39
        rw [if_pos j1, show G.1 13 46 (1 : Int32).toNatClampNeg = nI ni from (x.2.2.2.2.2 1 (by omega)).trans i2, if_pos (nI_lt (by omega) (by omega))]
    | succ q ih =>
      intro p u H G e1 e2 e3 ek x
      obtain ⟨u, rfl⟩ : ∃ m, u = m + 1 := ⟨u - 1, by omega⟩
      have g5 : mS G 5 = nI n := (x.2.2.2.2.2 5 (by omega)).trans n2
      have g9 : mS G 9 = nI t := (x.2.2.2.2.2 9 (by omega)).trans ht
      have gk : mS G (210 + 3 * i) = nI k := (x.2.2.2.2.2 _ (by omega)).trans ek
      have fe := ((IT_e (St_T x.1) g5 (by omega)).2 i hi).2
      obtain ⟨C1, M1, z1, z2, z3⟩ := LK_wearAt x.1 hc5 g9 ht2 g5 n1 hi (p := p) (by omega) hk fe (f_M_wears_b151 NF (f_M_wears_l39 NF KM u))
      obtain ⟨C3, M3, y1, y2, y3⟩ := ih (p + 1) u C1 M1 (by omega) (by omega) (by omega) ek (x.tr z3)
      refine ⟨C3, M3, ?_, ?_, y3⟩
      · show f_Calendar_wear_c40 NF KC (f_Calendar_wear_l40 NF KC u) hc.2.2.1 0 (nI i) (nI ni) (nI p) H = _
        unfold f_Calendar_wear_c40 f_Calendar_wearAt
        have w1 := St_w1 x.1 g5 n1 hi
        rw [gk, x.tx] at w1
        rw [x.tx] at z1
        rw [if_neg (nI_nlt (by omega) (by omega)), w1, Option.bind_some, z1, Option.bind_some, nI_1]
        exact y1
      · show f_M_wears_c39 NF KM (f_M_wears_l39 NF KM u) (nI t) (nI i) (nI k) (nI p) G = _
        unfold f_M_wears_c39
        rw [if_pos j1, show G.1 13 46 (1 : Int32).toNatClampNeg = nI ni from (x.2.2.2.2.2 1 (by omega)).trans i2, if_neg (nI_nlt (by omega) (by omega)), z2]
        unfold f_M_wears_b151
        rw [nI_1]
        exact y2
  have lp : ∀ (q i u : Nat) (H G : sh_H), i + q = n → q < u → LK c hc hm H G → ∃ hc' hm', f_Calendar_wear_l2 NF u hc.2.2.1 0 (nI i) H = some hc' ∧ f_M_wears_l2 NF u (nI t) (nI i) G = some hm' ∧ LK c hc hm hc' hm' := by
    intro q
    induction q with
    | zero =>
      intro i u H G e1 e2 x
      obtain ⟨u, rfl⟩ : ∃ m, u = m + 1 := ⟨u - 1, by omega⟩
      have g4 : mS G 5 = nI n := (x.2.2.2.2.2 5 (by omega)).trans n2
      refine ⟨H, G, ?_, ?_, x⟩
      · show f_Calendar_wear_c2 NF (f_Calendar_wear_l2 NF u) hc.2.2.1 0 (nI i) H = _
        unfold f_Calendar_wear_c2 f_Rows_size
        rw [← x.tx, St_z x.1 5 (by omega), g4, Option.bind_some, if_neg (nI_nlt (by omega) (by omega))]
      · show f_M_wears_c2 NF (f_M_wears_l2 NF u) (nI t) (nI i) G = _
        unfold f_M_wears_c2
        rw [if_pos j5, show G.1 13 46 (5 : Int32).toNatClampNeg = nI n from g4, if_neg (nI_nlt (by omega) (by omega))]
    | succ q ih =>
      intro i u H G e1 e2 x
      obtain ⟨u, rfl⟩ : ∃ m, u = m + 1 := ⟨u - 1, by omega⟩
      have hi : i < n := by omega
      have g5 : mS G 5 = nI n := (x.2.2.2.2.2 5 (by omega)).trans n2
      have g1 : mS G 1 = nI ni := (x.2.2.2.2.2 1 (by omega)).trans i2
      obtain ⟨k, k6, ek, -⟩ := kd_n ((IT_e (St_T h) n2 (by omega)).2 i hi).1
      have gk : mS G (210 + 3 * i) = nI k := (x.2.2.2.2.2 _ (by omega)).trans ek
      have inF := C_inForceW x.1 g5 n1 hi
      rw [x.tx] at inF
      have mL := M_isLastWear (H := G) g5 n1 hi
      have zz : H.1 6 (7 * hc.2.2.1 + 5) 3 = nI n := by rw [← x.tx]; exact (St_z x.1 5 (by omega)).trans g5
      have z1 : H.1 6 (7 * hc.2.2.1 + 1) 3 = nI ni := by rw [← x.tx]; exact (St_z x.1 1 (by omega)).trans g1
      by_cases z : ilw (mS G) i n = true
      · rw [if_pos z] at inF mL
        obtain ⟨C1, M1, w1, w2, w3⟩ := inn i k (f_Calendar_wear_b60 NF (f_Calendar_wear_l2 NF u)) (f_M_wears_b157 NF (f_M_wears_l2 NF u)) hi k6 ni 1 NF H G (by omega) (NF_gt (by omega)) (by omega) ek x
        obtain ⟨C3, M3, y1, y2, y3⟩ := ih (i + 1) u C1 M1 (by omega) (by omega) w3
        refine ⟨C3, M3, ?_, ?_, y3⟩
        · show f_Calendar_wear_c2 NF (f_Calendar_wear_l2 NF u) hc.2.2.1 0 (nI i) H = _
          unfold f_Calendar_wear_c2 f_Rows_size f_Calendar_wear_b36
          rw [zz, Option.bind_some, if_pos (nI_lt hi (by omega)), inF, Option.bind_some, if_neg q_10, z1, Option.bind_some, show f_Calendar_wear_l40 NF (f_Calendar_wear_b60 NF (f_Calendar_wear_l2 NF u)) NF hc.2.2.1 0 (nI i) (nI ni) 1 H = _ from w1]
          unfold f_Calendar_wear_b60
          rw [nI_1]
          exact y1
        · show f_M_wears_c2 NF (f_M_wears_l2 NF u) (nI t) (nI i) G = _
          unfold f_M_wears_c2
          rw [if_pos j5, show G.1 13 46 (5 : Int32).toNatClampNeg = nI n from g5, if_pos (nI_lt hi (by omega)), mL, Option.bind_some, if_neg q_10, ad3, if_pos (in8 (by omega)), cl8 (by omega), show G.1 13 46 (210 + 3 * i) = nI k from gk, show f_M_wears_l39 NF (f_M_wears_b157 NF (f_M_wears_l2 NF u)) NF (nI t) (nI i) (nI k) 1 G = _ from w2]
          unfold f_M_wears_b157
          rw [nI_1]
          exact y2
      · rw [if_neg z] at inF mL
        obtain ⟨C3, M3, y1, y2, y3⟩ := ih (i + 1) u H G (by omega) (by omega) x
        refine ⟨C3, M3, ?_, ?_, y3⟩
        · show f_Calendar_wear_c2 NF (f_Calendar_wear_l2 NF u) hc.2.2.1 0 (nI i) H = _
          unfold f_Calendar_wear_c2 f_Rows_size f_Calendar_wear_b36
          rw [zz, Option.bind_some, if_pos (nI_lt hi (by omega)), inF, Option.bind_some, if_pos (rfl : (0 : Int32) = 0)]
          show f_Calendar_wear_c40 NF (f_Calendar_wear_b60 NF (f_Calendar_wear_l2 NF u)) (f_Calendar_wear_l40 NF (f_Calendar_wear_b60 NF (f_Calendar_wear_l2 NF u)) 999999) hc.2.2.1 0 (nI i) 0 1 H = _
          unfold f_Calendar_wear_c40 f_Calendar_wear_b60
          rw [if_pos (show (0 : Int32) < 1 by decide), nI_1]
          exact y1
        · show f_M_wears_c2 NF (f_M_wears_l2 NF u) (nI t) (nI i) G = _
          unfold f_M_wears_c2 f_M_wears_b157
          rw [if_pos j5, show G.1 13 46 (5 : Int32).toNatClampNeg = nI n from g5, if_pos (nI_lt hi (by omega)), mL, Option.bind_some, if_pos (rfl : (0 : Int32) = 0), nI_1]
          exact y2
  unfold f_Calendar_wear f_M_wears
  exact lp n 0 NF hc hm (by omega) (NF_gt (by omega)) (LK.rf h)
