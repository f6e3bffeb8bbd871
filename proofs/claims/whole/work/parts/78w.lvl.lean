/-! PAIR: read: formulas: sums and products -/
def xL (u o : Nat) (nd : Int32) (G : sh_H) : Option (Int32 × sh_H) := f_M_expr_l21 NF (f_M_expr_b53 NF) (f_M_expr_b143 NF) (f_M_expr_b286 NF) (f_M_expr_b343 NF) (f_M_expr_b403 NF) u (nI o) nd 1 G
def ES (B : Nat → Nat) (n sz lf lt sp a z zm w : Nat) (W A V : Nat → Nat) (H G : sh_H) : Prop := PS B n sz a lf lt H G ∧ CC sp z A V H ∧ CM zm A V G ∧ CV z A V ∧ WT (w + (z - zm)) W G ∧ zm ≤ z ∧ z < a ∧ w + (z - zm) ≤ a
def xst (rm s : Nat) : Prop := (rm ≤ 2 → s ≠ 42 ∧ s ≠ 47) ∧ (rm ≤ 1 → s ≠ 43 ∧ s ≠ 45)
def AC (sp w a0 z0 e0 u0 : Nat) (W0 A0 V0 : Nat → Nat) (H0 G0 : sh_H) (a z u : Nat) (W A V : Nat → Nat) (H G : sh_H) : Prop := (∀ i, i < w → W i = W0 i) ∧ a0 < a ∧ u + a = u0 + a0 ∧ z + a0 ≤ z0 + a ∧ z0 ≤ z ∧ (∀ k, k < z0 → A k = A0 k ∧ V k = V0 k) ∧ DP A z0 z e0 (e0 + 1) ∧ xC sp H H0 ∧ xM G G0
def XF (B : Nat → Nat) (n sz sp : Nat) (H G : sh_H) (er : Option sh_H) (m : Option (Int32 × sh_H)) : Prop := ∃ F T H' G', er = some H' ∧ m = some (0, G') ∧ T < sz ∧ DE F T H' ∧ FA B n F T G' ∧ xC sp H' H ∧ xM G' G
def XR (B : Nat → Nat) (n sz lf lt sp rm o a z w e u : Nat) (W A V : Nat → Nat) (H G : sh_H) (er : Option sh_H) (m : Option (Int32 × sh_H)) : Prop := (∃ a' z' zm' u' W' A' V' H' G', er = some H' ∧ m = xL u' o 0 G' ∧ ES B n sz lf lt sp a' z' zm' w W' A' V' H' G' ∧ LG rm zm' (z' - zm') w W' A' ∧ xst rm (tT B n a') ∧ AC sp w a z e u W A V H G a' z' u' W' A' V' H' G') ∨ XF B n sz sp H G er m
/-- class and model agree from level o on: rm 3 a unit, 2 a product, 1 a sum -/
def CU (B : Nat → Nat) (n sz lf lt sp rm : Nat) (g : Nat → Int32 → sh_H → Option sh_H) (o : Nat) : Prop := ∀ (a z w e u : Nat) (W A V : Nat → Nat) (H G : sh_H), ES B n sz lf lt sp a z z w W A V H G → (w = 0 ∨ rk (W (w - 1)) ≤ rm - 1) → e ≤ 3 * o + (rm - 1) → 500 ≤ u + a → XR B n sz lf lt sp rm o a z w e u W A V H G (g sp (nI o) H) (xL u o 1 G)
/-- the dead class goes on -/
def Dg (sp : Nat) (g : Nat → Int32 → sh_H → Option sh_H) : Prop := ∀ (F T : Nat) (x : Int32) (H : sh_H), DE F T H → ∃ H', g sp x H = some H' ∧ DE F T H' ∧ xC sp H' H
def xl8 (s1 s2 : Int32) (g : Nat → Int32 → sh_H → Option sh_H) (n : Nat) : Nat → Int32 → Int32 → sh_H → Option sh_H := Nat.rec (motive := fun _ => Nat → Int32 → Int32 → sh_H → Option sh_H) (fun _ _ _ _ => none) (fun _ k8 l1 l2 l3 h => if l3 < (400 : Int32) then (Option.bind (f_Reader_upcoming h) (fun v5 => (if v5 = s1 then f_Reader_sum_b33 NF g k8 l1 l2 l3 h else (Option.bind (f_Reader_upcoming h) (fun v6 => (if v6 = s2 then f_Reader_sum_b33 NF g k8 l1 l2 l3 h else (some h))))))) else (some h)) n
theorem xl8_s (s1 s2 : Int32) (g : Nat → Int32 → sh_H → Option sh_H) (n l1 : Nat) (l2 l3 : Int32) (h : sh_H) : xl8 s1 s2 g (n + 1) l1 l2 l3 h = if l3 < (400 : Int32) then (Option.bind (f_Reader_upcoming h) (fun v5 => (if v5 = s1 then f_Reader_sum_b33 NF g (xl8 s1 s2 g n) l1 l2 l3 h else (Option.bind (f_Reader_upcoming h) (fun v6 => (if v6 = s2 then f_Reader_sum_b33 NF g (xl8 s1 s2 g n) l1 l2 l3 h else (some h))))))) else (some h) := rfl
theorem D_loop {F T : Nat} {H : sh_H} (d : DE F T H) {s1 s2 : Int32} {g : Nat → Int32 → sh_H → Option sh_H} {u : Nat} (hu : 0 < u) (l1 : Nat) (l2 l3 : Int32) : xl8 s1 s2 g u l1 l2 l3 H = some H := by
  obtain ⟨u, rfl⟩ : ∃ m, u = m + 1 := ⟨u - 1, by omega⟩
  obtain ⟨v, hv⟩ := up_tot H
  rw [xl8_s]
  unfold f_Reader_sum_b33
  rw [hv, Option.bind_some, if_neg d.ne, Option.bind_some, ite_self, ite_self, ite_self]
theorem D_rest {F T sp u : Nat} {H : sh_H} (hs : sp < 2) (d : DE F T H) {s1 s2 : Int32} {g : Nat → Int32 → sh_H → Option sh_H} (dg : Dg sp g) (hu : 0 < u) (x v l3 : Int32) : ∃ H', Option.bind (g sp x H) (fun h3 => Option.bind (f_Formulas_add sp v 0 h3) (fun h4 => xl8 s1 s2 g u sp x l3 h4)) = some H' ∧ DE F T H' ∧ xC sp H' H := by
  obtain ⟨H1, e1, d1, x1⟩ := dg F T x H d
  obtain ⟨H2, e2, x2, f2⟩ := add_tot sp hs v 0 H1
  have d2 : DE F T H2 := ⟨d1.1, (f2 4).trans d1.2.1, (f2 5).trans d1.2.2⟩
  rw [e1, Option.bind_some, e2, Option.bind_some, D_loop d2 hu]
  exact ⟨H2, rfl, d2, x2.tr x1⟩
def jn (s : Nat) : Int32 := if s = 43 then 2 else if s = 45 then 3 else if s = 42 then 4 else if s = 47 then 5 else -1
theorem M_joinAt {B : Nat → Nat} {n sz a : Nat} {H G : sh_H} (t : TK B n sz H G) (ha : a < sz) (hg : G.1 12 0 7 = nI a) : f_M_joinAt G = some (jn (tT B n a)) := by
  have i1 : f_M_isSign 43 G = _ := M_isSign (c := 43) (s := 43) t ha hg (by omega)
  have i2 : f_M_isSign 45 G = _ := M_isSign (c := 45) (s := 45) t ha hg (by omega)
  have i3 : f_M_isSign 42 G = _ := M_isSign (c := 42) (s := 42) t ha hg (by omega)
  have i4 : f_M_isSign 47 G = _ := M_isSign (c := 47) (s := 47) t ha hg (by omega)
  unfold f_M_joinAt jn
  rw [i1, i2, i3, i4]
  simp only [Option.bind_some]
  by_cases c1 : tT B n a = 43
  · rw [if_pos c1, if_pos c1, if_neg q_10]
  · rw [if_neg c1, if_neg c1, if_pos rfl]
    by_cases c2 : tT B n a = 45
    · rw [if_pos c2, if_pos c2, if_neg q_10]
    · rw [if_neg c2, if_neg c2, if_pos rfl]
      by_cases c3 : tT B n a = 42
      · rw [if_pos c3, if_pos c3, if_neg q_10]
      · rw [if_neg c3, if_neg c3, if_pos rfl]
        by_cases c4 : tT B n a = 47
        · rw [if_pos c4, if_pos c4, if_neg q_10]
        · rw [if_neg c4, if_neg c4, if_pos rfl]
/-- the model meets an operator -/
theorem M_op {B : Nat → Nat} {n sz lf lt sp a z zm w op : Nat} {W A V : Nat → Nat} {H G : sh_H} (hs : sp < 2) (es : ES B n sz lf lt sp a z zm w W A V H G) (ho : 2 ≤ op ∧ op ≤ 5) (hj : jn (tT B n a) = nI op) (lg : LG (rk op) zm (z - zm) w W A) (top : w = 0 ∨ rk (W (w - 1)) < rk op) : ∃ G1, PS B n sz a lf lt H G1 ∧ CM z A V G1 ∧ WT (w + 1) (up0 W w op) G1 ∧ xM G1 G ∧ ∀ u o, xL (u + 1) o 0 G = sh_b2 (f_M_pass G1) (fun v h => if v = 0 then some (0, h) else xL u o 1 h) := by
  obtain ⟨p, cc, cm, cv, wt, zl, za, wa⟩ := es
  have a4 := p.a4
  have ez : zm + (z - zm) = z := by omega
  have rk1 : 1 ≤ rk op ∧ rk op ≤ 2 := by
    refine ⟨?_, rk_le op⟩
    unfold rk
    rw [if_neg (by omega)]
    split <;> omega
  obtain ⟨G1, r1, r2, r3, r4, r5, r6⟩ := M_reduce rk1 top (z - zm) NF zm G (NF_gt (by omega)) (by omega) (by omega) cm (by rw [ez]; exact cv) wt lg
  rw [ez] at r2
  obtain ⟨G2, y1, y2, y3, y4, y5⟩ := M_await (o := op) (by omega) (by omega) r3
  have x2 : xM G2 G := y3.tr r4
  have p2 : PS B n sz a lf lt H G2 := PS_e hs (xC.rf sp H) x2 (fun _ => rfl) (fun j hj => (y4 j (by omega)).trans (r5 j (by omega))) p
  refine ⟨G2, p2, CM_to y5 r2, y2, x2, fun u o => ?_⟩
  show f_M_expr_c21 NF (f_M_expr_b53 NF) (f_M_expr_b143 NF) (f_M_expr_b286 NF) (f_M_expr_b343 NF) (f_M_expr_b403 NF) (f_M_expr_l21 NF (f_M_expr_b53 NF) (f_M_expr_b143 NF) (f_M_expr_b286 NF) (f_M_expr_b343 NF) (f_M_expr_b403 NF) u) (nI o) 0 1 G = _
  unfold f_M_expr_c21 f_M_expr_b90
  rw [if_neg q_10, if_pos rfl, if_pos rfl, M_joinAt p.1 p.2.1 p.2.2.2.2.1, Option.bind_some, hj, if_neg (nI_pos (by omega)), Option.bind_some, M_rank (by omega), Option.bind_some]
  unfold f_M_reduce
  rw [r1, Option.bind_some, y1, Option.bind_some, q_nar0]
  rfl
theorem PS_acc {B : Nat → Nat} {n sz lf lt sp a z w : Nat} {W A V : Nat → Nat} {H G H' G' : sh_H} (p : PS B n sz (a + 1) lf lt H' G') (f : f5 H' H) (g : f12 G' G) (cc : CC sp z A V H) (cm : CM z A V G) (cv : CV z A V) (wt : WT w W G) (e20 : G'.1 12 0 20 = G.1 12 0 20) (za : z < a + 1) (wa : w ≤ a + 1) : ES B n sz lf lt sp (a + 1) z z w W A V H' G' := ⟨p, CC_f f cc, CM_f g cm, cv, by rw [Nat.sub_self]; exact WT_to e20 (fun i => g.1 _ _ _ (by omega)) wt, Nat.le_refl _, za, by omega⟩
theorem S_pass20 {B : Nat → Nat} {n sz a lf lt : Nat} {H G : sh_H} (p : PS B n sz a lf lt H G) (g : tG B n a) : (∃ H' G', f_Reader_accept H = some H' ∧ f_M_pass G = some (1, G') ∧ PS B n sz (a + 1) lf lt H' G' ∧ f5 H' H ∧ f12 G' G ∧ (∀ j, j ≠ 7 → G'.1 12 0 j = G.1 12 0 j)) ∨ (∃ F T H' G', f_Reader_accept H = some H' ∧ f_M_pass G = some (0, G') ∧ T < sz ∧ DE F T H' ∧ FA B n F T G' ∧ f5 H' H ∧ f12 G' G) := by
  have a4 := p.a4
  by_cases h4 : a < 400
  · exact Or.inl ⟨_, _, C_acc p.2.2.1 p.2.2.2.1 h4, M_pas p.2.2.2.2.1 h4, PS_up p g h4, (f5.rf H).pI, (f12.rf G).pI (by omega), fun j hj => pI_ne (by omega)⟩
  · obtain rfl : a = 400 := by omega
    obtain ⟨H2, y1, y2, y3⟩ := C_acc4 p.2.2.1 p.2.2.2.1
    obtain ⟨G2, z1, z2, z3⟩ := M_pas4 p.1 p.2.1 p.2.2.2.2.1
    exact Or.inr ⟨2, 400, H2, G2, y1, z1, p.2.1, y2, z2, y3, z3⟩
theorem sgn_cst : ∀ o, 2 ≤ o → o < 8 → (nI (fsg o)) <<< ((16 : Int32) &&& 31) ||| ((0 : Int32) &&& 65535) = nI (cst o 0) := by
  intro o h1 h2
  rcases (show o = 2 ∨ o = 3 ∨ o = 4 ∨ o = 5 ∨ o = 6 ∨ o = 7 by omega) with rfl | rfl | rfl | rfl | rfl | rfl <;> decide
/-- a level of products or of sums -/
theorem X_loop {B : Nat → Nat} {n sz lf lt sp rm o s1 s2 o1 o2 : Nat} (hs : sp < 2) (hrm : 1 ≤ rm ∧ rm ≤ 2) (h1 : 2 ≤ o1 ∧ o1 ≤ 5 ∧ rk o1 = rm ∧ jn s1 = nI o1 ∧ fsg o1 = s1 ∧ s1 < 100) (h2 : 2 ≤ o2 ∧ o2 ≤ 5 ∧ rk o2 = rm ∧ jn s2 = nI o2 ∧ fsg o2 = s2 ∧ s2 < 100) (hstp : ∀ t, xst (rm + 1) t → t ≠ s1 → t ≠ s2 → xst rm t) {g : Nat → Int32 → sh_H → Option sh_H} (hg : CU B n sz lf lt sp (rm + 1) g o) (dg : Dg sp g) {a0 z0 e0 u0 w : Nat} {W0 A0 V0 : Nat → Nat} {H0 G0 : sh_H} (top : w = 0 ∨ rk (W0 (w - 1)) ≤ rm - 1) (he : e0 ≤ 3 * o + (rm - 1)) : ∀ (uc i a z zm u : Nat) (W A V : Nat → Nat) (H G : sh_H), 500 ≤ uc + a → 500 ≤ u + a → i + 1 ≤ a → ES B n sz lf lt sp a z zm w W A V H G → LG rm zm (z - zm) w W A → xst (rm + 1) (tT B n a) → AC sp w a0 z0 e0 u0 W0 A0 V0 H0 G0 a z u W A V H G → XR B n sz lf lt sp rm o a0 z0 w e0 u0 W0 A0 V0 H0 G0 (xl8 (nI s1) (nI s2) g uc sp (nI o) (nI i) H) (xL u o 0 G) := by
  intro uc
  induction uc with
  | zero =>
    intro i a z zm u W A V H G e1 e2 e3 es lg st ac
    have := es.1.a4
    omega
  | succ uc ih =>
    intro i a z zm u W A V H G e1 e2 e3 es lg st ac
    have p := es.1
    have a4 := p.a4
    have tl := tT_lt B n a
    have cc := es.2.1
    have cv := es.2.2.2.1
    have za := es.2.2.2.2.2.2.1
    have wa := es.2.2.2.2.2.2.2
    have zl := es.2.2.2.2.2.1
    rw [xl8_s, if_pos (show nI i < (400 : Int32) from nI_lt (b := 400) (by omega) (by omega)), C_up p, Option.bind_some]
    -- an operator
    have stepp : ∀ s op : Nat, tT B n a = s → 2 ≤ op → op ≤ 5 → rk op = rm → jn s = nI op → fsg op = s → XR B n sz lf lt sp rm o a0 z0 w e0 u0 W0 A0 V0 H0 G0 (f_Reader_sum_b33 NF g (xl8 (nI s1) (nI s2) g uc) sp (nI o) (nI i) H) (xL u o 0 G) := by
      intro s op hts o1' o2' hrk hjn hsg
      obtain ⟨u', rfl⟩ : ∃ m, u = m + 1 := ⟨u - 1, by omega⟩
      have W1 : ∀ i, i < w → W i = W0 i := ac.1
      obtain ⟨G1, q1, q2, q3, q4, q5⟩ := M_op hs es ⟨o1', o2'⟩ (by rw [hts]; exact hjn) (by rw [hrk]; exact lg) (by
        rcases top with t | t
        · exact Or.inl t
        · by_cases w0 : w = 0
          · exact Or.inl w0
          · exact Or.inr (by rw [W1 _ (by omega), hrk]; omega))
      have gg : tG B n a := by
        have sc : s = 43 ∨ s = 45 ∨ s = 42 ∨ s = 47 := by
          unfold fsg at hsg
          rcases (show op = 2 ∨ op = 3 ∨ op = 4 ∨ op = 5 by omega) with h | h | h | h <;> rw [h] at hsg <;> simp at hsg <;> omega
        exact ⟨by omega, by omega⟩
      unfold f_Reader_sum_b33
      rw [if_pos p.2.2.2.1, C_up p, Option.bind_some, q5 u' o]
      rcases S_pass20 q1 gg with ⟨H2, G2, y1, y2, y3, y4, y5, y6⟩ | ⟨F, T, H2, G2, y1, y2, y3, y4, y5, y6, y7⟩
      · rw [y1, y2, Option.bind_some, sh_b2_some, if_neg q_10]
        have es2 : ES B n sz lf lt sp (a + 1) z z (w + 1) (up0 W w op) A V H2 G2 := PS_acc y3 y4 y5 cc q2 cv q3 (y6 20 (by omega)) (by omega) (by omega)
        rcases hg (a + 1) z (w + 1) (e0 + 1) u' (up0 W w op) A V H2 G2 es2 (Or.inr (by rw [show w + 1 - 1 = w by omega, up0_y, hrk]; omega)) (by omega) (by omega) with ⟨a', z', zm', u2, W', A', V', H', G', r1, r2, r3, r4, r5, r6⟩ | ⟨F, T, H', G', r1, r2, r3, r4, r5, r6, r7⟩
        · obtain ⟨t1, t2, t3, t4, t5, t6, t7, t8, t9⟩ := r6
          obtain ⟨s1', s2', s3', s4', s5', s6', s7', s8'⟩ := r3
          have a4' := s1'.a4
          obtain ⟨v1, v2, v3, v4, v5, v6, v7, v8, v9⟩ := ac
          obtain ⟨H3, b1, b2, b3, b4⟩ := C_add (o := op) (v := 0) hs (by omega) (nI s) 0 (by rw [← hsg]; exact sgn_cst op o1' (by omega)) s2'
          rw [r1, Option.bind_some, r2, hts, b1, Option.bind_some, nI_1]
          have cv3 : CV (z' + 1) (up0 A' z' op) (up0 V' z' 0) := by
            intro k hk
            by_cases c : k = z'
            · rw [c, up0_y, up0_y]; exact ⟨by omega, by omega, fun z => by omega, fun _ => rfl⟩
            · rw [up0_n c, up0_n c]; exact s4' k (by omega)
          have cg : ∀ k, k < z' → up0 A' z' op k = A' k ∧ up0 V' z' 0 k = V' k := fun k hk => ⟨up0_n (by omega), up0_n (by omega)⟩
          have es3 : ES B n sz lf lt sp a' (z' + 1) zm' w W' (up0 A' z' op) (up0 V' z' 0) H3 G' := ⟨PS_e hs b3 (xM.rf G') b4 (fun _ _ => rfl) s1', b2, CM_cg (fun k hk => cg k (by omega)) s3', cv3, by rw [show w + (z' + 1 - zm') = w + 1 + (z' - zm') by omega]; exact s5', by omega, by omega, by omega⟩
          have lg3 : LG rm zm' (z' + 1 - zm') w W' (up0 A' z' op) := by
            intro j hj
            by_cases c : j < z' - zm'
            · have := r4 j c
              rw [show w + (z' + 1 - zm') - 1 - j = w + 1 + (z' - zm') - 1 - j by omega, up0_n (show zm' + j ≠ z' by omega)]
              exact ⟨this.1, by omega⟩
            · rw [show w + (z' + 1 - zm') - 1 - j = w by omega, show zm' + j = z' by omega, up0_y, t1 w (by omega), up0_y]
              exact ⟨rfl, by omega⟩
          refine ih (i + 1) a' (z' + 1) zm' u2 W' _ _ H3 G' (by omega) (by omega) (by omega) es3 lg3 r5 ⟨fun i hi => ?_, by omega, by omega, by omega, by omega, fun k hk => ?_, ?_, b3.tr (t8.tr ((y4.E).tr v8)), t9.tr ((y5.E).tr (q4.tr v9))⟩
          · rw [t1 i (by omega), up0_n (by omega)]; exact v1 i hi
          · rw [up0_n (show k ≠ z' by omega), up0_n (show k ≠ z' by omega)]
            have := t6 k (by omega)
            rw [this.1, this.2]
            exact v6 k hk
          · refine DP_tr (z1 := z) (e1 := e0 + 1) (by omega) (by omega) (DP_cg (fun k k1 k2 => ?_) v7) (DP_tr (z1 := z') (e1 := e0 + 1 + 1) (by omega) (by omega) (DP_cg (fun k k1 k2 => ?_) t7) (DP_op (by rw [up0_y]; exact o1') (by rw [up0_y]; omega)))
            · rw [up0_n (by omega)]; exact (t6 k (by omega)).1
            · rw [up0_n (by omega)]
        · rw [r2, hts]
          obtain ⟨H4, b2, b3, b4⟩ := D_rest (s1 := nI s1) (s2 := nI s2) (g := g) hs r4 dg (u := uc) (by omega) (nI o) (nI s) (nI i + 1)
          -- the class was dead behind g: go on from there
          rw [r1, Option.bind_some]
          obtain ⟨H5, c1, c2, c3⟩ := add_tot sp hs (nI s) 0 H'
          have d5 : DE F T H5 := ⟨r4.1, (c3 4).trans r4.2.1, (c3 5).trans r4.2.2⟩
          rw [c1, Option.bind_some, D_loop d5 (by omega)]
          exact Or.inr ⟨F, T, H5, G', rfl, rfl, r3, d5, r5, c2.tr (r6.tr ((y4.E).tr ac.2.2.2.2.2.2.2.1)), r7.tr ((y5.E).tr (q4.tr ac.2.2.2.2.2.2.2.2))⟩
      · rw [y1, y2, Option.bind_some, sh_b2_some, if_pos rfl]
        obtain ⟨H4, b2, b3, b4⟩ := D_rest (s1 := nI s1) (s2 := nI s2) (g := g) hs y4 dg (u := uc) (by omega) (nI o) (nI (tT B n a)) (nI i + 1)
        rw [b2]
        exact Or.inr ⟨F, T, H4, G2, rfl, rfl, y3, b3, y5, b4.tr ((y6.E).tr ac.2.2.2.2.2.2.2.1), (y7.E).tr (q4.tr ac.2.2.2.2.2.2.2.2)⟩
    by_cases c1 : tT B n a = s1
    · rw [if_pos (by rw [c1])]
      exact stepp s1 o1 c1 h1.1 h1.2.1 h1.2.2.1 h1.2.2.2.1 h1.2.2.2.2.1
    · rw [if_neg (nI_ne c1 (by omega) (by omega)), Option.bind_some]
      by_cases c2 : tT B n a = s2
      · rw [if_pos (by rw [c2])]
        exact stepp s2 o2 c2 h2.1 h2.2.1 h2.2.2.1 h2.2.2.2.1 h2.2.2.2.2.1
      · rw [if_neg (nI_ne c2 (by omega) (by omega))]
        exact Or.inl ⟨a, z, zm, u, W, A, V, H, G, rfl, rfl, es, lg, hstp _ st c1 c2, ac⟩
theorem X_lvl {B : Nat → Nat} {n sz lf lt sp rm o s1 s2 o1 o2 : Nat} (hs : sp < 2) (hrm : 1 ≤ rm ∧ rm ≤ 2) (h1 : 2 ≤ o1 ∧ o1 ≤ 5 ∧ rk o1 = rm ∧ jn s1 = nI o1 ∧ fsg o1 = s1 ∧ s1 < 100) (h2 : 2 ≤ o2 ∧ o2 ≤ 5 ∧ rk o2 = rm ∧ jn s2 = nI o2 ∧ fsg o2 = s2 ∧ s2 < 100) (hstp : ∀ t, xst (rm + 1) t → t ≠ s1 → t ≠ s2 → xst rm t) {g : Nat → Int32 → sh_H → Option sh_H} (hg : CU B n sz lf lt sp (rm + 1) g o) (dg : Dg sp g) : CU B n sz lf lt sp rm (fun l1 l2 h => Option.bind (g l1 l2 h) (fun h7 => xl8 (nI s1) (nI s2) g NF l1 l2 0 h7)) o := by
  intro a z w e u W A V H G es top he hu
  show XR B n sz lf lt sp rm o a z w e u W A V H G (Option.bind (g sp (nI o) H) (fun h7 => xl8 (nI s1) (nI s2) g NF sp (nI o) 0 h7)) (xL u o 1 G)
  rcases hg a z w e u W A V H G es (top.imp id (fun t => by omega)) (by omega) hu with ⟨a', z', zm', u', W', A', V', H', G', r1, r2, r3, r4, r5, r6⟩ | ⟨F, T, H', G', r1, r2, r3, r4, r5, r6, r7⟩
  · rw [r1, Option.bind_some, r2]
    exact X_loop hs hrm h1 h2 hstp hg dg (a0 := a) (z0 := z) (e0 := e) (u0 := u) (W0 := W) (A0 := A) (V0 := V) (H0 := H) (G0 := G) top he NF 0 a' z' zm' u' W' A' V' H' G' (by have := NF_gt (n := 500) (by omega); omega) (by have := r6.2.2.1; omega) (by have := r6.2.1; omega) r3 (fun j hj => ⟨(r4 j hj).1, by have := (r4 j hj).2; omega⟩) r5 r6
  · rw [r1, Option.bind_some, r2, D_loop r4 (NF_gt (n := 0) (by omega))]
    exact Or.inr ⟨F, T, H', G', rfl, rfl, r3, r4, r5, r6, r7⟩
theorem D_lvl {sp : Nat} {s1 s2 : Int32} {g : Nat → Int32 → sh_H → Option sh_H} (dg : Dg sp g) : Dg sp (fun l1 l2 h => Option.bind (g l1 l2 h) (fun h7 => xl8 s1 s2 g NF l1 l2 0 h7)) := by
  intro F T x H d
  obtain ⟨H1, e1, d1, x1⟩ := dg F T x H d
  refine ⟨H1, ?_, d1, x1⟩
  show Option.bind (g sp x H) (fun h7 => xl8 s1 s2 g NF sp x 0 h7) = _
  rw [e1, Option.bind_some, D_loop d1 (NF_gt (n := 0) (by omega))]
