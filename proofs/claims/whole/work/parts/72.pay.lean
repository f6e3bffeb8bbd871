/-! PAIRS: pay, change -/
/-- the model's tills of a side, and the fewest laid -/
def TM (H : sh_H) (side nk : Nat) (b : Nat → Nat) : Prop := ∀ k, k < nk → H.1 13 54 (6 * side + k) = nI (b k) ∧ b k < 2 ^ 29
theorem kR.TM {lo hi side nk : Nat} {b : Nat → Nat} {E H : sh_H} (x : kR lo hi E H) (t : TM H side nk b) : TM E side nk b := fun k hk => ⟨(x.1 13 54 _ (by omega)).trans (t k hk).1, (t k hk).2⟩
theorem gf_out {w b : Nat → Nat} {I nk lo : Nat} (h : nk ≤ lo) : gf w b I nk lo = fz0 I := by
  unfold gf
  rw [show nk - lo = 0 by omega]
  rfl
theorem gf_I {w b : Nat → Nat} {I nk lo : Nat} (hw : ∀ k, k < nk → 1 ≤ w k) (v : Nat) : gf w b I nk lo v ≤ I := mdF_I (fun k h2 h3 => hw k (by omega)) v
theorem M_layKind {c : Nat} {hc hm : sh_H} (h : St c hc hm) {side k most nk : Nat} (k2 : mS hm 0 = nI nk) (k1 : nk ≤ 6) (hs : side < 2) (hk : k < 6) (hm4 : most ≤ 4000) {b : Nat → Nat} (H : sh_H) (x : sM H hm) (tl : TM H side nk b) (m : MR H (28007 * side + 4001 * k + 4001) most (gf (wth (mS hm)) b 1000000 nk (k + 1))) : ∃ E, f_M_layKind NF (nI side) (nI k) (nI most) H = some E ∧ kR (28007 * side + 4001 * k) (28007 * side + 4001 * k + 4001) E H ∧ MR E (28007 * side + 4001 * k) most (gf (wth (mS hm)) b 1000000 nk k) := by
  have j0 : ai_in (0 : Int32) 8000 := in8 (k := 0) (by omega)
  have hw : ∀ k, k < nk → 1 ≤ wth (mS hm) k ∧ wth (mS hm) k ≤ 500 := fun k hk => (T_kind h k2 k1 hk).1.2
  have hF := fun v => gf_I (b := b) (I := 1000000) (lo := k + 1) (fun k hk => (hw k hk).1) v
  have eo : (28007 : Int32) * nI side + 4001 * nI k = nI (28007 * side + 4001 * k) := by rw [show (28007 : Int32) = nI 28007 from rfl, show (4001 : Int32) = nI 4001 from rfl, q_mul, q_mul, nI_add]
  have eo5 : nI (28007 * side + 4001 * k) + (4001 : Int32) = nI (28007 * side + 4001 * k + 4001) := by rw [show (4001 : Int32) = nI 4001 from rfl, nI_add]
  have ei : (6 : Int32) * nI side + nI k = nI (6 * side + k) := by rw [show (6 : Int32) = nI 6 from rfl, q_mul, nI_add]
  unfold f_M_layKind f_M_layKind_b46
  rw [if_pos j0, show H.1 13 46 (0 : Int32).toNatClampNeg = nI nk from (x.mS 0).trans k2, eo, eo5, ei]
  by_cases c : k < nk
  · obtain ⟨w1, w2⟩ := hw k c
    obtain ⟨t1, t2⟩ := tl k c
    have ct : H.1 13 54 (nI (6 * side + k)).toNatClampNeg = nI (b k) := by rw [q_cl (by omega)]; exact t1
    rw [if_pos (nI_lt c (by omega)), if_pos (q_in (by omega) (by omega)), ct, gf_s c]
    by_cases z : b k = 0
    · rw [z, if_pos (show nI 0 = 0 from rfl), ad_b0 w1]
      exact M_lays0 (by omega) hm4 m
    · rw [if_neg (show ¬ nI (b k) = 0 from nI_ne (b := 0) z (by omega) (by omega)), M_worth h x k2 k1 c, Option.bind_some]
      exact M_lays (by omega) hm4 w1 w2 (by omega) hF m
  · rw [if_neg (nI_nlt (by omega) (by omega)), if_pos (rfl : (0 : Int32) = 0), gf_out (by omega)]
    rw [gf_out (by omega)] at m
    exact M_lays0 (by omega) hm4 m
theorem M_layFewest {c : Nat} {hc hm : sh_H} (h : St c hc hm) {side most nk : Nat} (k2 : mS hm 0 = nI nk) (k1 : nk ≤ 6) (hs : side < 2) (hm4 : most ≤ 4000) {b : Nat → Nat} (H : sh_H) (x : sM H hm) (tl : TM H side nk b) : ∃ E, f_M_layFewest NF (nI side) (nI most) H = some E ∧ kR (28007 * side) (28007 * side + 28007) E H ∧ ∀ lo, lo ≤ 6 → MR E (28007 * side + 4001 * lo) most (gf (wth (mS hm)) b 1000000 nk lo) := by
  have lp1 : ∀ (n v u : Nat) (G : sh_H), v + n = most + 1 → n < u → kR (28007 * side) (28007 * side + 28007) G H → (∀ j, j < v → G.1 13 55 (28007 * side + 24006 + j) = nI (fz0 1000000 j)) → ∃ E, f_M_layFewest_l13 NF (f_M_layFewest_b46 NF) u (nI side) (nI most) (nI (28007 * side + 24006)) (nI v) G = f_M_layFewest_b46 NF (nI side) (nI most) E ∧ kR (28007 * side) (28007 * side + 28007) E H ∧ MR E (28007 * side + 24006) most (fz0 1000000) := by
    intro n
    induction n with
    | zero =>
      intro v u G e1 e2 y dn
      obtain ⟨u, rfl⟩ : ∃ m, u = m + 1 := ⟨u - 1, by omega⟩
      refine ⟨G, ?_, y, fun j hj => dn j (by omega)⟩
      show f_M_layFewest_c13 NF (f_M_layFewest_b46 NF) (f_M_layFewest_l13 NF (f_M_layFewest_b46 NF) u) (nI side) (nI most) (nI (28007 * side + 24006)) (nI v) G = _
      unfold f_M_layFewest_c13
      rw [if_pos (nI_lt (by omega) (by omega))]
    | succ n ih =>
      intro v u G e1 e2 y dn
      obtain ⟨u, rfl⟩ : ∃ m, u = m + 1 := ⟨u - 1, by omega⟩
      show ∃ E, f_M_layFewest_c13 NF (f_M_layFewest_b46 NF) (f_M_layFewest_l13 NF (f_M_layFewest_b46 NF) u) (nI side) (nI most) (nI (28007 * side + 24006)) (nI v) G = _ ∧ _
      unfold f_M_layFewest_c13 f_M_layFewest_b39
      have go : ∀ s2, s2 = nI (fz0 1000000 v) → ∃ E, (if ai_in (nI (28007 * side + 24006 + v)) (sh_l13 55) then sh_let (sh_pI G 13 55 (nI (28007 * side + 24006 + v)).toNatClampNeg s2) (fun h1 => f_M_layFewest_l13 NF (f_M_layFewest_b46 NF) u (nI side) (nI most) (nI (28007 * side + 24006)) (nI v + 1) h1) else none) = f_M_layFewest_b46 NF (nI side) (nI most) E ∧ kR (28007 * side) (28007 * side + 28007) E H ∧ MR E (28007 * side + 24006) most (fz0 1000000) := by
        intro s2 e
        rw [l55, if_pos (q_in5 (by omega)), sh_let, q_cl (by omega), nI_1]
        refine ih (v + 1) u _ (by omega) (by omega) (kR.p (by omega) (by omega) y) (fun j hj => ?_)
        by_cases z : j = v
        · rw [z, pI_at, e]
        · rw [pI_ne (by omega)]; exact dn j (by omega)
      rw [if_neg (nI_nlt (by omega) (by omega)), nI_add]
      by_cases z : v = 0
      · rw [if_pos (show nI v = 0 by rw [z]; rfl)]
        exact go 0 (by unfold fz0; rw [if_pos z]; rfl)
      · rw [if_neg (show ¬ nI v = 0 from nI_ne (b := 0) z (by omega) (by omega))]
        exact go 1000000 (by unfold fz0; rw [if_neg z]; rfl)
  have lp2 : ∀ (n u : Nat) (G : sh_H), n ≤ 6 → n < u → kR (28007 * side) (28007 * side + 28007) G H → (∀ lo, n ≤ lo → lo ≤ 6 → MR G (28007 * side + 4001 * lo) most (gf (wth (mS hm)) b 1000000 nk lo)) → ∃ E, f_M_layFewest_l49 NF u (nI side) (nI most) (nI n + (-1)) G = some E ∧ kR (28007 * side) (28007 * side + 28007) E H ∧ ∀ lo, lo ≤ 6 → MR E (28007 * side + 4001 * lo) most (gf (wth (mS hm)) b 1000000 nk lo) := by
    intro n
    induction n with
    | zero =>
      intro u G e1 e2 y dn
      obtain ⟨u, rfl⟩ : ∃ m, u = m + 1 := ⟨u - 1, by omega⟩
      refine ⟨G, ?_, y, fun lo hl => dn lo (Nat.zero_le _) hl⟩
      show f_M_layFewest_c49 NF (f_M_layFewest_l49 NF u) (nI side) (nI most) (nI 0 + (-1)) G = _
      unfold f_M_layFewest_c49
      rw [if_pos (show nI 0 + (-1) < 0 by decide)]
    | succ n ih =>
      intro u G e1 e2 y dn
      obtain ⟨u, rfl⟩ : ∃ m, u = m + 1 := ⟨u - 1, by omega⟩
      show ∃ E, f_M_layFewest_c49 NF (f_M_layFewest_l49 NF u) (nI side) (nI most) (nI (n + 1) + (-1)) G = _ ∧ _
      unfold f_M_layFewest_c49
      have dn1 := dn (n + 1) (Nat.le_refl _) e1
      rw [show 28007 * side + 4001 * (n + 1) = 28007 * side + 4001 * n + 4001 by omega] at dn1
      obtain ⟨E, E1, E2, E3⟩ := M_layKind h k2 k1 hs (k := n) (by omega) hm4 G (y.s.tr x) (y.TM tl) dn1
      rw [pk_m1, if_neg (nI_pos (by omega)), E1, Option.bind_some]
      refine ih u E (by omega) (by omega) ((E2.in (by omega) (by omega)).tr y) (fun lo l1 l2 => ?_)
      by_cases z : lo = n
      · rw [z]; exact E3
      · exact E2.MR (by omega) (dn lo (by omega) l2)
  have eo : (28007 : Int32) * nI side + 24006 = nI (28007 * side + 24006) := by rw [show (28007 : Int32) = nI 28007 from rfl, show (24006 : Int32) = nI 24006 from rfl, q_mul, nI_add]
  unfold f_M_layFewest
  rw [eo]
  obtain ⟨G, G1, G2, G3⟩ := lp1 (most + 1) 0 NF H (by omega) (NF_gt (by omega)) (kR.rf _ _ _) (fun j hj => absurd hj (Nat.not_lt_zero _))
  rw [show f_M_layFewest_l13 NF (f_M_layFewest_b46 NF) NF (nI side) (nI most) (nI (28007 * side + 24006)) 0 H = _ from G1]
  unfold f_M_layFewest_b46
  exact lp2 6 NF G (by omega) (NF_gt (by omega)) G2 (fun lo l1 l2 => by
    obtain rfl : lo = 6 := by omega
    rw [gf_out k1]
    exact G3)
theorem M_fewestOf {side v S : Nat} {F : Nat → Nat} {H : sh_H} (hs : side < 2) (hS : S ≤ 4000) (hv : v ≤ S) (hF : ∀ v, F v ≤ 1000000) (m : MR H (28007 * side) S F) : f_M_fewestOf (nI side) (nI v) H = some (nI (F v)) := by
  have eo : (28007 : Int32) * nI side + nI v = nI (28007 * side + v) := by rw [show (28007 : Int32) = nI 28007 from rfl, q_mul, nI_add]
  have c : H.1 13 55 (nI (28007 * side + v)).toNatClampNeg = nI (F v) := by rw [q_cl (by omega)]; exact m v hv
  have f := hF v
  unfold f_M_fewestOf
  rw [eo, if_pos (q_in5 (by omega)), c]
  by_cases l : F v < 1000000
  · rw [if_pos (show nI (F v) < 1000000 from nI_lt (b := 1000000) l (by omega))]
  · rw [if_neg (show ¬ nI (F v) < 1000000 from nI_nlt (b := 1000000) (by omega) (by omega)), show F v = 1000000 by omega]
    rfl
theorem tkr_0 {g : Nat → Nat} {fw : Nat} (h : g 0 = fw) : g (tkr g fw 0) = fw := h
theorem M_paidOf {c : Nat} {hc hm : sh_H} (h : St c hc hm) {side sum kind nk S : Nat} (k2 : mS hm 0 = nI nk) (k1 : nk ≤ 6) (hs : side < 2) (hS : S ≤ 4000) (hsum : sum ≤ S) (hk : kind < nk) {b : Nat → Nat} (H : sh_H) (x : sM H hm) (tl : TM H side nk b) (m : ∀ lo, lo ≤ 6 → MR H (28007 * side + 4001 * lo) S (gf (wth (mS hm)) b 1000000 nk lo)) : f_M_paidOf NF (nI side) (nI sum) (nI kind) H = some (nI (pof (wth (mS hm)) b 1000000 nk (kind + 1) 0 sum 0)) := by
  have j0 : ai_in (0 : Int32) 8000 := in8 (k := 0) (by omega)
  have hw : ∀ k, k < nk → 1 ≤ wth (mS hm) k ∧ wth (mS hm) k ≤ 500 := fun k hk => (T_kind h k2 k1 hk).1.2
  have lp : ∀ (q i u left tk : Nat), i + q = kind + 1 → q < u → left ≤ S → q ≠ 0 → f_M_paidOf_l6 NF u (nI side) (nI kind) (nI left) (nI i) H = some (nI (pof (wth (mS hm)) b 1000000 nk q i left tk)) := by
    intro q
    induction q with
    | zero => intro i u left tk _ _ _ e; exact absurd rfl e
    | succ q ih =>
      intro i u left tk e1 e2 e3 _
      obtain ⟨u, rfl⟩ : ∃ m, u = m + 1 := ⟨u - 1, by omega⟩
      obtain ⟨w1, w2⟩ := hw i (by omega)
      obtain ⟨t1, t2⟩ := tl i (by omega)
      have ei : (6 : Int32) * nI side + nI i = nI (6 * side + i) := by rw [show (6 : Int32) = nI 6 from rfl, q_mul, nI_add]
      have ct : H.1 13 54 (nI (6 * side + i)).toNatClampNeg = nI (b i) := by rw [q_cl (by omega)]; exact t1
      have dv : left / wth (mS hm) i ≤ left := Nat.div_le_self _ _
      show f_M_paidOf_c6 NF (f_M_paidOf_l6 NF u) (nI side) (nI kind) (nI left) (nI i) H = some (nI (pof (wth (mS hm)) b 1000000 nk q (i + 1) _ _))
      obtain ⟨p1, p2⟩ := tkr_ok (w := wth (mS hm)) (b := b) (I := 1000000) (nk := nk) (i := i) (left := left) (by omega) w1
      have gi := gf_I (b := b) (I := 1000000) (lo := i) (fun k hk => (hw k hk).1) left
      have low : ∀ (n u' : Nat), n ≤ left / wth (mS hm) i → n < u' → (∃ r, r ≤ n ∧ gf (wth (mS hm)) b 1000000 nk (i + 1) (left - r * wth (mS hm) i) + r = gf (wth (mS hm)) b 1000000 nk i left) → f_M_paidOf_l77 NF (f_M_paidOf_b137 NF (f_M_paidOf_l6 NF u)) u' (nI side) (nI kind) (nI left) (nI i) (nI n) (nI (wth (mS hm) i)) H = f_M_paidOf_b137 NF (f_M_paidOf_l6 NF u) (nI side) (nI kind) (nI left) (nI i) (nI (tkr (fun n => gf (wth (mS hm)) b 1000000 nk (i + 1) (left - n * wth (mS hm) i) + n) (gf (wth (mS hm)) b 1000000 nk i left) n)) (nI (wth (mS hm) i)) H := by
        have eq1 : (28007 : Int32) * nI side + 4001 * (nI i + 1) + nI left = nI (28007 * side + 4001 * (i + 1) + left) := by rw [show (28007 : Int32) = nI 28007 from rfl, show (4001 : Int32) = nI 4001 from rfl, nI_1, q_mul, q_mul, nI_add, nI_add]
        have eq2 : (28007 : Int32) * nI side + 4001 * nI i + nI left = nI (28007 * side + 4001 * i + left) := by rw [show (28007 : Int32) = nI 28007 from rfl, show (4001 : Int32) = nI 4001 from rfl, q_mul, q_mul, nI_add, nI_add]
        have c2 : H.1 13 55 (nI (28007 * side + 4001 * i + left)).toNatClampNeg = nI (gf (wth (mS hm)) b 1000000 nk i left) := by rw [q_cl (by omega)]; exact m i (by omega) left e3
        have stp : ∀ n, n ≤ left / wth (mS hm) i → (28007 : Int32) * nI side + 4001 * (nI i + 1) + nI left - nI n * nI (wth (mS hm) i) = nI (28007 * side + 4001 * (i + 1) + (left - n * wth (mS hm) i)) ∧ H.1 13 55 (nI (28007 * side + 4001 * (i + 1) + (left - n * wth (mS hm) i))).toNatClampNeg = nI (gf (wth (mS hm)) b 1000000 nk (i + 1) (left - n * wth (mS hm) i)) := by
          intro n hn
          have nw : n * wth (mS hm) i ≤ left := (Nat.le_div_iff_mul_le w1).mp hn
          refine ⟨?_, ?_⟩
          · rw [eq1, q_mul, q_sub (by omega), Nat.add_sub_assoc nw]
          · rw [q_cl (by omega)]; exact m (i + 1) (by omega) _ (by omega)
        intro n
        induction n with
        | zero =>
          intro u' e4 e5 hr
          obtain ⟨u', rfl⟩ : ∃ m, u' = m + 1 := ⟨u' - 1, by omega⟩
          obtain ⟨r, r1, r2⟩ := hr
          obtain rfl : r = 0 := by omega
          obtain ⟨s1, s2⟩ := stp 0 (Nat.zero_le _)
          show f_M_paidOf_c77 NF (f_M_paidOf_b137 NF (f_M_paidOf_l6 NF u)) (f_M_paidOf_l77 NF (f_M_paidOf_b137 NF (f_M_paidOf_l6 NF u)) u') (nI side) (nI kind) (nI left) (nI i) (nI 0) (nI (wth (mS hm) i)) H = _
          unfold f_M_paidOf_c77
          rw [s1, s2, eq2, c2, if_pos (q_in5 (by omega)), if_pos (q_in5 (by omega)), nI_add, if_pos (congrArg nI r2)]
          rfl
        | succ n ihn =>
          intro u' e4 e5 hr
          obtain ⟨u', rfl⟩ : ∃ m, u' = m + 1 := ⟨u' - 1, by omega⟩
          obtain ⟨s1, s2⟩ := stp (n + 1) e4
          have f1 := gf_I (b := b) (I := 1000000) (lo := i + 1) (fun k hk => (hw k hk).1) (left - (n + 1) * wth (mS hm) i)
          show f_M_paidOf_c77 NF (f_M_paidOf_b137 NF (f_M_paidOf_l6 NF u)) (f_M_paidOf_l77 NF (f_M_paidOf_b137 NF (f_M_paidOf_l6 NF u)) u') (nI side) (nI kind) (nI left) (nI i) (nI (n + 1)) (nI (wth (mS hm) i)) H = _
          unfold f_M_paidOf_c77 tkr
          rw [s1, s2, eq2, c2, if_pos (q_in5 (by omega)), if_pos (q_in5 (by omega)), nI_add]
          by_cases z : gf (wth (mS hm)) b 1000000 nk (i + 1) (left - (n + 1) * wth (mS hm) i) + (n + 1) = gf (wth (mS hm)) b 1000000 nk i left
          · rw [if_pos (congrArg nI z), if_pos z]
          · rw [if_neg (nI_ne z (by omega) (by omega)), if_neg z, pk_m1]
            obtain ⟨r, r1, r2⟩ := hr
            refine ihn u' (by omega) (by omega) ⟨r, ?_, r2⟩
            have : r ≠ n + 1 := fun q => z (by rw [← q]; exact r2)
            omega
      have fin : f_M_paidOf_l77 NF (f_M_paidOf_b137 NF (f_M_paidOf_l6 NF u)) NF (nI side) (nI kind) (nI left) (nI i) (nI (min (b i) (left / wth (mS hm) i))) (nI (wth (mS hm) i)) H = some (nI (pof (wth (mS hm)) b 1000000 nk q (i + 1) (left - tkr (fun n => gf (wth (mS hm)) b 1000000 nk (i + 1) (left - n * wth (mS hm) i) + n) (gf (wth (mS hm)) b 1000000 nk i left) (min (b i) (left / wth (mS hm) i)) * wth (mS hm) i) (tkr (fun n => gf (wth (mS hm)) b 1000000 nk (i + 1) (left - n * wth (mS hm) i) + n) (gf (wth (mS hm)) b 1000000 nk i left) (min (b i) (left / wth (mS hm) i))))) := by
        rw [low (min (b i) (left / wth (mS hm) i)) NF (Nat.min_le_right _ _) (NF_gt (by omega)) ⟨_, p1, p2⟩]
        generalize tkr (fun n => gf (wth (mS hm)) b 1000000 nk (i + 1) (left - n * wth (mS hm) i) + n) (gf (wth (mS hm)) b 1000000 nk i left) (min (b i) (left / wth (mS hm) i)) = T at *
        have m1 : T * wth (mS hm) i ≤ left := (Nat.le_div_iff_mul_le w1).mp (by omega)
        unfold f_M_paidOf_b137 f_M_paidOf_b147
        rw [q_mul, q_sub m1, nI_1]
        by_cases z : q = 0
        · subst z
          rw [if_pos (show nI i = nI kind by rw [show i = kind by omega])]
          rfl
        · rw [if_neg (nI_ne (by omega) (by omega) (by omega))]
          exact ih (i + 1) u (left - T * wth (mS hm) i) T (by omega) (by omega) (by omega) z
      unfold f_M_paidOf_c6 f_M_paidOf_b75
      rw [if_pos (show nI i < 6 from nI_lt (b := 6) (by omega) (by omega)), if_pos j0, show H.1 13 46 (0 : Int32).toNatClampNeg = nI nk from (x.mS 0).trans k2, if_pos (nI_lt (by omega) (by omega)), M_worth h x k2 k1 (by omega), Option.bind_some, if_pos (nI_ne0 (by omega) (by omega)), ei, if_pos (q_in (k := 6 * side + i) (n := 12) (by omega) (by omega)), ct, pk_div (by omega) (by omega) (by omega)]
      by_cases z : left / wth (mS hm) i < b i
      · rw [if_pos (nI_lt z (by omega)), if_pos (nI_ne0 (by omega) (by omega))]
        rw [show min (b i) (left / wth (mS hm) i) = left / wth (mS hm) i from Nat.min_eq_right (Nat.le_of_lt z)] at fin ⊢
        exact fin
      · rw [if_neg (nI_nlt (by omega) (by omega)), if_pos (q_in (k := 6 * side + i) (n := 12) (by omega) (by omega))]
        rw [show min (b i) (left / wth (mS hm) i) = b i from Nat.min_eq_left (by omega)] at fin ⊢
        exact fin
  unfold f_M_paidOf
  exact lp (kind + 1) 0 NF sum 0 (by omega) (NF_gt (by omega)) hsum (by omega)
/-- what is paid doesn't depend on the sentinel -/
theorem gf_II {w b : Nat → Nat} {I J S nk lo v : Nat} (hI : S < I) (hJ : S < J) (hw : ∀ k, k < nk → 1 ≤ w k) (hv : v ≤ S) : (gf w b I nk lo v = I ∧ gf w b J nk lo v = J) ∨ (gf w b I nk lo v = gf w b J nk lo v ∧ gf w b I nk lo v ≤ v) := mdF_II hI hJ (fun k _ h2 => hw k (by omega)) v hv
theorem pof_II {w b : Nat → Nat} {I J S nk : Nat} (hI : S < I) (hJ : S < J) (hw : ∀ k, k < nk → 1 ≤ w k) : ∀ (q i left tk : Nat), i + q ≤ nk → left ≤ S → gf w b I nk i left < I → pof w b I nk q i left tk = pof w b J nk q i left tk := by
  intro q
  induction q with
  | zero => intro i left tk _ _ _; rfl
  | succ q ih =>
    intro i left tk e1 e2 e3
    have a := (gf_II (b := b) (lo := i) (v := left) hI hJ hw e2).resolve_left (by omega)
    have t : tkr (fun n => gf w b I nk (i + 1) (left - n * w i) + n) (gf w b I nk i left) (min (b i) (left / w i)) = tkr (fun n => gf w b J nk (i + 1) (left - n * w i) + n) (gf w b J nk i left) (min (b i) (left / w i)) := by
      apply tkr_same
      intro m _
      show gf w b I nk (i + 1) (left - m * w i) + m = _ ↔ gf w b J nk (i + 1) (left - m * w i) + m = _
      rcases gf_II (b := b) (lo := i + 1) (v := left - m * w i) hI hJ hw (by omega) with c | c <;> omega
    obtain ⟨p1, p2⟩ := tkr_ok (w := w) (b := b) (I := I) (nk := nk) (i := i) (left := left) (by omega) (hw i (by omega))
    show pof w b I nk q (i + 1) _ _ = pof w b J nk q (i + 1) _ _
    rw [← t]
    generalize tkr (fun n => gf w b I nk (i + 1) (left - n * w i) + n) (gf w b I nk i left) (min (b i) (left / w i)) = T at *
    exact ih (i + 1) _ T (by omega) (by omega) (by omega)
