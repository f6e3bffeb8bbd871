/-! PAIRS: hold, restore -/
def cpM (H h : sh_H) (a b : Nat) : Prop := (∀ k, k < 2000 → mS H (2000 * b + k) = mS h (2000 * a + k)) ∧ (∀ c i j, ¬ (c = 13 ∧ i = 46 ∧ 2000 * b ≤ j ∧ j < 2000 * b + 2000) → H.1 c i j = h.1 c i j) ∧ (∀ k, k < 3 → H.2.1 14 6 (3 * b + k) = h.2.1 14 6 (3 * a + k)) ∧ (∀ c i j, ¬ (c = 14 ∧ i = 6 ∧ 3 * b ≤ j ∧ j < 3 * b + 3) → H.2.1 c i j = h.2.1 c i j) ∧ H.2.2 = h.2.2
theorem M_copy {h : sh_H} {a b : Nat} (ha : a < 4) (hb : b < 4) (hab : a ≠ b) : ∃ H, f_M_copy NF (nI a) (nI b) h = some H ∧ cpM H h a b := by
  have lp2 : ∀ (k i u : Nat) (H : sh_H), i + k = 3 → k < u → (∀ q, q < 2000 → mS H (2000 * b + q) = mS h (2000 * a + q)) → (∀ c i j, ¬ (c = 13 ∧ i = 46 ∧ 2000 * b ≤ j ∧ j < 2000 * b + 2000) → H.1 c i j = h.1 c i j) → (∀ q, q < i → H.2.1 14 6 (3 * b + q) = h.2.1 14 6 (3 * a + q)) → (∀ c i' j, ¬ (c = 14 ∧ i' = 6 ∧ 3 * b ≤ j ∧ j < 3 * b + i) → H.2.1 c i' j = h.2.1 c i' j) → H.2.2 = h.2.2 → ∃ H', f_M_copy_l41 NF u (nI a) (nI b) (nI i) H = some H' ∧ cpM H' h a b := by
    intro k
    induction k with
    | zero =>
      intro i u H e1 e2 q1 q2 q3 q4 q5
      obtain ⟨u, rfl⟩ : ∃ m, u = m + 1 := ⟨u - 1, by omega⟩
      obtain rfl : i = 3 := by omega
      refine ⟨H, ?_, q1, q2, q3, q4, q5⟩
      show f_M_copy_c41 NF (f_M_copy_l41 NF u) (nI a) (nI b) (nI 3) H = _
      unfold f_M_copy_c41
      rw [if_neg (show ¬ nI 3 < (3 : Int32) by decide)]
    | succ k ih =>
      intro i u H e1 e2 q1 q2 q3 q4 q5
      obtain ⟨u, rfl⟩ : ∃ m, u = m + 1 := ⟨u - 1, by omega⟩
      show ∃ H', f_M_copy_c41 NF (f_M_copy_l41 NF u) (nI a) (nI b) (nI i) H = some H' ∧ cpM H' h a b
      unfold f_M_copy_c41
      have ea : (3 : Int32) * nI a + nI i = nI (3 * a + i) := by rw [show (3 : Int32) = nI 3 from rfl, q_mul, nI_add]
      have eb : (3 : Int32) * nI b + nI i = nI (3 * b + i) := by rw [show (3 : Int32) = nI 3 from rfl, q_mul, nI_add]
      have ia : ai_in (nI (3 * a + i)) 12 := q_in (by omega) (by omega)
      have ib : ai_in (nI (3 * b + i)) 12 := q_in (by omega) (by omega)
      have ca : (nI (3 * a + i)).toNatClampNeg = 3 * a + i := q_cl (by omega)
      have cb : (nI (3 * b + i)).toNatClampNeg = 3 * b + i := q_cl (by omega)
      rw [if_pos (show nI i < (3 : Int32) from nI_lt (b := 3) (by omega) (by omega))]
      simp only [ea, eb, if_pos ia, if_pos ib, ca, cb, sh_let, nI_1]
      refine ih (i + 1) u _ (by omega) (by omega) q1 q2 (fun q hq => ?_) (fun c i' j hn => ?_) q5
      · by_cases e : q = i
        · subst e
          rw [pJ_at]
          exact q4 _ _ _ (by omega)
        · rw [pJ_ne (by omega)]
          exact q3 q (by omega)
      · rw [pJ_ne (by omega)]
        exact q4 _ _ _ (by omega)
  have lp : ∀ (k i u : Nat) (H : sh_H), i + k = 2000 → k < u → (∀ q, q < i → mS H (2000 * b + q) = mS h (2000 * a + q)) → (∀ c i' j, ¬ (c = 13 ∧ i' = 46 ∧ 2000 * b ≤ j ∧ j < 2000 * b + i) → H.1 c i' j = h.1 c i' j) → H.2 = h.2 → ∃ H', f_M_copy_l2 NF (f_M_copy_b39 NF) u (nI a) (nI b) (nI i) H = some H' ∧ cpM H' h a b := by
    intro k
    induction k with
    | zero =>
      intro i u H e1 e2 q1 q2 q3
      obtain ⟨u, rfl⟩ : ∃ m, u = m + 1 := ⟨u - 1, by omega⟩
      obtain rfl : i = 2000 := by omega
      show ∃ H', f_M_copy_c2 NF (f_M_copy_b39 NF) (f_M_copy_l2 NF (f_M_copy_b39 NF) u) (nI a) (nI b) (nI 2000) H = some H' ∧ cpM H' h a b
      unfold f_M_copy_c2 f_M_copy_b39
      rw [if_neg (show ¬ nI 2000 < (2000 : Int32) by decide)]
      exact lp2 3 0 NF H (by omega) (NF_gt (by omega)) q1 q2 (fun q hq => by omega) (fun c i' j _ => by rw [q3]) (by rw [q3])
    | succ k ih =>
      intro i u H e1 e2 q1 q2 q3
      obtain ⟨u, rfl⟩ : ∃ m, u = m + 1 := ⟨u - 1, by omega⟩
      show ∃ H', f_M_copy_c2 NF (f_M_copy_b39 NF) (f_M_copy_l2 NF (f_M_copy_b39 NF) u) (nI a) (nI b) (nI i) H = some H' ∧ cpM H' h a b
      unfold f_M_copy_c2
      have ea : (2000 : Int32) * nI a + nI i = nI (2000 * a + i) := by rw [show (2000 : Int32) = nI 2000 from rfl, q_mul, nI_add]
      have eb : (2000 : Int32) * nI b + nI i = nI (2000 * b + i) := by rw [show (2000 : Int32) = nI 2000 from rfl, q_mul, nI_add]
      have ia : ai_in (nI (2000 * a + i)) 8000 := in8 (by omega)
      have ib : ai_in (nI (2000 * b + i)) 8000 := in8 (by omega)
      have ca : (nI (2000 * a + i)).toNatClampNeg = 2000 * a + i := q_cl (by omega)
      have cb : (nI (2000 * b + i)).toNatClampNeg = 2000 * b + i := q_cl (by omega)
      rw [if_pos (show nI i < (2000 : Int32) from nI_lt (b := 2000) (by omega) (by omega))]
      simp only [ea, eb, if_pos ia, if_pos ib, ca, cb, sh_let, nI_1]
      refine ih (i + 1) u _ (by omega) (by omega) (fun q hq => ?_) (fun c i' j hn => ?_) q3
      · by_cases e : q = i
        · subst e
          show (sh_pI H 13 46 (2000 * b + q) _).1 13 46 (2000 * b + q) = _
          rw [pI_at]
          exact q2 13 46 _ (by omega)
        · show (sh_pI H 13 46 (2000 * b + i) _).1 13 46 (2000 * b + q) = _
          rw [pI_ne (by omega)]
          exact q1 q (by omega)
      · rw [pI_ne (by omega)]
        exact q2 _ _ _ (by omega)
  unfold f_M_copy
  exact lp 2000 0 NF h (by omega) (NF_gt (by omega)) (fun q hq => by omega) (fun _ _ _ _ => rfl) rfl
theorem St_sz {hc hm : sh_H} {s o b : Nat} (hs : s < 3) (h : rSt hc hm s o b) : ∀ d, d < 4 → ∃ n, n ≤ sh_m (14 + d) ∧ hc.1 6 (14 + 4 * s + d) 3 = nI n := by
  obtain ⟨⟨p1, -⟩, ⟨l1, -⟩, ⟨n, n1, n2, -⟩, ⟨m, m1, m2, -⟩, -⟩ := h
  intro d hd
  rcases (show d = 0 ∨ d = 1 ∨ d = 2 ∨ d = 3 by omega) with rfl | rfl | rfl | rfl
  · exact ⟨30, by decide, p1⟩
  · exact ⟨n, n1, by rw [show 14 + 4 * s + 1 = 15 + 4 * s by omega]; exact n2⟩
  · exact ⟨m, m1, by rw [show 14 + 4 * s + 2 = 16 + 4 * s by omega]; exact m2⟩
  · exact ⟨4, by decide, by rw [show 14 + 4 * s + 3 = 17 + 4 * s by omega]; exact l1⟩
/-- a state copied on both sides -/
theorem rSt_cp {hc hm H G : sh_H} {s s' o o' b b' : Nat} (x : cpS H hc s' s) (e : ∀ k, k < 2000 → mS G (o' + k) = mS hm (o + k)) (e2 : ∀ k, k < 3 → G.2.1 14 6 (b' + k) = hm.2.1 14 6 (b + k)) (h : rSt hc hm s o b) : rSt H G s' o' b' := rSt_to x.1 x.2.1 x.2.2.1 x.2.2.2.1 (fun k hk => e k (by omega)) e2 h
theorem rSt_off {hc hm H G : sh_H} {s o b : Nat} (e1 : ∀ c i j, (c = 6 ∧ 14 + 4 * s ≤ i ∧ i < 18 + 4 * s) ∨ (c = 13 ∧ 20 + 4 * s ≤ i ∧ i < 24 + 4 * s) ∨ (c = 7 ∧ i = s) → H.1 c i j = hc.1 c i j) (e3 : ∀ j, H.2.1 7 s j = hc.2.1 7 s j) (e : ∀ k, k < 2000 → mS G (o + k) = mS hm (o + k)) (e2 : ∀ k, k < 3 → G.2.1 14 6 (b + k) = hm.2.1 14 6 (b + k)) (h : rSt hc hm s o b) : rSt H G s o b := rSt_to (fun d hd => e1 _ _ _ (by omega)) (fun d hd j _ => e1 _ _ _ (by omega)) (e1 _ _ _ (by omega)) (fun j _ _ => e3 j) (fun k hk => e k (by omega)) e2 h
theorem P_hold (a1 : Int32) : Pair (f_CB_hold NF a1) (f_M_hold NF a1) := by
  intro c hc hm _ h
  unfold f_CB_hold f_M_hold
  rw [CB_within, q_nar0, q_nar1, Option.bind_some]
  by_cases c1 : q_within a1 0 1 = 0
  · rw [if_pos c1]
    rcases q_within_0.mp c1 with q | q
    · rw [if_pos q]; exact same h
    · rw [if_pos q]
      by_cases q2 : a1 < 0
      · rw [if_pos q2]; exact same h
      · rw [if_neg q2]; exact same h
  rw [if_neg c1, if_neg (fun q => c1 (q_within_0.mpr (Or.inl q))), if_neg (fun q => c1 (q_within_0.mpr (Or.inr q)))]
  obtain ⟨x, -, hx, rfl⟩ := q_within_in (a := 0) (b := 1) (by omega) (by omega) c1
  have R := rSt_0 h
  obtain ⟨H, H1, H2⟩ := State_copy (s := x + 1) (s' := 0) h.1 (by omega) (by omega) (by omega) (St_sz (by omega) R)
  obtain ⟨G, G1, G2⟩ := M_copy (h := hm) (a := 0) (b := 2 + x) (by omega) (by omega) (by omega)
  have e1 : (if nI x = 0 then f_CB_hold_b26 NF 1 hc else f_CB_hold_b26 NF 2 hc) = some (1, sh_pI H 7 (x + 1) 8 1) := by
    have : (if nI x = 0 then f_CB_hold_b26 NF 1 hc else f_CB_hold_b26 NF 2 hc) = f_CB_hold_b26 NF (x + 1) hc := by
      rcases (show x = 0 ∨ x = 1 by omega) with rfl | rfl <;> rfl
    rw [this]
    unfold f_CB_hold_b26
    rw [H1, Option.bind_some, q_nar1]
    rfl
  have e2 : (2 : Int32) + nI x = nI (2 + x) := nI_add 2 x
  have e3 : f_M_copy NF 0 (nI (2 + x)) hm = some G := G1
  have e4 : ai_in (nI (2 + x)) 4 := q_in (by omega) (by omega)
  have e5 : (nI (2 + x)).toNatClampNeg = 2 + x := q_cl (by omega)
  rw [e1]
  simp only [e2, e3, Option.bind_some, if_pos e4, e5, sh_let, show (1 : Int32) &&& 1 = 1 from rfl]
  obtain ⟨y1, y2, y3, y4, y5, y6, y7⟩ := H2
  obtain ⟨z1, z2, z3, z4, z5⟩ := G2
  have k0 : ∀ k, k < 4000 → mS (sh_pI G 16 0 (2 + x) 1) k = mS hm k := fun k hk => by
    show (sh_pI G 16 0 (2 + x) 1).1 13 46 k = _
    rw [pI_ne (by omega)]
    exact z2 13 46 k (by omega)
  have kg : ∀ k, mS (sh_pI G 16 0 (2 + x) 1) k = mS G k := fun k => pI_ne (by omega)
  obtain ⟨g1, g2, ⟨n, t1, t2, t3, t4⟩, g4, g5, g6, g7, g8, g9, g10⟩ := h
  have ht : hc.2.2.1 < 2 := by rcases g2 with h | h <;> omega
  have hl : ∀ s o b w, (s = 1 ∧ o = 4000 ∧ b = 6 ∧ w = 2) ∨ (s = 2 ∧ o = 6000 ∧ b = 9 ∧ w = 3) → rHeld c hc hm s o b w → rHeld c (sh_pI H 7 (x + 1) 8 1) (sh_pI G 16 0 (2 + x) 1) s o b w := by
    intro s o b w q hh
    by_cases e : s = x + 1
    · have ew : w = 2 + x := by omega
      have eo : o = 2000 * (2 + x) := by omega
      have eb : b = 3 * (2 + x) := by omega
      refine ⟨by rw [e, ew, pI_at, pI_at], fun _ => ⟨?_, fun k hk => ?_, ?_⟩⟩
      · refine rSt_to (hc := hc) (hm := hm) (s := 0) (o := 0) (b := 0) (fun d hd => ?_) (fun d hd j hj => ?_) ?_ (fun j h5 h8 => ?_) (fun k hk => ?_) (fun k hk => ?_) R
        · rw [pI_ne (by omega), e]; exact y1 d hd
        · rw [pI_ne (by omega), e]; exact y2 d hd j hj
        · rw [pI_ne (by omega), e]; exact y3
        · rw [e]; exact y4 j h5 h8
        · rw [kg, eo]
          exact z1 k (by omega)
        · rw [eb]
          exact z3 k hk
      · rw [kg, k0 _ (by omega), eo]
        exact z1 k (by omega)
      · rw [sf_to (h := hm) (o := 0) (fun k hk => by rw [kg, eo]; exact z1 k (by omega))]
        exact g8
    · refine ⟨by rw [pI_ne (by omega), pI_ne (by omega), y5 _ _ _ (by omega) (by omega) (by omega), z2 _ _ _ (by omega)]; exact hh.1, fun q2 => ?_⟩
      rw [pI_ne (by omega), z2 _ _ _ (by omega)] at q2
      obtain ⟨r1, r2, r3⟩ := hh.2 q2
      have ko : ∀ k, k < 2000 → mS (sh_pI G 16 0 (2 + x) 1) (o + k) = mS hm (o + k) := fun k hk => (kg _).trans (z2 13 46 _ (by omega))
      refine ⟨rSt_off (fun c i j q3 => ?_) (fun j => y6 _ _ _ (by omega)) ko (fun k hk => z4 _ _ _ (by omega)) r1, fun k hk => ?_, ?_⟩
      · rw [pI_ne (by omega)]; exact y5 _ _ _ (by omega) (by omega) (by omega)
      · rw [ko k (by omega), k0 _ (by omega)]; exact r2 k hk
      · rw [sf_to (h := hm) (o := o) (fun k hk => ko k (by omega))]
        exact r3
  refine fin 1 rfl rfl ⟨?_, ?_, ⟨n, t1, ?_, ?_, fun i hi => ?_⟩, ?_, ?_, ?_, ?_, ?_, hl 1 4000 6 2 (by omega) g9, hl 2 6000 9 3 (by omega) g10⟩ ?_ ?_ ?_
  · exact RC_of g1 (fun r j hr hj => by rw [pI_ne (by omega)]; exact y5 _ _ _ (by omega) (by omega) (by omega))
  · exact rTx_to (congrArg (·.1) (show (sh_pI H 7 (x + 1) 8 1).2.2 = hc.2.2 from y7)) (congrArg (·.2.1) (show (sh_pI H 7 (x + 1) 8 1).2.2 = hc.2.2 from y7)) (fun i j => (pI_ne (by omega)).trans (y5 _ _ _ (by omega) (by omega) (by omega))) g2
  · rw [pI_ne (by omega), y5 _ _ _ (by omega) (by omega) (by omega)]; exact t2
  · rw [pI_ne (by omega), z2 _ _ _ (by omega)]; exact t3
  · obtain ⟨v, v1, v2, v3⟩ := t4 i hi
    exact ⟨v, v1, by rw [pI_ne (by omega), z2 _ _ _ (by omega)]; exact v2, by rw [pI_ne (by omega), y5 _ _ _ (by omega) (by omega) (by omega)]; exact v3⟩
  · rw [pI_ne (by omega), pI_ne (by omega), y5 _ _ _ (by omega) (by omega) (by omega), z2 _ _ _ (by omega)]; exact g4
  · show rText _ _ H.2.2.1 0
    rw [y7]
    exact rText_to ht (fun c i j q _ => by unfold lT at q; rw [pI_ne (by omega)]; exact y5 _ _ _ (by omega) (by omega) (by omega)) (fun k hk => k0 _ (by omega)) g5
  · refine rSt_off (fun c i j q3 => ?_) (fun j => y6 _ _ _ (by omega)) (fun k hk => k0 _ (by omega)) (fun k hk => z4 _ _ _ (by omega)) R
    rw [pI_ne (by omega)]; exact y5 _ _ _ (by omega) (by omega) (by omega)
  · rw [tf_to (h := hm) (o := 0) (fun k hk => k0 _ (by omega))]; exact g7
  · rw [sf_to (h := hm) (o := 0) (fun k hk => k0 _ (by omega))]; exact g8
  · refine ⟨fun c i q j => ?_, fun c i q j => ?_, ?_⟩
    · have := lcC_no.mp q
      rw [pI_ne (by omega)]
      exact y5 _ _ _ (by omega) (by omega) (by omega)
    · have := lcC_no.mp q
      exact y6 _ _ _ (by omega)
    · show H.2.2.2.2 = _
      rw [y7]
  · refine ⟨fun c i q j => ?_, fun c i q j => ?_, ?_, ?_⟩
    · have := lcC_of.mp q
      rw [pI_ne (by omega)]
      exact z2 _ _ _ (by omega)
    · have := lcC_of.mp q
      exact z4 _ _ _ (by omega)
    · show G.2.2.1 = _
      rw [z5]
    · show G.2.2.2.1 = _
      rw [z5]
  · refine ⟨fun j => ?_, ?_⟩
    · rw [pI_ne (by omega)]
      exact z2 _ _ _ (by omega)
    · show G.2.2.2.2 = _
      rw [z5]
theorem P_restore (a1 : Int32) : Pair (f_CB_restore NF a1) (f_M_restore NF a1) := by
  intro c hc hm _ h
  unfold f_CB_restore f_M_restore f_CB_restore_b15
  rw [CB_within, q_nar0, q_nar1, Option.bind_some, Option.bind_some]
  by_cases c1 : q_within a1 0 1 = 0
  · rw [if_pos c1, if_pos c1, ite_self]
    rcases q_within_0.mp c1 with q | q
    · rw [if_pos q]; exact same h
    · rw [if_pos q]
      by_cases q2 : a1 < 0
      · rw [if_pos q2]; exact same h
      · rw [if_neg q2]; exact same h
  rw [if_neg c1, if_neg c1, if_neg (fun q => c1 (q_within_0.mpr (Or.inl q))), if_neg (fun q => c1 (q_within_0.mpr (Or.inr q)))]
  obtain ⟨x, -, hx, rfl⟩ := q_within_in (a := 0) (b := 1) (by omega) (by omega) c1
  have e1 : ∀ (A : Nat → Option (Int32 × sh_H)), (if nI x = 0 then A 1 else A 2) = A (x + 1) := by
    intro A
    rcases (show x = 0 ∨ x = 1 by omega) with rfl | rfl <;> rfl
  have e2 : (2 : Int32) + nI x = nI (2 + x) := nI_add 2 x
  have e4 : ai_in (nI (2 + x)) 4 := q_in (by omega) (by omega)
  have e5 : (nI (2 + x)).toNatClampNeg = 2 + x := q_cl (by omega)
  rw [e1 (fun s => if hc.1 7 s 8 = 0 then some (0, hc) else Option.bind (f_State_copy NF 0 s hc) (fun h2 => some (1, h2)))]
  simp only [e2, if_pos e4, e5]
  have hh : rHeld c hc hm (x + 1) (2000 * (2 + x)) (3 * (2 + x)) (2 + x) := by
    rcases (show x = 0 ∨ x = 1 by omega) with rfl | rfl
    · exact h.2.2.2.2.2.2.2.2.1
    · exact h.2.2.2.2.2.2.2.2.2
  rw [hh.1]
  refine pick2 (fun _ => same h) (fun c2 => ?_)
  obtain ⟨R, R2, R3⟩ := hh.2 c2
  obtain ⟨H, H1, H2⟩ := State_copy (s := 0) (s' := x + 1) h.1 (by omega) (by omega) (by omega) (St_sz (by omega) R)
  obtain ⟨G, G1, G2⟩ := M_copy (h := hm) (a := 2 + x) (b := 0) (by omega) (by omega) (by omega)
  have e3 : f_M_copy NF (nI (2 + x)) 0 hm = some G := G1
  rw [H1, e3]
  simp only [Option.bind_some]
  obtain ⟨y1, y2, y3, y4, y5, y6, y7⟩ := H2
  obtain ⟨z1, z2, z3, z4, z5⟩ := G2
  have k0 : ∀ k, k < 2000 → mS G (0 + k) = mS hm (2000 * (2 + x) + k) := fun k hk => z1 k hk
  have kk : ∀ k, kT k → mS G (0 + k) = mS hm (0 + k) := fun k hk => (k0 k (by omega)).trans (R2 k hk)
  have ko : ∀ k, 2000 ≤ k → mS G k = mS hm k := fun k hk => z2 13 46 _ (by omega)
  obtain ⟨g1, g2, ⟨n, t1, t2, t3, t4⟩, g4, g5, g6, g7, g8, g9, g10⟩ := h
  have ht : hc.2.2.1 < 2 := by rcases g2 with h | h <;> omega
  have hl : ∀ s o b w, s = 1 ∨ s = 2 → 4000 ≤ o → 3 ≤ b → rHeld c hc hm s o b w → rHeld c H G s o b w := by
    intro s o b w hs ho hb hh
    refine ⟨by rw [y5 _ _ _ (by omega) (by omega) (by omega), z2 _ _ _ (by omega)]; exact hh.1, fun q2 => ?_⟩
    rw [z2 _ _ _ (by omega)] at q2
    obtain ⟨r1, r2, r3⟩ := hh.2 q2
    refine ⟨rSt_off (fun c i j q3 => y5 _ _ _ (by omega) (by omega) (by omega)) (fun j => y6 _ _ _ (by omega)) (fun k hk => ko _ (by omega)) (fun k hk => z4 _ _ _ (by omega)) r1, fun k hk => ?_, ?_⟩
    · rw [ko _ (by omega), kk k hk]; exact r2 k hk
    · rw [sf_to (h := hm) (o := o) (fun k hk => ko _ (by omega))]
      exact r3
  refine fin 1 rfl rfl ⟨?_, ?_, ⟨n, t1, ?_, ?_, fun i hi => ?_⟩, ?_, ?_, ?_, ?_, ?_, hl 1 4000 6 2 (by omega) (by omega) (by omega) g9, hl 2 6000 9 3 (by omega) (by omega) (by omega) g10⟩ ?_ ?_ ?_
  · exact RC_of g1 (fun r j hr hj => y5 _ _ _ (by omega) (by omega) (by omega))
  · exact rTx_to (congrArg (·.1) y7) (congrArg (·.2.1) y7) (fun i j => y5 _ _ _ (by omega) (by omega) (by omega)) g2
  · rw [y5 _ _ _ (by omega) (by omega) (by omega)]; exact t2
  · rw [z2 _ _ _ (by omega)]; exact t3
  · obtain ⟨v, v1, v2, v3⟩ := t4 i hi
    exact ⟨v, v1, by rw [z2 _ _ _ (by omega)]; exact v2, by rw [y5 _ _ _ (by omega) (by omega) (by omega)]; exact v3⟩
  · rw [y5 _ _ _ (by omega) (by omega) (by omega), z2 _ _ _ (by omega)]; exact g4
  · rw [y7]
    exact rText_to ht (fun c i j q _ => by unfold lT at q; exact y5 _ _ _ (by omega) (by omega) (by omega)) kk g5
  · exact rSt_to y1 y2 y3 y4 (fun k hk => k0 k (by omega)) (fun k hk => z3 k hk) R
  · rw [tf_to (h := hm) (o := 0) kk]; exact g7
  · rw [sf_to (h := hm) (o := 2000 * (2 + x)) (fun k hk => k0 k (by omega))]; exact R3
  · refine ⟨fun c i q j => ?_, fun c i q j => ?_, ?_⟩
    · have := lcC_no.mp q
      exact y5 _ _ _ (by omega) (by omega) (by omega)
    · have := lcC_no.mp q
      exact y6 _ _ _ (by omega)
    · rw [y7]
  · refine ⟨fun c i q j => ?_, fun c i q j => ?_, ?_, ?_⟩
    · have := lcC_of.mp q
      exact z2 _ _ _ (by omega)
    · have := lcC_of.mp q
      exact z4 _ _ _ (by omega)
    · rw [z5]
    · rw [z5]
  · refine ⟨fun j => z2 _ _ _ (by omega), ?_⟩
    rw [z5]
