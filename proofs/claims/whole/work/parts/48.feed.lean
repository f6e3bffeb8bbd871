/-! PAIR: feed -/
theorem byte_and (x : Int32) : ∃ v, v < 256 ∧ x &&& 255 = nI v ∧ (nI v).toInt8 = x.toInt8 := by
  refine ⟨x.toBitVec.toNat % 2 ^ 8, Nat.mod_lt _ (by omega), pk_and x 8 (by decide), ?_⟩
  apply Int8.toBitVec_inj.mp
  rw [Int32.toBitVec_toInt8, Int32.toBitVec_toInt8]
  apply BitVec.eq_of_toNat_eq
  rw [BitVec.signExtend_eq_setWidth_of_le _ (by omega), BitVec.signExtend_eq_setWidth_of_le _ (by omega), BitVec.toNat_setWidth, BitVec.toNat_setWidth, pk_tn (Nat.lt_of_lt_of_le (Nat.mod_lt _ (by omega)) (by omega)), Nat.mod_mod]
theorem byte_2 (x : Int32) : x.toInt8.toInt32.toInt8.toInt32 = x.toInt8.toInt32 := by rw [Int8.toInt8_toInt32]
theorem St_byte {c : Nat} {hc hm : sh_H} (h : St c hc hm) {n : Nat} (hn : n < 2000) (h1 : hc.1 11 0 1 = nI n) (h2 : hm.1 12 0 0 = nI n) {v : Nat} (hv : v < 256) {z : Int32} (hz : z = (nI v).toInt8.toInt32) : St c (sh_pI (sh_pI hc 15 0 n z) 11 0 1 (nI (n + 1))) (sh_pI (sh_pI hm 13 42 n (nI v)) 12 0 0 (nI (n + 1))) := by
  obtain ⟨g1, g2, ⟨m, t1, t2, t3, t4⟩, g4, g5, g6, g7, g8, g9, g10⟩ := h
  have : m = n := (nI_eq (by omega) (by omega)).mp (t2.symm.trans h1)
  subst this
  refine ⟨g1, g2, ⟨m + 1, by omega, pI_at _ _ _ _ _, pI_at _ _ _ _ _, fun i hi => ?_⟩, g4, g5, g6, g7, g8, g9, g10⟩
  by_cases e : i = m
  · subst e
    exact ⟨v, hv, by rw [pI_ne (by omega), pI_at], by rw [pI_ne (by omega), pI_at]; exact hz⟩
  · obtain ⟨w, w1, w2, w3⟩ := t4 i (by omega)
    exact ⟨w, w1, by rw [pI_ne (by omega), pI_ne (by omega)]; exact w2, by rw [pI_ne (by omega), pI_ne (by omega)]; exact w3⟩
theorem feed_sh : ∀ k, k < 4 → (24 : Int32) - 8 * nI k = nI (24 - 8 * k) := by decide +kernel
theorem feed_sh2 : ∀ k, k < 4 → nI (24 - 8 * k) + (-8) = if k = 3 then -8 else nI (24 - 8 * (k + 1)) := by decide +kernel
def fsh (k : Nat) : Int32 := if k = 4 then -8 else nI (24 - 8 * k)
theorem feed1 (x : Int32) {c : Nat} : ∀ (k i u u' : Nat) (hc hm : sh_H) (n : Nat), i + k = 4 → k < u → k < u' → n + k ≤ 2000 → St c hc hm → hc.1 11 0 1 = nI n → hm.1 12 0 0 = nI n → ∃ H G, f_CB_append_l3 NF u x (fsh i) hc = some H ∧ f_M_typed_l2 NF u' x (nI i) hm = some G ∧ St c H G ∧ H.1 11 0 1 = nI (n + k) ∧ G.1 12 0 0 = nI (n + k) ∧ mEq H hc ∧ cEq G hm ∧ xEq G hm := by
  intro k
  induction k with
  | zero =>
    intro i u u' hc hm n e1 e2 e3 e4 h a1 a2
    obtain ⟨u, rfl⟩ : ∃ m, u = m + 1 := ⟨u - 1, by omega⟩
    obtain ⟨u', rfl⟩ : ∃ m, u' = m + 1 := ⟨u' - 1, by omega⟩
    obtain rfl : i = 4 := by omega
    refine ⟨hc, hm, ?_, ?_, h, a1, a2, mEq.rf _, cEq.rf _, xEq.rf _⟩
    · show f_CB_append_c3 NF (f_CB_append_l3 NF u) x (fsh 4) hc = _
      unfold f_CB_append_c3
      rw [if_pos (show fsh 4 < 0 by decide)]
    · show f_M_typed_c2 NF (f_M_typed_l2 NF u') x (nI 4) hm = _
      unfold f_M_typed_c2
      rw [if_neg (show ¬ nI 4 < (4 : Int32) by decide)]
  | succ k ih =>
    intro i u u' hc hm n e1 e2 e3 e4 h a1 a2
    obtain ⟨u, rfl⟩ : ∃ m, u = m + 1 := ⟨u - 1, by omega⟩
    obtain ⟨u', rfl⟩ : ∃ m, u' = m + 1 := ⟨u' - 1, by omega⟩
    have hi : i < 4 := by omega
    have f0 : fsh i = nI (24 - 8 * i) := if_neg (by omega)
    have f1 : fsh i + (-8) = fsh (i + 1) := by
      rw [f0, feed_sh2 i hi]
      unfold fsh
      by_cases q : i = 3
      · rw [if_pos q, if_pos (by omega)]
      · rw [if_neg q, if_neg (by omega)]
    obtain ⟨v, v1, v2, v3⟩ := byte_and (x >>> (fsh i &&& 31))
    have S := St_byte h (n := n) (by omega) a1 a2 v1 (z := (x >>> (fsh i &&& 31)).toInt8.toInt32.toInt8.toInt32) (by rw [byte_2, v3])
    obtain ⟨H, G, b1, b2, b3, b4, b5, b6, b7, b8⟩ := ih (i + 1) u u' _ _ (n + 1) (by omega) (by omega) (by omega) (by omega) S (pI_at _ _ _ _ _) (pI_at _ _ _ _ _)
    refine ⟨H, G, ?_, ?_, b3, by rw [b4, Nat.add_assoc, Nat.add_comm 1 k], by rw [b5, Nat.add_assoc, Nat.add_comm 1 k], b6.tr (mEq_pI (by decide) (mEq_pI (by decide) (mEq.rf _))), b7.tr (cEq_pI (by decide) (cEq_pI (by decide) (cEq.rf _))), b8.tr (xEq_pI (by decide) (xEq_pI (by decide) (xEq.rf _)))⟩
    · show f_CB_append_c3 NF (f_CB_append_l3 NF u) x (fsh i) hc = _
      unfold f_CB_append_c3 f_CB_append_b49
      have ein : ai_in (nI n) 2000 := q_in (by omega) (by omega)
      have ecl : (nI n).toNatClampNeg = n := q_cl (by omega)
      have nn : (sh_pI hc 15 0 n (x >>> (fsh i &&& 31)).toInt8.toInt32.toInt8.toInt32).1 11 0 1 = nI n := by rw [pI_ne (by omega)]; exact a1
      rw [if_neg (by rw [f0]; exact nI_pos (by omega))]
      simp only [a1, q_len, if_neg (nI_pos (n := n) (by omega)), if_pos (nI_lt (a := n) (b := 2000) (by omega) (by omega)), if_pos ein, ecl, sh_let, nn, nI_1, f1]
      exact b1
    · show f_M_typed_c2 NF (f_M_typed_l2 NF u') x (nI i) hm = _
      unfold f_M_typed_c2
      have ein : ai_in (nI n) 2000 := q_in (by omega) (by omega)
      have ecl : (nI n).toNatClampNeg = n := q_cl (by omega)
      have fe : (24 : Int32) - 8 * nI i = fsh i := by rw [feed_sh i hi, f0]
      have nn : (sh_pI hm 13 42 n (nI v)).1 12 0 0 = nI n := by rw [pI_ne (by omega)]; exact a2
      rw [if_pos (show nI i < (4 : Int32) from nI_lt (b := 4) hi (by omega))]
      simp only [a2, if_pos ein, ecl, fe, v2, sh_let, nn, nI_1]
      exact b2
theorem feed4 (x : Int32) {c n : Nat} {hc hm : sh_H} (hn : n + 4 ≤ 2000) (h : St c hc hm) (a1 : hc.1 11 0 1 = nI n) (a2 : hm.1 12 0 0 = nI n) : ∃ H G, f_CB_append NF x hc = some H ∧ f_M_typed NF x hm = some G ∧ St c H G ∧ H.1 11 0 1 = nI (n + 4) ∧ G.1 12 0 0 = nI (n + 4) ∧ mEq H hc ∧ cEq G hm ∧ xEq G hm := feed1 x 4 0 NF NF hc hm n (by omega) (NF_gt (by omega)) (NF_gt (by omega)) hn h a1 a2
theorem P_feed (a1 a2 a3 a4 a5 : Int32) : Pair (f_CB_feed NF a1 a2 a3 a4 a5) (f_M_feed NF a1 a2 a3 a4 a5) := by
  intro c hc hm _ h
  obtain ⟨n, t1, t2, t3, -⟩ := h.2.2.1
  unfold f_CB_feed f_M_feed
  rw [t2, t3]
  have e1 : Int32.ofNat 2000 - 20 < nI n ↔ 1980 < n := by
    rw [show Int32.ofNat 2000 - 20 = nI 1980 by decide, nI_ltI (by omega) (by omega)]
  have e2 : (2000 : Int32) < nI n + 20 ↔ 1980 < n := by
    rw [show (2000 : Int32) = nI 2000 from rfl, show (20 : Int32) = nI 20 from rfl, nI_add, nI_ltI (by omega) (by omega)]
    omega
  by_cases c1 : 1980 < n
  · rw [if_pos (e1.mpr c1), if_pos (e2.mpr c1)]
    exact same h
  rw [if_neg (fun q => c1 (e1.mp q)), if_neg (fun q => c1 (e2.mp q))]
  obtain ⟨H1, G1, p1, q1, s1, x1, y1, m1, c1, w1⟩ := feed4 a1 (by omega) h t2 t3
  obtain ⟨H2, G2, p2, q2, s2, x2, y2, m2, c2, w2⟩ := feed4 a2 (by omega) s1 x1 y1
  obtain ⟨H3, G3, p3, q3, s3, x3, y3, m3, c3, w3⟩ := feed4 a3 (by omega) s2 x2 y2
  obtain ⟨H4, G4, p4, q4, s4, x4, y4, m4, c4, w4⟩ := feed4 a4 (by omega) s3 x3 y3
  obtain ⟨H5, G5, p5, q5, s5, x5, y5, m5, c5, w5⟩ := feed4 a5 (by omega) s4 x4 y4
  rw [p1, q1, Option.bind_some, Option.bind_some, p2, q2, Option.bind_some, Option.bind_some, p3, q3, Option.bind_some, Option.bind_some, p4, q4, Option.bind_some, Option.bind_some, p5, q5, Option.bind_some, Option.bind_some, x5, y5]
  exact fin _ rfl rfl s5 (m5.tr (m4.tr (m3.tr (m2.tr m1)))) (c5.tr (c4.tr (c3.tr (c2.tr c1)))) (w5.tr (w4.tr (w3.tr (w2.tr w1))))
