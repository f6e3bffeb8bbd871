/-! PAIRS: strike -/
theorem St_spent {c : Nat} {hc hm : sh_H} {v : Int64} (h : St c hc hm) : St c (sh_pJ hc 7 0 7 v) (sh_pJ hm 14 6 2 v) := by
  obtain ⟨r1, r2, r3, r4, r5, r6, r7, r8⟩ := rSt_0 h
  have e : ∀ k, mS (sh_pJ hm 14 6 2 v) k = mS hm k := fun _ => rfl
  refine St_keep (Nat.le_refl c) h (fun _ _ _ _ => rfl) (fun s j hs => ?_) rfl rfl (fun _ _ _ _ => rfl) (fun j hj => ?_) ⟨r1, r2, r3, r4, r5, ?_, ?_, ?_⟩ h.2.2.2.2.2.2.2.1
  · rw [pJ_2, if_neg (by omega)]
  · rw [pJ_2, if_neg (by omega)]
  · rw [pJ_2, pJ_2, if_neg (by omega), if_neg (by omega)]; exact r6
  · rw [pJ_2, pJ_2, if_neg (by omega), if_neg (by omega)]; exact r7
  · rw [pJ_2, pJ_2, if_pos ⟨rfl, rfl, rfl⟩, if_pos ⟨rfl, rfl, rfl⟩]
theorem P_strike (a1 a2 : Int32) : Pair (f_CB_strike NF a1 a2) (f_M_strike NF a1 a2) := by
  intro c hc hm hc5 h
  obtain ⟨m, k1, k2, k3, -⟩ := St_n h 0 (by omega)
  have hk : m ≤ 6 := k1
  have hp := (rSt_0 h).1
  obtain ⟨g, g1, g2⟩ := St_g h
  unfold f_CB_strike f_M_strike
  rw [Text_isKind, M_isKind, CB_within, M_isIn, k2, k3]
  simp only [Option.bind_some]
  refine pick2 (fun _ => same h) (fun c2 => ?_)
  refine pick2 (fun _ => same h) (fun c4 => ?_)
  obtain ⟨b, hb, rfl⟩ := q_kind_in (by omega) c2
  obtain ⟨x, -, hx, rfl⟩ := q_within_in (a := 1) (b := 9999) (by omega) (by omega) c4
  have hq : (6 * 0 + b) * 4 + 0 < 120 := by omega
  have eg : f_Pieces_get 0 (0 : Int32) (nI b) (0 : Int32) hc = _ := pcs_get (s := 0) (p := 0) (k := b) (w := 0) h.1 (by omega) hp (by omega) (by omega) (by omega)
  have em : ∀ h, f_M_cell (0 : Int32) (nI b) (0 : Int32) h = _ := fun h => M_cell (h := h) (p := 0) (k := b) (w := 0)
  have ea : ∀ v, f_Pieces_add 0 (0 : Int32) (nI b) (0 : Int32) v hc = _ := fun v => pcs_add (s := 0) (p := 0) (k := b) (w := 0) (v := v) h.1 (by omega) hp (by omega) (by omega) (by omega)
  generalize hQ : (6 * 0 + b) * 4 + 0 = Q at *
  rw [eg, em, ea]
  simp only [Option.bind_some]
  have gq := g1 _ hq
  rw [Nat.zero_add, gq]
  have l := sumN_le (g := g) hq
  have ecl : (nI (800 + Q)).toNatClampNeg = 800 + Q := q_cl (by omega)
  have gq2 : hm.1 13 46 (800 + Q) = nI (g Q) := gq
  have ein : ai_in (nI (800 + Q)) 8000 := q_in (by omega) (by omega)
  simp only [ecl, gq2, if_pos ein, em, Option.bind_some]
  obtain ⟨z1, z2⟩ := q_999 (x := g Q) (n := x) (by omega) hx
  by_cases c5 : 999999 < g Q + x
  · rw [if_pos (z1.mpr c5), if_pos (z2.mpr c5)]
    exact same h
  · rw [if_neg (fun q => c5 (z1.mp q)), if_neg (fun q => c5 (z2.mp q)), nI_add]
    have S := St_put (Nat.le_succ c) h g1 (a := Q) (v := g Q + x) hq (by omega)
    have f1 : mEq (sh_pI hc 13 20 Q (nI (g Q + x))) hc := mEq_pI (by decide) (mEq.rf _)
    have f2 : cEq (sh_pI hm 13 46 (800 + Q) (nI (g Q + x))) hm := cEq_pI (by decide) (cEq.rf _)
    have f3 : xEq (sh_pI hm 13 46 (800 + Q) (nI (g Q + x))) hm := xEq_pI (by decide) (xEq.rf _)
    have m0 : mS (sh_pI hm 13 46 (800 + Q) (nI (g Q + x))) 0 = nI m := by
      show (sh_pI hm 13 46 (800 + Q) (nI (g Q + x))).1 13 46 0 = _
      rw [pI_1, if_neg (fun q => by omega)]
      exact k3
    show ∃ r h h', (Option.bind (f_Rows_get (7 * (sh_pI hc 13 20 Q (nI (g Q + x))).2.2.1 + 0) (nI b) 2 (sh_pI hc 13 20 Q (nI (g Q + x)))) _) = _ ∧ _
    generalize sh_pI hc 13 20 Q (nI (g Q + x)) = H1 at *
    generalize sh_pI hm 13 46 (800 + Q) (nI (g Q + x)) = G1 at *
    have ht := St_tx S
    obtain ⟨m', k1', k2', k3', k4'⟩ := St_n S 0 (by omega)
    have hk' : m' ≤ 6 := k1'
    have hm' : m' = m := (nI_eq (by omega) (by omega)).mp (k3'.symm.trans m0)
    subst hm'
    have e5 := k4' b hb 2 (by omega) (by decide)
    have e6 : f_Rows_get (7 * H1.2.2.1 + 0) (nI b) 2 H1 = some (mS G1 (20 + 3 * b + 2)) := by
      rw [show (2 : Int32) = nI 2 from rfl, rows_get S.1 (by omega) k2' (by rw [(rc_tx _ ht 0 (by omega)).2.1]; exact k1') (by omega) (by omega), if_pos ⟨hb, by rw [(rc_tx _ ht 0 (by omega)).2.2]; decide⟩]
      exact congrArg some e5
    rw [e6]
    simp only [Option.bind_some, sh_let]
    have j2 : H1.2.1 7 0 7 = G1.2.1 14 6 2 := (rSt_0 S).2.2.2.2.2.2.2
    have i2 : ai_in (2 : Int32) 12 := q_in (k := 2) (n := 12) (by omega) (by omega)
    have ek : (20 : Int32) + 3 * nI b + 2 = nI (20 + 3 * b + 2) := by
      rw [show (20 : Int32) = nI 20 from rfl, show (3 : Int32) = nI 3 from rfl, show (2 : Int32) = nI 2 from rfl, q_mul, nI_add, nI_add]
    have ej : ai_in (nI (20 + 3 * b + 2)) 8000 := q_in (by omega) (by omega)
    have ec : (nI (20 + 3 * b + 2)).toNatClampNeg = 20 + 3 * b + 2 := q_cl (by omega)
    have el : (2 : Int32).toNatClampNeg = 2 := rfl
    simp only [ek, if_pos i2, if_pos ej, ec, el]
    rw [← j2]
    obtain ⟨V, hV⟩ : ∃ V, V = H1.2.1 7 0 7 + (nI x).toInt64 * (mS G1 (20 + 3 * b + 2)).toInt64 := ⟨_, rfl⟩
    rw [← hV]
    have S2 := St_spent (v := V) S
    have e7 := pcs_all (s := 0) (p := 0) (k := b) S2.1 (by omega) (rSt_0 S2).1 (by omega) (by omega)
    have e8 := M_all (h := sh_pJ G1 14 6 2 V) (p := 0) (k := b) (by omega) (by omega)
    refine ⟨q_all (sh_pJ G1 14 6 2 V) (0 + 800 + (6 * 0 + b) * 4), sh_pJ H1 7 0 7 V, sh_pJ G1 14 6 2 V, ?_, ?_, S2, mEq_pJ (by decide) f1, cEq_pJ (by decide) f2, xEq_pJ f3⟩
    · exact congrArg (fun z => Option.bind z _) e7
    · rw [Nat.zero_add]
      exact congrArg (fun z => Option.bind z _) e8
