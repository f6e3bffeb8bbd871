/-! PAIRS: lay -/
theorem sumN_le {g : Nat → Nat} {q : Nat} : ∀ {n : Nat}, q < n → g q ≤ sumN g n := by
  intro n
  induction n with
  | zero => intro h; omega
  | succ n ih =>
    intro h
    show g q ≤ sumN g n + g n
    by_cases e : q = n
    · subst e; omega
    · have := ih (by omega); omega
theorem sumN_put (g : Nat → Nat) (a v n : Nat) : sumN (fun q => if q = a then v else g q) n + (if a < n then g a else 0) = sumN g n + (if a < n then v else 0) := by
  induction n with
  | zero => rfl
  | succ n ih =>
    show sumN _ n + (if n = a then v else g n) + _ = sumN g n + g n + _
    by_cases e : n = a
    · subst e
      rw [if_pos rfl, if_pos (by omega), if_pos (by omega)]
      rw [if_neg (by omega), if_neg (by omega)] at ih
      omega
    · rw [if_neg e]
      by_cases l : a < n
      · rw [if_pos (by omega), if_pos (by omega)]
        rw [if_pos l, if_pos l] at ih
        omega
      · rw [if_neg (by omega), if_neg (by omega)]
        rw [if_neg l, if_neg l] at ih
        omega
theorem sf_at {h : sh_H} {k : Nat} (hk : kT k ∨ kS k) : sf h 0 k = mS h k := by
  unfold sf
  rw [if_pos hk, Nat.zero_add]
theorem St_g {c : Nat} {hc hm : sh_H} (h : St c hc hm) : ∃ g : Nat → Nat, (∀ q, q < 120 → mS hm (800 + q) = nI (g q)) ∧ sumN g 120 ≤ 9999 * c := by
  obtain ⟨⟨g, g1, g2⟩, -⟩ := h.2.2.2.2.2.2.2.1
  exact ⟨g, fun q hq => by rw [← g1 q hq, sf_at (Or.inr (Or.inr (by omega)))], g2⟩
theorem IS_new {c c' : Nat} {hm hm' : sh_H} (h : IS c (sf hm 0)) (e : ∀ k, kT k ∨ kS k → ¬ (800 ≤ k ∧ k < 920) → mS hm' k = mS hm k) (g : Nat → Nat) (hg : ∀ q, q < 120 → mS hm' (800 + q) = nI (g q)) (hs : sumN g 120 ≤ 9999 * c') : IS c' (sf hm' 0) := ⟨⟨g, fun q hq => by rw [sf_at (Or.inr (Or.inr (by omega)))]; exact hg q hq, hs⟩, SN_to (fun k hk => by rw [sf_at (by unfold kT kS; omega), sf_at (by unfold kT kS; omega)]; exact e k (by unfold kT kS; omega) (by omega)) h.2⟩
/-- one cell of the pieces that stand now is put anew on both sides -/
theorem St_put {c c' : Nat} {hc hm : sh_H} (hcc : c ≤ c') (h : St c hc hm) {g : Nat → Nat} (g1 : ∀ q, q < 120 → mS hm (800 + q) = nI (g q)) {a v : Nat} (ha : a < 120) (hv : sumN g 120 + v ≤ g a + 9999 * c') : St c' (sh_pI hc 13 20 a (nI v)) (sh_pI hm 13 46 (800 + a) (nI v)) := by
  obtain ⟨⟨p1, p2⟩, r2, r3, r4, r5⟩ := rSt_0 h
  have hk : ∀ k, ¬ k = 800 + a → mS (sh_pI hm 13 46 (800 + a) (nI v)) k = mS hm k := fun k hk => by
    show (sh_pI hm 13 46 (800 + a) (nI v)).1 13 46 k = _
    rw [pI_1, if_neg (fun q => hk q.2.2)]
  have hcl : ∀ c i j, ¬ (c = 13 ∧ i = 20) → (sh_pI hc 13 20 a (nI v)).1 c i j = hc.1 c i j := fun c i j q => by rw [pI_1, if_neg (fun z => q ⟨z.1, z.2.1⟩)]
  refine St_keep hcc h (fun c i j q => hcl c i j (by omega)) (fun _ _ _ => rfl) rfl rfl (fun c i j q => ?_) (fun _ _ => rfl) ⟨⟨p1, fun q hq => ?_⟩, ⟨?_, fun q hq => ?_⟩, ?_, ?_, ?_⟩ (IS_new h.2.2.2.2.2.2.2.1 (fun k _ hk2 => hk k (by omega)) (fun q => if q = a then v else g q) (fun q hq => ?_) ?_)
  · rw [pI_1, if_neg (fun z => by omega)]
  · rw [Nat.zero_add]
    by_cases e : q = a
    · subst e
      show (sh_pI hc 13 20 q (nI v)).1 13 20 q = (sh_pI hm 13 46 (800 + q) (nI v)).1 13 46 (800 + q)
      rw [pI_at, pI_at]
    · rw [hk _ (by omega)]
      show (sh_pI hc 13 20 a (nI v)).1 13 20 q = _
      rw [pI_1, if_neg (fun z => e z.2.2)]
      have := p2 q hq
      rw [Nat.zero_add] at this
      exact this
  · exact r2.1
  · rw [hk _ (by omega)]
    exact r2.2 q hq
  · obtain ⟨n, n1, n2, n3, n4⟩ := r3
    refine ⟨n, n1, n2, by rw [hk _ (by omega)]; exact n3, fun i hi c hc6 => ?_⟩
    have hs : sn_c c < 6 := (by decide +kernel : ∀ c, c < 6 → sn_c c < 6) c hc6
    rw [hk _ (by omega)]
    exact n4 i hi c hc6
  · obtain ⟨n, n1, n2, n3, n4⟩ := r4
    refine ⟨n, n1, n2, by rw [hk _ (by omega)]; exact n3, fun i hi => ?_⟩
    obtain ⟨b, b1, b2, b3, b4, b5, b6⟩ := n4 i hi
    exact ⟨b, b1, by rw [hk _ (by omega)]; exact b2, b3, fun q => by rw [hk _ (by omega), hk _ (by omega), hk _ (by omega)]; exact b4 q, fun q => by rw [hk _ (by omega), hk _ (by omega), hk _ (by omega)]; exact b5 q, fun q => by rw [hk _ (by omega)]; exact b6 q⟩
  · exact ⟨by rw [hk _ (by omega)]; exact r5.1, r5.2⟩
  · by_cases e : q = a
    · subst e
      rw [if_pos rfl]
      exact pI_at _ _ _ _ _
    · rw [if_neg e, hk _ (by omega)]
      exact g1 q hq
  · have := sumN_put g a v 120
    rw [if_pos ha, if_pos ha] at this
    omega
theorem pcs_add {hc hm : sh_H} {s o p k w : Nat} {v : Int32} (hC : RC hc) (hs : s < 3) (h : rPcs hc hm s o) (hp : p < 5) (hk : k < 6) (hw : w < 4) : f_Pieces_add s (nI p) (nI k) (nI w) v hc = some (sh_pI hc 13 (20 + 4 * s) ((6 * p + k) * 4 + w) (mS hm (o + 800 + ((6 * p + k) * 4 + w)) + v)) := by
  obtain ⟨e1, e2, e3, e4⟩ := pr_rc s hs
  have hg := pcs_get hC hs h hp hk hw
  unfold f_Pieces_get f_Pieces_row at hg
  rw [Option.bind_some, q_row] at hg
  have hg2 : f_Rows_get (sh_pr s) (nI (p * 6 + k)) (nI w) hc = some (mS hm (o + 800 + ((6 * p + k) * 4 + w))) := by
    cases hx : f_Rows_get (sh_pr s) (nI (p * 6 + k)) (nI w) hc with
    | none => rw [hx] at hg; cases hg
    | some y => rw [hx] at hg; exact hg
  unfold f_Pieces_add f_Pieces_row
  rw [Option.bind_some, q_row, hg2, Option.bind_some, e1, rows_put (s := 30) hC (by omega) h.1 (by rw [e3]; omega) (by omega) (by omega), if_pos ⟨by omega, by rw [e4]; omega⟩, Option.bind_some, e2, e4, show (p * 6 + k) * 4 + w = (6 * p + k) * 4 + w by omega]
theorem q_999 {x n : Nat} (hx : x ≤ 6000000) (hn : n ≤ 9999) : ((999999 : Int32) - nI n < nI x ↔ 999999 < x + n) ∧ ((999999 : Int32) < nI x + nI n ↔ 999999 < x + n) := by
  rw [show (999999 : Int32) = nI 999999 from rfl, q_sub (by omega), nI_add, nI_ltI (by omega) (by omega), nI_ltI (by omega) (by omega)]
  omega
theorem same {c : Nat} {α : Type} {hc hm : sh_H} {r : α} (h : St c hc hm) : ∃ q hc' hm', some (r, hc) = some (q, hc') ∧ some (r, hm) = some (q, hm') ∧ St (c + 1) hc' hm' ∧ mEq hc' hc ∧ cEq hm' hm ∧ xEq hm' hm := ⟨r, hc, hm, rfl, rfl, St_up h, mEq.rf _, cEq.rf _, xEq.rf _⟩
theorem pick2 {α : Type} {c : Prop} [Decidable c] {x y x' y' : Option (α × sh_H)} {P : sh_H → sh_H → Prop} (p : c → ∃ r h h', x = some (r, h) ∧ x' = some (r, h') ∧ P h h') (q : ¬ c → ∃ r h h', y = some (r, h) ∧ y' = some (r, h') ∧ P h h') : ∃ r h h', (if c then x else y) = some (r, h) ∧ (if c then x' else y') = some (r, h') ∧ P h h' := by
  by_cases h : c
  · rw [if_pos h, if_pos h]; exact p h
  · rw [if_neg h, if_neg h]; exact q h
theorem P_lay (a1 a2 a3 a4 : Int32) : Pair (f_CB_lay a1 a2 a3 a4) (f_M_lay a1 a2 a3 a4) := by
  intro c hc hm hc5 h
  obtain ⟨n, h1, h2, h3, -⟩ := St_n h 1 (by omega)
  obtain ⟨m, k1, k2, k3, -⟩ := St_n h 0 (by omega)
  have hn : n ≤ 4 := h1
  have hk : m ≤ 6 := k1
  have hp := (rSt_0 h).1
  obtain ⟨g, g1, g2⟩ := St_g h
  unfold f_CB_lay f_M_lay
  rw [Text_isPlace, M_isPlace, Text_isKind, M_isKind, CB_within, M_isIn, CB_within, M_isIn, h2, h3, k2, k3]
  simp only [Option.bind_some]
  refine pick2 (fun _ => same h) (fun c1 => ?_)
  refine pick2 (fun _ => same h) (fun c2 => ?_)
  refine pick2 (fun _ => same h) (fun c3 => ?_)
  refine pick2 (fun _ => same h) (fun c4 => ?_)
  obtain ⟨a, ha, rfl⟩ := q_plc_in (by omega) c1
  obtain ⟨b, hb, rfl⟩ := q_kind_in (by omega) c2
  obtain ⟨w, -, hw, rfl⟩ := q_within_in (a := 0) (b := 3) (by omega) (by omega) c3
  obtain ⟨x, -, hx, rfl⟩ := q_within_in (a := 0) (b := 9999) (by omega) (by omega) c4
  have hq : (6 * a + b) * 4 + w < 120 := by omega
  rw [pcs_get h.1 (by omega) hp (by omega) (by omega) (by omega), M_cell, pcs_add h.1 (by omega) hp (by omega) (by omega) (by omega)]
  simp only [Option.bind_some]
  have gq := g1 _ hq
  rw [Nat.zero_add, gq]
  have l := sumN_le (g := g) hq
  have ecl : (nI (800 + ((6 * a + b) * 4 + w))).toNatClampNeg = 800 + ((6 * a + b) * 4 + w) := q_cl (by omega)
  have gq2 : hm.1 13 46 (800 + ((6 * a + b) * 4 + w)) = nI (g ((6 * a + b) * 4 + w)) := gq
  have ein : ai_in (nI (800 + ((6 * a + b) * 4 + w))) 8000 := q_in (by omega) (by omega)
  simp only [ecl, gq2, if_pos ein]
  obtain ⟨z1, z2⟩ := q_999 (x := g ((6 * a + b) * 4 + w)) (n := x) (by omega) hx
  by_cases c5 : 999999 < g ((6 * a + b) * 4 + w) + x
  · rw [if_pos (z1.mpr c5), if_pos (z2.mpr c5)]
    exact same h
  · rw [if_neg (fun q => c5 (z1.mp q)), if_neg (fun q => c5 (z2.mp q)), nI_add]
    have S := St_put (Nat.le_succ c) h g1 (a := (6 * a + b) * 4 + w) (v := g ((6 * a + b) * 4 + w) + x) hq (by omega)
    have e : f_Pieces_get 0 (nI a) (nI b) (nI w) (sh_pI hc 13 (20 + 4 * 0) ((6 * a + b) * 4 + w) (nI (g ((6 * a + b) * 4 + w) + x))) = some (nI (g ((6 * a + b) * 4 + w) + x)) := by
      rw [pcs_get (hm := sh_pI hm 13 46 (800 + ((6 * a + b) * 4 + w)) (nI (g ((6 * a + b) * 4 + w) + x))) (o := 0) S.1 (by omega) (rSt_0 S).1 (by omega) (by omega) (by omega), Nat.zero_add]
      exact congrArg some (pI_at _ _ _ _ _)
    rw [e]
    refine ⟨nI (g ((6 * a + b) * 4 + w) + x), _, _, rfl, ?_, S, mEq_pI (by decide) (mEq.rf _), cEq_pI (by decide) (cEq.rf _), xEq_pI (by decide) (xEq.rf _)⟩
    simp only [sh_let, M_cell, Option.bind_some, if_pos ein, ecl]
    exact congrArg (fun z => some (z, _)) (pI_at _ _ _ _ _)
