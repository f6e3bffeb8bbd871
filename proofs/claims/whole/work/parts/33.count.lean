/-! PAIRS: count, sort's bounds -/
theorem pick {α : Type} {c : Prop} [Decidable c] {x y x' y' : Option α} (p : c → ∃ r, x = some r ∧ x' = some r) (q : ¬ c → ∃ r, y = some r ∧ y' = some r) : ∃ r, (if c then x else y) = some r ∧ (if c then x' else y') = some r := by
  by_cases h : c
  · rw [if_pos h, if_pos h]; exact p h
  · rw [if_neg h, if_neg h]; exact q h
theorem both {α : Type} {x y : Option α} {a b : α} (hx : x = some a) (hy : y = some b) (e : a = b) : ∃ r, x = some r ∧ y = some r := ⟨a, hx, by rw [hy, e]⟩
theorem St_z {c : Nat} {hc hm : sh_H} (h : St c hc hm) (j : Nat) (hj : j < 7) : hc.1 6 (7 * hc.2.2.1 + j) 3 = mS hm j := by
  obtain ⟨n, -, h2, h3, -⟩ := St_n h j hj
  rw [h2, h3]
theorem P_count (a1 : Int32) : PairR (f_CB_count a1) (f_M_count a1) := by
  intro c hc hm _ h
  obtain ⟨n, n1, n2, n3, -⟩ := h.2.2.2.2.2.1.2.2.1
  obtain ⟨m, m1, m2, m3, -⟩ := h.2.2.2.2.2.1.2.2.2.1
  have ht := h.2.2.2.2.2.1.2.2.2.2.1
  obtain ⟨k, k1, k2, k3, -⟩ := h.2.2.1
  have hA := h.2.2.2.2.2.2.2.2.1.1
  have hB := h.2.2.2.2.2.2.2.2.2.1
  unfold f_CB_count f_M_count
  refine pick (fun _ => both rfl (mS_q (n := 0) (by omega)) (St_z h 0 (by omega))) (fun _ => ?_)
  refine pick (fun _ => both rfl (mS_q (n := 1) (by omega)) (St_z h 1 (by omega))) (fun _ => ?_)
  refine pick (fun _ => both rfl (mS_q (n := 2) (by omega)) (St_z h 2 (by omega))) (fun _ => ?_)
  refine pick (fun _ => both rfl (mS_q (n := 4) (by omega)) (St_z h 4 (by omega))) (fun _ => ?_)
  refine pick (fun _ => both rfl (mS_q (n := 6) (by omega)) (St_z h 6 (by omega))) (fun _ => ?_)
  refine pick (fun _ => both rfl (mS_q (n := 7) (by omega)) (n2.trans n3.symm)) (fun _ => ?_)
  refine pick (fun _ => both rfl (mS_q (n := 8) (by omega)) (m2.trans m3.symm)) (fun _ => ?_)
  refine pick (fun _ => both rfl (mS_q (n := 9) (by omega)) ht) (fun _ => ?_)
  refine pick (fun _ => both rfl rfl (k2.trans k3.symm)) (fun _ => ?_)
  refine pick (fun _ => ?_) (fun _ => ?_)
  · rw [hA]
    have e2 : ai_in (2 : Int32) 4 := q_in (k := 2) (n := 4) (by omega) (by omega)
    have e3 : ai_in (3 : Int32) 4 := q_in (k := 3) (n := 4) (by omega) (by omega)
    rw [if_pos e2]
    refine pick (fun _ => ?_) (fun _ => ?_)
    · unfold f_CB_count_b169 f_M_count_b143
      rw [hB, if_pos e3]
      exact pick (fun _ => both rfl rfl rfl) (fun _ => both rfl rfl rfl)
    · unfold f_CB_count_b169 f_M_count_b143
      rw [hB, if_pos e3]
      exact pick (fun _ => both rfl rfl rfl) (fun _ => both rfl rfl rfl)
  refine pick (fun _ => both rfl (mS_q (n := 3) (by omega)) (St_z h 3 (by omega))) (fun _ => ?_)
  refine pick (fun _ => both rfl (mS_q (n := 5) (by omega)) (St_z h 5 (by omega))) (fun _ => ?_)
  exact ⟨-1, rfl, rfl⟩
