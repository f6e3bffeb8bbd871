/-! ALIKE AGAIN: all but the state that stands now is kept -/
abbrev kC (c i j : Nat) : Prop := (c = 6 ∧ j < 2) ∨ (c = 6 ∧ i < 14) ∨ c = 2 ∨ (c = 13 ∧ i < 17) ∨ c = 11 ∨ c = 15 ∨ (c = 6 ∧ 18 ≤ i ∧ i < 26) ∨ (c = 13 ∧ 24 ≤ i ∧ i < 32) ∨ (c = 7 ∧ (i = 1 ∨ i = 2)) ∨ (c = 7 ∧ j = 8) ∨ c = 19
abbrev kM (c i j : Nat) : Prop := (c = 12 ∧ (j = 0 ∨ j = 9)) ∨ (c = 13 ∧ i = 42) ∨ c = 16 ∨ (c = 13 ∧ i = 46 ∧ (kT j ∨ 4000 ≤ j))
theorem IS_le {c c' : Nat} {f : Nat → Int32} (e : c ≤ c') (h : IS c f) : IS c' f := by
  induction e with
  | refl => exact h
  | step _ ih => exact IS_up ih
theorem St_keep {c c' : Nat} {hc hm hc' hm' : sh_H} (hcc : c ≤ c') (h : St c hc hm) (k1 : ∀ c i j, kC c i j → hc'.1 c i j = hc.1 c i j) (k2 : ∀ s j, s = 1 ∨ s = 2 → hc'.2.1 7 s j = hc.2.1 7 s j) (k3 : hc'.2.2.1 = hc.2.2.1) (k4 : hc'.2.2.2.1 = hc.2.2.2.1) (m1 : ∀ c i j, kM c i j → hm'.1 c i j = hm.1 c i j) (m2 : ∀ j, 3 ≤ j → hm'.2.1 14 6 j = hm.2.1 14 6 j) (r : rSt hc' hm' 0 0 0) (s : IS c' (sf hm' 0)) : St c' hc' hm' := by
  obtain ⟨h1, h2, ⟨n, t1, t2, t3, t4⟩, h4, h5, h6, h7, h8, h9, h10⟩ := h
  have ht : hc.2.2.1 < 2 := by rcases h2 with h | h <;> omega
  have kt : ∀ k, kT k → mS hm' (0 + k) = mS hm (0 + k) := fun k hk => by rw [Nat.zero_add]; exact m1 13 46 k (Or.inr (Or.inr (Or.inr ⟨rfl, rfl, Or.inl hk⟩)))
  have kh : ∀ k, 4000 ≤ k → mS hm' k = mS hm k := fun k hk => m1 13 46 k (Or.inr (Or.inr (Or.inr ⟨rfl, rfl, Or.inr hk⟩)))
  have he : ∀ s o b w, s = 1 ∨ s = 2 → 4000 ≤ o → 3 ≤ b → rHeld c hc hm s o b w → rHeld c' hc' hm' s o b w := by
    intro s o b w hs ho hb h
    have ew : hm'.1 16 0 w = hm.1 16 0 w := m1 16 0 w (Or.inr (Or.inr (Or.inl rfl)))
    refine ⟨by rw [ew, k1 7 s 8 (by omega)]; exact h.1, fun q => ?_⟩
    rw [ew] at q
    obtain ⟨a1, a2, a3⟩ := h.2 q
    refine ⟨rSt_to (fun d hd => k1 6 _ _ (by omega)) (fun d hd j _ => k1 13 _ _ (by omega)) (k1 7 s 4 (by omega)) (fun j _ _ => k2 s j hs) (fun k _ => kh _ (by omega)) (fun k _ => m2 _ (by omega)) a1, fun k hk => by rw [kh _ (by omega), kt k hk]; exact a2 k hk, ?_⟩
    rw [sf_to (h := hm) (o := o) (fun k _ => kh _ (by omega))]
    exact IS_le hcc a3
  refine ⟨fun r hr => ?_, ?_, ⟨n, t1, ?_, ?_, fun i hi => ?_⟩, ?_, ?_, r, ?_, s, he 1 4000 6 2 (by omega) (by omega) (by omega) h9, he 2 6000 9 3 (by omega) (by omega) (by omega) h10⟩
  · rw [k1 6 r 0 (by omega), k1 6 r 1 (by omega)]; exact h1 r hr
  · exact rTx_to k3 k4 (fun i j => k1 19 i j (by omega)) h2
  · rw [k1 11 0 1 (by omega)]; exact t2
  · rw [m1 12 0 0 (Or.inl ⟨rfl, Or.inl rfl⟩)]; exact t3
  · rw [m1 13 42 i (Or.inr (Or.inl ⟨rfl, rfl⟩)), k1 15 0 i (by omega)]; exact t4 i hi
  · rw [k1 11 0 2 (by omega), m1 12 0 9 (Or.inl ⟨rfl, Or.inr rfl⟩)]; exact h4
  · rw [k3]
    exact rText_to ht (fun c i j q _ => k1 c i j (by unfold lT at q; omega)) kt h5
  · rw [tf_to (h := hm) kt]; exact h7
theorem rSt_0 {c : Nat} {hc hm : sh_H} (h : St c hc hm) : rSt hc hm 0 0 0 := h.2.2.2.2.2.1
