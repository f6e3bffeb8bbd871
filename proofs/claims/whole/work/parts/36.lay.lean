/-! PAIRS: lay -/
theorem sumN_le {g : Nat → Nat} {q : Nat} : ∀ {n : Nat}, q < n → g q ≤ sumN g n := by
  intro n
  induction n with
  | zero => intro h; omega
  | succ n ih =>
    intro h
    show g q ≤ sumN g n + g n
    by_cases e : q = n
    · subst e; omega
    · have := ih (by omega); omega
theorem sumN_put (g : Nat → Nat) (a v n : Nat) : sumN (fun q => if q = a then v else g q) n + (if a < n then g a else 0) = sumN g n + (if a < n then v else 0) := by
  induction n with
  | zero => rfl
  | succ n ih =>
    show sumN _ n + (if n = a then v else g n) + _ = sumN g n + g n + _
    by_cases e : n = a
    · subst e
      rw [if_pos rfl, if_pos (by omega), if_pos (by omega)]
      rw [if_neg (by omega), if_neg (by omega)] at ih
      omega
    · rw [if_neg e]
      by_cases l : a < n
      · rw [if_pos (by omega), if_pos (by omega)]
        rw [if_pos l, if_pos l] at ih
        omega
      · rw [if_neg (by omega), if_neg (by omega)]
        rw [if_neg l, if_neg l] at ih
        omega
theorem sf_at {h : sh_H} {k : Nat} (hk : kT k ∨ kS k) : sf h 0 k = mS h k := by
  unfold sf
  rw [if_pos hk, Nat.zero_add]
theorem St_g {c : Nat} {hc hm : sh_H} (h : St c hc hm) : ∃ g : Nat → Nat, (∀ q, q < 120 → mS hm (800 + q) = nI (g q)) ∧ sumN g 120 ≤ 9999 * c := by
  obtain ⟨g, g1, g2⟩ := h.2.2.2.2.2.2.2.1
  exact ⟨g, fun q hq => by rw [← g1 q hq, sf_at (Or.inr (Or.inr (by omega)))], g2⟩
theorem IS_new {c c' : Nat} {hm hm' : sh_H} (_h : IS c (sf hm 0)) (_e : ∀ k, kT k ∨ kS k → ¬ (800 ≤ k ∧ k < 920) → mS hm' k = mS hm k) (g : Nat → Nat) (hg : ∀ q, q < 120 → mS hm' (800 + q) = nI (g q)) (hs : sumN g 120 ≤ 9999 * c') : IS c' (sf hm' 0) := ⟨g, fun q hq => by rw [sf_at (Or.inr (Or.inr (by omega)))]; exact hg q hq, hs⟩
/-- one cell of the pieces that stand now is put anew on both sides -/
theorem St_put {c : Nat} {hc hm : sh_H} (h : St c hc hm) {g : Nat → Nat} (g1 : ∀ q, q < 120 → mS hm (800 + q) = nI (g q)) (g2 : sumN g 120 ≤ 9999 * c) {a v : Nat} (ha : a < 120) (hv : v ≤ g a + 9999) : St (c + 1) (sh_pI hc 13 20 a (nI v)) (sh_pI hm 13 46 (800 + a) (nI v)) := by
  obtain ⟨⟨p1, p2⟩, r2, r3, r4, r5⟩ := rSt_0 h
  have hk : ∀ k, ¬ k = 800 + a → mS (sh_pI hm 13 46 (800 + a) (nI v)) k = mS hm k := fun k hk => by
    show (sh_pI hm 13 46 (800 + a) (nI v)).1 13 46 k = _
    rw [pI_1, if_neg (fun q => hk q.2.2)]
  have hcl : ∀ c i j, ¬ (c = 13 ∧ i = 20) → (sh_pI hc 13 20 a (nI v)).1 c i j = hc.1 c i j := fun c i j q => by rw [pI_1, if_neg (fun z => q ⟨z.1, z.2.1⟩)]
  refine St_keep (Nat.le_succ c) h (fun c i j q => hcl c i j (by omega)) (fun _ _ _ => rfl) rfl rfl (fun c i j q => ?_) (fun _ _ => rfl) ⟨⟨p1, fun q hq => ?_⟩, ⟨?_, fun q hq => ?_⟩, ?_, ?_, ?_⟩ (IS_new h.2.2.2.2.2.2.2.1 (fun k _ hk2 => hk k (by omega)) (fun q => if q = a then v else g q) (fun q hq => ?_) ?_)
  · rw [pI_1, if_neg (fun z => by omega)]
  · rw [Nat.zero_add]
    by_cases e : q = a
    · subst e
      show (sh_pI hc 13 20 q (nI v)).1 13 20 q = (sh_pI hm 13 46 (800 + q) (nI v)).1 13 46 (800 + q)
      rw [pI_at, pI_at]
    · rw [hk _ (by omega)]
      show (sh_pI hc 13 20 a (nI v)).1 13 20 q = _
      rw [pI_1, if_neg (fun z => e z.2.2)]
      have := p2 q hq
      rw [Nat.zero_add] at this
      exact this
  · exact r2.1
  · rw [hk _ (by omega)]
    exact r2.2 q hq
  · obtain ⟨n, n1, n2, n3, n4⟩ := r3
    refine ⟨n, n1, n2, by rw [hk _ (by omega)]; exact n3, fun i hi c hc6 => ?_⟩
    have hs : sn_c c < 6 := (by decide +kernel : ∀ c, c < 6 → sn_c c < 6) c hc6
    rw [hk _ (by omega)]
    exact n4 i hi c hc6
  · obtain ⟨n, n1, n2, n3, n4⟩ := r4
    refine ⟨n, n1, n2, by rw [hk _ (by omega)]; exact n3, fun i hi => ?_⟩
    obtain ⟨b, b1, b2, b3, b4, b5, b6⟩ := n4 i hi
    exact ⟨b, b1, by rw [hk _ (by omega)]; exact b2, b3, fun q => by rw [hk _ (by omega), hk _ (by omega), hk _ (by omega)]; exact b4 q, fun q => by rw [hk _ (by omega), hk _ (by omega), hk _ (by omega)]; exact b5 q, fun q => by rw [hk _ (by omega)]; exact b6 q⟩
  · exact ⟨by rw [hk _ (by omega)]; exact r5.1, r5.2⟩
  · by_cases e : q = a
    · subst e
      rw [if_pos rfl]
      exact pI_at _ _ _ _ _
    · rw [if_neg e, hk _ (by omega)]
      exact g1 q hq
  · have := sumN_put g a v 120
    rw [if_pos ha, if_pos ha] at this
    have l := sumN_le (g := g) ha
    omega
