/-! THE WHOLE RELATION: c calls so far -/
def tf (h : sh_H) (o k : Nat) : Int32 := if kT k then mS h (o + k) else 0
def sf (h : sh_H) (o k : Nat) : Int32 := if kT k ∨ kS k then mS h (o + k) else 0
/-- of a text's cells (f k: the cell k of the model's state) -/
def IT (f : Nat → Int32) : Prop := ∀ k, 20 ≤ k → k < 50 → ∃ v, v ≤ 9999 ∧ f k = nI v
/-- of a state's cells behind c calls -/
def IS (c : Nat) (f : Nat → Int32) : Prop := ∃ g : Nat → Nat, (∀ q, q < 120 → f (800 + q) = nI (g q)) ∧ sumN g 120 ≤ 9999 * c
theorem IS_up {c : Nat} {f : Nat → Int32} (h : IS c f) : IS (c + 1) f := by
  obtain ⟨g, h1, h2⟩ := h
  exact ⟨g, h1, by omega⟩
def rHeld (c : Nat) (hc hm : sh_H) (s o b w : Nat) : Prop := hc.1 7 s 8 = hm.1 16 0 w ∧ (¬ hm.1 16 0 w = 0 → rSt hc hm s o b ∧ (∀ k, kT k → mS hm (o + k) = mS hm (0 + k)) ∧ IS c (sf hm o))
def rTx (h : sh_H) : Prop := (h.2.2.1 = 0 ∧ h.2.2.2.1 = 1) ∨ (h.2.2.1 = 1 ∧ h.2.2.2.1 = 0)
def St (c : Nat) (hc hm : sh_H) : Prop := RC hc ∧ rTx hc ∧ rTape hc hm ∧ hc.1 11 0 2 = hm.1 12 0 9 ∧ rText hc hm hc.2.2.1 0 ∧ rSt hc hm 0 0 0 ∧ IT (tf hm 0) ∧ IS c (sf hm 0) ∧ rHeld c hc hm 1 4000 6 2 ∧ rHeld c hc hm 2 6000 9 3
theorem tf_to {h h' : sh_H} {o o' : Nat} (e : ∀ k, kT k → mS h' (o' + k) = mS h (o + k)) : tf h' o' = tf h o := by
  funext k
  unfold tf
  by_cases q : kT k
  · rw [if_pos q, if_pos q, e k q]
  · rw [if_neg q, if_neg q]
theorem sf_to {h h' : sh_H} {o o' : Nat} (e : ∀ k, kT k ∨ kS k → mS h' (o' + k) = mS h (o + k)) : sf h' o' = sf h o := by
  funext k
  unfold sf
  by_cases q : kT k ∨ kS k
  · rw [if_pos q, if_pos q, e k q]
  · rw [if_neg q, if_neg q]
theorem lcC_of {c i : Nat} : lcC c i = true ↔ (c < 12 ∨ (c = 13 ∧ i < 42) ∨ (c = 14 ∧ i < 5) ∨ c = 15) := by
  unfold lcC
  simp only [Bool.or_eq_true, Bool.and_eq_true, Nat.blt_eq, Nat.beq_eq]
  omega
theorem lcC_no {c i : Nat} : lcC c i = false ↔ ¬ (c < 12 ∨ (c = 13 ∧ i < 42) ∨ (c = 14 ∧ i < 5) ∨ c = 15) := by
  rw [← lcC_of]; cases lcC c i <;> simp
theorem mEq_mS {h g : sh_H} (e : mEq h g) (k : Nat) : mS h k = mS g k := e.1 13 46 (by decide) k
theorem mEq.rf (h : sh_H) : mEq h h := ⟨fun _ _ _ _ => rfl, fun _ _ _ _ => rfl, rfl⟩
theorem mEq.tr {a b c : sh_H} (x : mEq a b) (y : mEq b c) : mEq a c := ⟨fun c i h j => (x.1 c i h j).trans (y.1 c i h j), fun c i h j => (x.2.1 c i h j).trans (y.2.1 c i h j), x.2.2.trans y.2.2⟩
theorem cEq.rf (h : sh_H) : cEq h h := ⟨fun _ _ _ _ => rfl, fun _ _ _ _ => rfl, rfl, rfl⟩
theorem cEq.tr {a b c : sh_H} (x : cEq a b) (y : cEq b c) : cEq a c := ⟨fun c i h j => (x.1 c i h j).trans (y.1 c i h j), fun c i h j => (x.2.1 c i h j).trans (y.2.1 c i h j), x.2.2.1.trans y.2.2.1, x.2.2.2.trans y.2.2.2⟩
theorem xEq.rf (h : sh_H) : xEq h h := ⟨fun _ => rfl, rfl⟩
theorem xEq.tr {a b c : sh_H} (x : xEq a b) (y : xEq b c) : xEq a c := ⟨fun j => (x.1 j).trans (y.1 j), x.2.trans y.2⟩
theorem mEq.x {a b : sh_H} (x : mEq a b) : xEq a b := ⟨fun j => x.1 17 0 (by decide) j, x.2.2⟩
theorem mEq_pI {h g : sh_H} {c i j : Nat} {v : Int32} (hc : lcC c i = true) (e : mEq h g) : mEq (sh_pI h c i j v) g := by
  refine ⟨fun c' i' h' j' => ?_, e.2.1, e.2.2⟩
  rw [pI_1, if_neg (fun q => by rw [q.1, q.2.1, hc] at h'; cases h')]
  exact e.1 c' i' h' j'
theorem mEq_pJ {h g : sh_H} {c i j : Nat} {v : Int64} (hc : lcC c i = true) (e : mEq h g) : mEq (sh_pJ h c i j v) g := by
  refine ⟨e.1, fun c' i' h' j' => ?_, e.2.2⟩
  rw [pJ_2, if_neg (fun q => by rw [q.1, q.2.1, hc] at h'; cases h')]
  exact e.2.1 c' i' h' j'
theorem cEq_pI {h g : sh_H} {c i j : Nat} {v : Int32} (hc : lcC c i = false) (e : cEq h g) : cEq (sh_pI h c i j v) g := by
  refine ⟨fun c' i' h' j' => ?_, e.2.1, e.2.2⟩
  rw [pI_1, if_neg (fun q => by rw [q.1, q.2.1, hc] at h'; cases h')]
  exact e.1 c' i' h' j'
theorem cEq_pJ {h g : sh_H} {c i j : Nat} {v : Int64} (hc : lcC c i = false) (e : cEq h g) : cEq (sh_pJ h c i j v) g := by
  refine ⟨e.1, fun c' i' h' j' => ?_, e.2.2⟩
  rw [pJ_2, if_neg (fun q => by rw [q.1, q.2.1, hc] at h'; cases h')]
  exact e.2.1 c' i' h' j'
theorem xEq_pI {h g : sh_H} {c i j : Nat} {v : Int32} (hc : c ≠ 17) (e : xEq h g) : xEq (sh_pI h c i j v) g := by
  refine ⟨fun j' => ?_, e.2⟩
  rw [pI_1, if_neg (fun q => hc q.1.symm)]
  exact e.1 j'
theorem xEq_pJ {h g : sh_H} {c i j : Nat} {v : Int64} (e : xEq h g) : xEq (sh_pJ h c i j v) g := ⟨e.1, e.2⟩
/-- only the model's locations of hm count -/
theorem St_m {c : Nat} {hc hm hm' : sh_H} (e : mEq hm' hm) (h : St c hc hm) : St c hc hm' := by
  obtain ⟨h1, h2, ⟨n, t1, t2, t3, t4⟩, h4, h5, h6, h7, h8, h9, h10⟩ := h
  have hs : ∀ k, mS hm' k = mS hm k := mEq_mS e
  have ht : ∀ h : rTx hc, hc.2.2.1 < 2 := fun h => by rcases h with h | h <;> omega
  have st : ∀ s o b, rSt hc hm s o b → rSt hc hm' s o b := fun s o b h => rSt_to (fun _ _ => rfl) (fun _ _ _ _ => rfl) rfl (fun _ _ _ => rfl) (fun k _ => hs _) (fun k _ => e.2.1 14 6 (by decide) _) h
  have he : ∀ s o b w, rHeld c hc hm s o b w → rHeld c hc hm' s o b w := by
    intro s o b w h
    have ew : hm'.1 16 0 w = hm.1 16 0 w := e.1 16 0 (by decide) w
    refine ⟨by rw [ew]; exact h.1, fun q => ?_⟩
    rw [ew] at q
    obtain ⟨a1, a2, a3⟩ := h.2 q
    exact ⟨st _ _ _ a1, fun k hk => by rw [hs, hs]; exact a2 k hk, by rw [sf_to (h := hm) (fun k _ => hs _)]; exact a3⟩
  refine ⟨h1, h2, ⟨n, t1, t2, ?_, fun i hi => ?_⟩, ?_, rText_to (ht h2) (fun _ _ _ _ => rfl) (fun k _ => hs _) h5, st _ _ _ h6, ?_, ?_, he _ _ _ _ h9, he _ _ _ _ h10⟩
  · rw [e.1 12 0 (by decide)]; exact t3
  · rw [e.1 13 42 (by decide)]; exact t4 i hi
  · rw [e.1 12 0 (by decide)]; exact h4
  · rw [tf_to (h := hm) (fun k _ => hs _)]; exact h7
  · rw [sf_to (h := hm) (fun k _ => hs _)]; exact h8
/-- only the class's locations of hc count -/
theorem St_c {c : Nat} {hc hc' hm : sh_H} (e : cEq hc' hc) (h : St c hc hm) : St c hc' hm := by
  obtain ⟨h1, h2, ⟨n, t1, t2, t3, t4⟩, h4, h5, h6, h7, h8, h9, h10⟩ := h
  have ht : ∀ h : rTx hc, hc.2.2.1 < 2 := fun h => by rcases h with h | h <;> omega
  have st : ∀ s o b, s < 3 → rSt hc hm s o b → rSt hc' hm s o b := fun s o b hs h => rSt_to (fun d hd => e.1 6 _ (lcC_of.mpr (by omega)) _) (fun d hd j _ => e.1 13 _ (lcC_of.mpr (by omega)) _) (e.1 7 _ (lcC_of.mpr (by omega)) _) (fun j _ _ => e.2.1 7 _ (lcC_of.mpr (by omega)) _) (fun k _ => rfl) (fun k _ => rfl) h
  have he : ∀ s o b w, s < 3 → rHeld c hc hm s o b w → rHeld c hc' hm s o b w := by
    intro s o b w hs h
    refine ⟨by rw [e.1 7 s (lcC_of.mpr (by omega))]; exact h.1, fun q => ?_⟩
    obtain ⟨a1, a2, a3⟩ := h.2 q
    exact ⟨st _ _ _ hs a1, a2, a3⟩
  refine ⟨fun r hr => ?_, ?_, ⟨n, t1, ?_, t3, fun i hi => ?_⟩, ?_, ?_, st _ _ _ (by omega) h6, h7, h8, he _ _ _ _ (by omega) h9, he _ _ _ _ (by omega) h10⟩
  · rw [e.1 6 r (lcC_of.mpr (by omega)), e.1 6 r (lcC_of.mpr (by omega))]; exact h1 r hr
  · unfold rTx; rw [e.2.2.1, e.2.2.2]; exact h2
  · rw [e.1 11 0 (by decide)]; exact t2
  · rw [e.1 15 0 (by decide)]; exact t4 i hi
  · rw [e.1 11 0 (by decide)]; exact h4
  · rw [e.2.2.1]
    exact rText_to (ht h2) (fun c i j q => e.1 c i (lcC_of.mpr (by have := ht h2; unfold lT at q; omega)) j) (fun _ _ => rfl) h5
theorem St_up {c : Nat} {hc hm : sh_H} (h : St c hc hm) : St (c + 1) hc hm := by
  obtain ⟨h1, h2, h3, h4, h5, h6, h7, h8, h9, h10⟩ := h
  exact ⟨h1, h2, h3, h4, h5, h6, h7, IS_up h8, ⟨h9.1, fun q => ⟨(h9.2 q).1, (h9.2 q).2.1, IS_up (h9.2 q).2.2⟩⟩, ⟨h10.1, fun q => ⟨(h10.2 q).1, (h10.2 q).2.1, IS_up (h10.2 q).2.2⟩⟩⟩
/-- class and model answer the same, and stay alike -/
def Pair {α : Type} (F G : sh_H → Option (α × sh_H)) : Prop := ∀ c hc hm, c < 512 → St c hc hm → ∃ r hc' hm', F hc = some (r, hc') ∧ G hm = some (r, hm') ∧ St (c + 1) hc' hm' ∧ mEq hc' hc ∧ cEq hm' hm ∧ xEq hm' hm
def PairR {α : Type} (F G : sh_H → Option α) : Prop := ∀ c hc hm, c < 512 → St c hc hm → ∃ r, F hc = some r ∧ G hm = some r
/-- one call of the law: the class, then the model, both on one heap -/
theorem Pair.law {α : Type} {F G : sh_H → Option (α × sh_H)} (p : Pair F G) {c : Nat} {h : sh_H} (hc : c < 512) (hS : St c h h) : ∃ r h1 h2, F h = some (r, h1) ∧ G h1 = some (r, h2) ∧ St (c + 1) h2 h2 ∧ xEq h1 h ∧ xEq h2 h := by
  obtain ⟨r, h1, g1, a1, -, -, a4, -, -⟩ := p c h h hc hS
  obtain ⟨r', h1', h2, b1, b2, b3, b4, b5, b6⟩ := p c h h1 hc (St_m a4 hS)
  rw [a1] at b1
  obtain ⟨rfl, rfl⟩ := Prod.mk.inj (Option.some.inj b1)
  exact ⟨r, h1, h2, a1, b2, St_c b5 b3, a4.x, b6.tr a4.x⟩
