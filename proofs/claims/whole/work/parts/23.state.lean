/-! THE WHOLE RELATION: c calls so far -/
def tf (h : sh_H) (o k : Nat) : Int32 := if kT k then mS h (o + k) else 0
def sf (h : sh_H) (o k : Nat) : Int32 := if kT k ∨ kS k then mS h (o + k) else 0
/-- what is known of a cell: its bounds; a place; a kind; the steps of a formula -/
def rg (f : Nat → Int32) (k a b : Nat) : Prop := ∃ v, a ≤ v ∧ v ≤ b ∧ f k = nI v
def pl (f : Nat → Int32) (a k : Nat) : Prop := ∃ p m, a ≤ p ∧ p ≤ m ∧ m ≤ 4 ∧ f k = nI p ∧ f 1 = nI m
def kd (f : Nat → Int32) (k : Nat) : Prop := ∃ a m, a < m ∧ m ≤ 6 ∧ f k = nI a ∧ f 0 = nI m
/-- a step, and how deep the stack is before and behind it -/
def fst1 (f : Nat → Int32) (d : Nat → Nat) (k : Nat) : Prop := (∃ o v, o < 2 ∧ v ≤ 9999 ∧ (o = 1 → v < 4) ∧ f (1000 + k) = nI o ∧ f (1500 + k) = nI v ∧ d k < 32 ∧ d (k + 1) = d k + 1) ∨ (∃ o, 2 ≤ o ∧ o < 8 ∧ f (1000 + k) = nI o ∧ 2 ≤ d k ∧ d (k + 1) + 1 = d k)
def FE (f : Nat → Int32) (c : Nat) : Prop := ∃ a b n, a ≤ b ∧ b ≤ n ∧ n ≤ 400 ∧ f 10 = nI n ∧ f c = nI a ∧ f (c + 1) = nI b ∧ ∃ d : Nat → Nat, d a = 0 ∧ d b = 1 ∧ ∀ k, a ≤ k → k < b → fst1 f d k
def ITk (f : Nat → Int32) : Prop := ∃ n, n ≤ 6 ∧ f 0 = nI n ∧ ∀ r, r < n → rg f (20 + 3 * r) 1 500 ∧ rg f (21 + 3 * r) 1 20 ∧ rg f (22 + 3 * r) 0 99
def ITi (f : Nat → Int32) : Prop := ∃ n, n ≤ 4 ∧ f 1 = nI n ∧ ∀ r, r < n → rg f (40 + 2 * r) 0 60 ∧ rg f (41 + 2 * r) 0 99
def ITw (f : Nat → Int32) (j b : Nat) : Prop := ∃ n, n ≤ 12 ∧ f j = nI n ∧ ∀ r, r < n → pl f 1 (b + 4 * r) ∧ kd f (b + 4 * r + 1) ∧ FE f (b + 4 * r + 2)
def ITf (f : Nat → Int32) : Prop := ∃ n, n ≤ 12 ∧ f 4 = nI n ∧ ∀ r, r < n → pl f 0 (150 + 5 * r) ∧ pl f 0 (151 + 5 * r) ∧ kd f (152 + 5 * r) ∧ FE f (153 + 5 * r)
def ITe (f : Nat → Int32) : Prop := ∃ n, n ≤ 12 ∧ f 5 = nI n ∧ ∀ r, r < n → kd f (210 + 3 * r) ∧ FE f (211 + 3 * r)
def ITb (f : Nat → Int32) : Prop := ∃ n, n ≤ 12 ∧ f 6 = nI n ∧ ∀ r, r < n → pl f 1 (250 + 5 * r) ∧ rg f (251 + 5 * r) 0 11 ∧ rg f (252 + 5 * r) 1 999 ∧ rg f (253 + 5 * r) 0 999 ∧ rg f (254 + 5 * r) 0 10
/-- of a text's cells (f k: the cell k of the model's state) -/
def IT (f : Nat → Int32) : Prop := ITk f ∧ ITi f ∧ ITw f 2 50 ∧ ITw f 3 100 ∧ ITf f ∧ ITe f ∧ ITb f
def BKi (f : Nat → Int32) (i : Nat) : Prop := (∃ a, a < 2 ∧ f (550 + 4 * i) = nI a ∧ pl f 1 (551 + 4 * i) ∧ kd f (552 + 4 * i) ∧ rg f (553 + 4 * i) 0 9999) ∨ (f (550 + 4 * i) = nI 2 ∧ pl f 1 (551 + 4 * i) ∧ ∃ m w, m ≤ 60 ∧ w ≤ m ∧ f (552 + 4 * i) = nI m ∧ f (553 + 4 * i) = nI w) ∨ (f (550 + 4 * i) = nI 3 ∧ ∃ r, r < i ∧ f (551 + 4 * i) = nI r)
def SDi (f : Nat → Int32) (i : Nat) : Prop := rg f (310 + 6 * i) 0 239 ∧ pl f 1 (311 + 6 * i) ∧ kd f (312 + 6 * i) ∧ rg f (313 + 6 * i) 1 9999 ∧ rg f (314 + 6 * i) 0 1
/-- of a state's sendings, books and time -/
def SN (f : Nat → Int32) : Prop := rg f 9 0 240 ∧ (∃ n, n ≤ 40 ∧ f 7 = nI n ∧ ∀ i, i < n → SDi f i) ∧ (∃ n, n ≤ 60 ∧ f 8 = nI n ∧ ∀ i, i < n → BKi f i)
/-- of a state's cells behind c calls -/
def IS (c : Nat) (f : Nat → Int32) : Prop := (∃ g : Nat → Nat, (∀ q, q < 120 → f (800 + q) = nI (g q)) ∧ sumN g 120 ≤ 9999 * c) ∧ SN f
theorem IS_up {c : Nat} {f : Nat → Int32} (h : IS c f) : IS (c + 1) f := by
  obtain ⟨⟨g, h1, h2⟩, h3⟩ := h
  exact ⟨⟨g, h1, by omega⟩, h3⟩
theorem rg_to {f g : Nat → Int32} {k a b : Nat} (e : g k = f k) (h : rg f k a b) : rg g k a b := by
  obtain ⟨v, h1, h2, h3⟩ := h
  exact ⟨v, h1, h2, e.trans h3⟩
theorem pl_to {f g : Nat → Int32} {a k : Nat} (e : g k = f k) (e1 : g 1 = f 1) (h : pl f a k) : pl g a k := by
  obtain ⟨p, m, h1, h2, h3, h4, h5⟩ := h
  exact ⟨p, m, h1, h2, h3, e.trans h4, e1.trans h5⟩
theorem kd_to {f g : Nat → Int32} {k : Nat} (e : g k = f k) (e1 : g 0 = f 0) (h : kd f k) : kd g k := by
  obtain ⟨p, m, h1, h2, h3, h4⟩ := h
  exact ⟨p, m, h1, h2, e.trans h3, e1.trans h4⟩
theorem FE_to {f g : Nat → Int32} {c : Nat} (e : g c = f c) (e1 : g (c + 1) = f (c + 1)) (e2 : g 10 = f 10) (e3 : ∀ k, 1000 ≤ k → k < 2000 → g k = f k) (h : FE f c) : FE g c := by
  obtain ⟨a, b, n, h1, h2, h3, h4, h5, h6, d, d1, d2, d3⟩ := h
  refine ⟨a, b, n, h1, h2, h3, e2.trans h4, e.trans h5, e1.trans h6, d, d1, d2, fun k k1 k2 => ?_⟩
  rcases d3 k k1 k2 with ⟨o, v, o1, o2, o3, o4, o5, o6⟩ | ⟨o, o1, o2, o3, o4⟩
  · exact Or.inl ⟨o, v, o1, o2, o3, (e3 _ (by omega) (by omega)).trans o4, (e3 _ (by omega) (by omega)).trans o5, o6⟩
  · exact Or.inr ⟨o, o1, o2, (e3 _ (by omega) (by omega)).trans o3, o4⟩
theorem ITw_to {f g : Nat → Int32} {j b : Nat} (e : ∀ k, kT k → g k = f k) (hj : j < 7) (hb : 20 ≤ b) (hb2 : b ≤ 250) (h : ITw f j b) : ITw g j b := by
  have e3 : ∀ k, 1000 ≤ k → k < 2000 → g k = f k := fun k h1 h2 => e k (Or.inr (Or.inr (Or.inr ⟨h1, h2⟩)))
  have e2 : ∀ k, 20 ≤ k → k < 310 → g k = f k := fun k h1 h2 => e k (Or.inr (Or.inr (Or.inl ⟨h1, h2⟩)))
  obtain ⟨n, h1, h2, h3⟩ := h
  refine ⟨n, h1, (e j (Or.inl hj)).trans h2, fun r hr => ?_⟩
  obtain ⟨p1, p2, p3⟩ := h3 r hr
  exact ⟨pl_to (e2 _ (by omega) (by omega)) (e 1 (Or.inl (by omega))) p1, kd_to (e2 _ (by omega) (by omega)) (e 0 (Or.inl (by omega))) p2, FE_to (e2 _ (by omega) (by omega)) (e2 _ (by omega) (by omega)) (e 10 (Or.inr (Or.inl rfl))) e3 p3⟩
theorem IT_to {f g : Nat → Int32} (e : ∀ k, kT k → g k = f k) (h : IT f) : IT g := by
  have e3 : ∀ k, 1000 ≤ k → k < 2000 → g k = f k := fun k h1 h2 => e k (Or.inr (Or.inr (Or.inr ⟨h1, h2⟩)))
  have e2 : ∀ k, 20 ≤ k → k < 310 → g k = f k := fun k h1 h2 => e k (Or.inr (Or.inr (Or.inl ⟨h1, h2⟩)))
  have e0 : g 0 = f 0 := e 0 (Or.inl (by omega))
  have e1 : g 1 = f 1 := e 1 (Or.inl (by omega))
  have e10 : g 10 = f 10 := e 10 (Or.inr (Or.inl rfl))
  obtain ⟨⟨n1, a1, a2, a3⟩, ⟨n2, b1, b2, b3⟩, h3, h4, ⟨n5, c1, c2, c3⟩, ⟨n6, d1, d2, d3⟩, ⟨n7, g1, g2, g3⟩⟩ := h
  refine ⟨⟨n1, a1, e0.trans a2, fun r hr => ?_⟩, ⟨n2, b1, e1.trans b2, fun r hr => ?_⟩, ITw_to e (by omega) (by omega) (by omega) h3, ITw_to e (by omega) (by omega) (by omega) h4, ⟨n5, c1, (e 4 (Or.inl (by omega))).trans c2, fun r hr => ?_⟩, ⟨n6, d1, (e 5 (Or.inl (by omega))).trans d2, fun r hr => ?_⟩, ⟨n7, g1, (e 6 (Or.inl (by omega))).trans g2, fun r hr => ?_⟩⟩
  · obtain ⟨p1, p2, p3⟩ := a3 r hr
    exact ⟨rg_to (e2 _ (by omega) (by omega)) p1, rg_to (e2 _ (by omega) (by omega)) p2, rg_to (e2 _ (by omega) (by omega)) p3⟩
  · obtain ⟨p1, p2⟩ := b3 r hr
    exact ⟨rg_to (e2 _ (by omega) (by omega)) p1, rg_to (e2 _ (by omega) (by omega)) p2⟩
  · obtain ⟨p1, p2, p3, p4⟩ := c3 r hr
    exact ⟨pl_to (e2 _ (by omega) (by omega)) e1 p1, pl_to (e2 _ (by omega) (by omega)) e1 p2, kd_to (e2 _ (by omega) (by omega)) e0 p3, FE_to (e2 _ (by omega) (by omega)) (e2 _ (by omega) (by omega)) e10 e3 p4⟩
  · obtain ⟨p1, p2⟩ := d3 r hr
    exact ⟨kd_to (e2 _ (by omega) (by omega)) e0 p1, FE_to (e2 _ (by omega) (by omega)) (e2 _ (by omega) (by omega)) e10 e3 p2⟩
  · obtain ⟨p1, p2, p3, p4, p5⟩ := g3 r hr
    exact ⟨pl_to (e2 _ (by omega) (by omega)) e1 p1, rg_to (e2 _ (by omega) (by omega)) p2, rg_to (e2 _ (by omega) (by omega)) p3, rg_to (e2 _ (by omega) (by omega)) p4, rg_to (e2 _ (by omega) (by omega)) p5⟩
theorem SD_to {f g : Nat → Int32} {i : Nat} (e : ∀ k, 310 ≤ k → k < 550 → g k = f k) (e0 : g 0 = f 0) (e1 : g 1 = f 1) (hi : i < 40) (h : SDi f i) : SDi g i := by
  obtain ⟨p1, p2, p3, p4, p5⟩ := h
  exact ⟨rg_to (e _ (by omega) (by omega)) p1, pl_to (e _ (by omega) (by omega)) e1 p2, kd_to (e _ (by omega) (by omega)) e0 p3, rg_to (e _ (by omega) (by omega)) p4, rg_to (e _ (by omega) (by omega)) p5⟩
theorem BK_to {f g : Nat → Int32} {i : Nat} (e : ∀ k, 550 ≤ k → k < 800 → g k = f k) (e0 : g 0 = f 0) (e1 : g 1 = f 1) (hi : i < 60) (h : BKi f i) : BKi g i := by
  rcases h with ⟨a, a1, a2, a3, a4, a5⟩ | ⟨a1, a2, m, w, a3, a4, a5, a6⟩ | ⟨a1, r, a2, a3⟩
  · exact Or.inl ⟨a, a1, (e _ (by omega) (by omega)).trans a2, pl_to (e _ (by omega) (by omega)) e1 a3, kd_to (e _ (by omega) (by omega)) e0 a4, rg_to (e _ (by omega) (by omega)) a5⟩
  · exact Or.inr (Or.inl ⟨(e _ (by omega) (by omega)).trans a1, pl_to (e _ (by omega) (by omega)) e1 a2, m, w, a3, a4, (e _ (by omega) (by omega)).trans a5, (e _ (by omega) (by omega)).trans a6⟩)
  · exact Or.inr (Or.inr ⟨(e _ (by omega) (by omega)).trans a1, r, a2, (e _ (by omega) (by omega)).trans a3⟩)
theorem SN_to {f g : Nat → Int32} (e : ∀ k, k < 10 ∨ (310 ≤ k ∧ k < 800) → g k = f k) (h : SN f) : SN g := by
  obtain ⟨h1, ⟨n, n1, n2, n3⟩, ⟨m, m1, m2, m3⟩⟩ := h
  refine ⟨rg_to (e 9 (by omega)) h1, ⟨n, n1, (e 7 (by omega)).trans n2, fun i hi => SD_to (fun k h1 h2 => e k (by omega)) (e 0 (by omega)) (e 1 (by omega)) (by omega) (n3 i hi)⟩, ⟨m, m1, (e 8 (by omega)).trans m2, fun i hi => BK_to (fun k h1 h2 => e k (by omega)) (e 0 (by omega)) (e 1 (by omega)) (by omega) (m3 i hi)⟩⟩
theorem IS_to {c : Nat} {f g : Nat → Int32} (e : ∀ k, kT k ∨ kS k → g k = f k) (h : IS c f) : IS c g := by
  obtain ⟨⟨p, p1, p2⟩, h3⟩ := h
  exact ⟨⟨p, fun q hq => (e _ (Or.inr (Or.inr (by omega)))).trans (p1 q hq), p2⟩, SN_to (fun k hk => e k (by unfold kT kS; omega)) h3⟩
def rHeld (c : Nat) (hc hm : sh_H) (s o b w : Nat) : Prop := hc.1 7 s 8 = hm.1 16 0 w ∧ (¬ hm.1 16 0 w = 0 → rSt hc hm s o b ∧ (∀ k, kT k → mS hm (o + k) = mS hm (0 + k)) ∧ IS c (sf hm o))
/-- the strings: the words, the signs -/
def rStr (h : sh_H) : Prop := ∀ i j, h.1 19 i j = (ai_sbyt.getD i []).getD j 0
def rTx (h : sh_H) : Prop := (h.2.2.1 = 0 ∧ h.2.2.2.1 = 1 ∧ rStr h) ∨ (h.2.2.1 = 1 ∧ h.2.2.2.1 = 0 ∧ rStr h)
theorem rTx_to {h g : sh_H} (e1 : h.2.2.1 = g.2.2.1) (e2 : h.2.2.2.1 = g.2.2.2.1) (e3 : ∀ i j, h.1 19 i j = g.1 19 i j) (x : rTx g) : rTx h := by
  rcases x with ⟨a, b, s⟩ | ⟨a, b, s⟩
  · exact Or.inl ⟨e1.trans a, e2.trans b, fun i j => (e3 i j).trans (s i j)⟩
  · exact Or.inr ⟨e1.trans a, e2.trans b, fun i j => (e3 i j).trans (s i j)⟩
theorem rTx.str {h : sh_H} (x : rTx h) : rStr h := by
  rcases x with ⟨-, -, s⟩ | ⟨-, -, s⟩ <;> exact s
def St (c : Nat) (hc hm : sh_H) : Prop := RC hc ∧ rTx hc ∧ rTape hc hm ∧ hc.1 11 0 2 = hm.1 12 0 9 ∧ rText hc hm hc.2.2.1 0 ∧ rSt hc hm 0 0 0 ∧ IT (tf hm 0) ∧ IS c (sf hm 0) ∧ rHeld c hc hm 1 4000 6 2 ∧ rHeld c hc hm 2 6000 9 3
theorem tf_to {h h' : sh_H} {o o' : Nat} (e : ∀ k, kT k → mS h' (o' + k) = mS h (o + k)) : tf h' o' = tf h o := by
  funext k
  unfold tf
  by_cases q : kT k
  · rw [if_pos q, if_pos q, e k q]
  · rw [if_neg q, if_neg q]
theorem sf_to {h h' : sh_H} {o o' : Nat} (e : ∀ k, kT k ∨ kS k → mS h' (o' + k) = mS h (o + k)) : sf h' o' = sf h o := by
  funext k
  unfold sf
  by_cases q : kT k ∨ kS k
  · rw [if_pos q, if_pos q, e k q]
  · rw [if_neg q, if_neg q]
theorem lcC_of {c i : Nat} : lcC c i = true ↔ (c < 12 ∨ (c = 13 ∧ i < 42) ∨ (c = 14 ∧ i < 5) ∨ c = 15 ∨ c = 19) := by
  unfold lcC
  simp only [Bool.or_eq_true, Bool.and_eq_true, Nat.blt_eq, Nat.beq_eq]
  omega
theorem lcC_no {c i : Nat} : lcC c i = false ↔ ¬ (c < 12 ∨ (c = 13 ∧ i < 42) ∨ (c = 14 ∧ i < 5) ∨ c = 15 ∨ c = 19) := by
  rw [← lcC_of]; cases lcC c i <;> simp
theorem mEq_mS {h g : sh_H} (e : mEq h g) (k : Nat) : mS h k = mS g k := e.1 13 46 (by decide) k
theorem mEq.rf (h : sh_H) : mEq h h := ⟨fun _ _ _ _ => rfl, fun _ _ _ _ => rfl, rfl⟩
theorem mEq.tr {a b c : sh_H} (x : mEq a b) (y : mEq b c) : mEq a c := ⟨fun c i h j => (x.1 c i h j).trans (y.1 c i h j), fun c i h j => (x.2.1 c i h j).trans (y.2.1 c i h j), x.2.2.trans y.2.2⟩
theorem cEq.rf (h : sh_H) : cEq h h := ⟨fun _ _ _ _ => rfl, fun _ _ _ _ => rfl, rfl, rfl⟩
theorem cEq.tr {a b c : sh_H} (x : cEq a b) (y : cEq b c) : cEq a c := ⟨fun c i h j => (x.1 c i h j).trans (y.1 c i h j), fun c i h j => (x.2.1 c i h j).trans (y.2.1 c i h j), x.2.2.1.trans y.2.2.1, x.2.2.2.trans y.2.2.2⟩
theorem xEq.rf (h : sh_H) : xEq h h := ⟨fun _ => rfl, rfl⟩
theorem xEq.tr {a b c : sh_H} (x : xEq a b) (y : xEq b c) : xEq a c := ⟨fun j => (x.1 j).trans (y.1 j), x.2.trans y.2⟩
theorem mEq.x {a b : sh_H} (x : mEq a b) : xEq a b := ⟨fun j => x.1 17 0 (by decide) j, x.2.2⟩
theorem mEq_pI {h g : sh_H} {c i j : Nat} {v : Int32} (hc : lcC c i = true) (e : mEq h g) : mEq (sh_pI h c i j v) g := by
  refine ⟨fun c' i' h' j' => ?_, e.2.1, e.2.2⟩
  rw [pI_1, if_neg (fun q => by rw [q.1, q.2.1, hc] at h'; cases h')]
  exact e.1 c' i' h' j'
theorem mEq_pJ {h g : sh_H} {c i j : Nat} {v : Int64} (hc : lcC c i = true) (e : mEq h g) : mEq (sh_pJ h c i j v) g := by
  refine ⟨e.1, fun c' i' h' j' => ?_, e.2.2⟩
  rw [pJ_2, if_neg (fun q => by rw [q.1, q.2.1, hc] at h'; cases h')]
  exact e.2.1 c' i' h' j'
theorem cEq_pI {h g : sh_H} {c i j : Nat} {v : Int32} (hc : lcC c i = false) (e : cEq h g) : cEq (sh_pI h c i j v) g := by
  refine ⟨fun c' i' h' j' => ?_, e.2.1, e.2.2⟩
  rw [pI_1, if_neg (fun q => by rw [q.1, q.2.1, hc] at h'; cases h')]
  exact e.1 c' i' h' j'
theorem cEq_pJ {h g : sh_H} {c i j : Nat} {v : Int64} (hc : lcC c i = false) (e : cEq h g) : cEq (sh_pJ h c i j v) g := by
  refine ⟨e.1, fun c' i' h' j' => ?_, e.2.2⟩
  rw [pJ_2, if_neg (fun q => by rw [q.1, q.2.1, hc] at h'; cases h')]
  exact e.2.1 c' i' h' j'
theorem xEq_pI {h g : sh_H} {c i j : Nat} {v : Int32} (hc : c ≠ 17) (e : xEq h g) : xEq (sh_pI h c i j v) g := by
  refine ⟨fun j' => ?_, e.2⟩
  rw [pI_1, if_neg (fun q => hc q.1.symm)]
  exact e.1 j'
theorem xEq_pJ {h g : sh_H} {c i j : Nat} {v : Int64} (e : xEq h g) : xEq (sh_pJ h c i j v) g := ⟨e.1, e.2⟩
/-- only the model's locations of hm count -/
theorem St_m {c : Nat} {hc hm hm' : sh_H} (e : mEq hm' hm) (h : St c hc hm) : St c hc hm' := by
  obtain ⟨h1, h2, ⟨n, t1, t2, t3, t4⟩, h4, h5, h6, h7, h8, h9, h10⟩ := h
  have hs : ∀ k, mS hm' k = mS hm k := mEq_mS e
  have ht : ∀ h : rTx hc, hc.2.2.1 < 2 := fun h => by rcases h with h | h <;> omega
  have st : ∀ s o b, rSt hc hm s o b → rSt hc hm' s o b := fun s o b h => rSt_to (fun _ _ => rfl) (fun _ _ _ _ => rfl) rfl (fun _ _ _ => rfl) (fun k _ => hs _) (fun k _ => e.2.1 14 6 (by decide) _) h
  have he : ∀ s o b w, rHeld c hc hm s o b w → rHeld c hc hm' s o b w := by
    intro s o b w h
    have ew : hm'.1 16 0 w = hm.1 16 0 w := e.1 16 0 (by decide) w
    refine ⟨by rw [ew]; exact h.1, fun q => ?_⟩
    rw [ew] at q
    obtain ⟨a1, a2, a3⟩ := h.2 q
    exact ⟨st _ _ _ a1, fun k hk => by rw [hs, hs]; exact a2 k hk, by rw [sf_to (h := hm) (fun k _ => hs _)]; exact a3⟩
  refine ⟨h1, h2, ⟨n, t1, t2, ?_, fun i hi => ?_⟩, ?_, rText_to (ht h2) (fun _ _ _ _ _ => rfl) (fun k _ => hs _) h5, st _ _ _ h6, ?_, ?_, he _ _ _ _ h9, he _ _ _ _ h10⟩
  · rw [e.1 12 0 (by decide)]; exact t3
  · rw [e.1 13 42 (by decide)]; exact t4 i hi
  · rw [e.1 12 0 (by decide)]; exact h4
  · rw [tf_to (h := hm) (fun k _ => hs _)]; exact h7
  · rw [sf_to (h := hm) (fun k _ => hs _)]; exact h8
/-- only the class's locations of hc count -/
theorem St_c {c : Nat} {hc hc' hm : sh_H} (e : cEq hc' hc) (h : St c hc hm) : St c hc' hm := by
  obtain ⟨h1, h2, ⟨n, t1, t2, t3, t4⟩, h4, h5, h6, h7, h8, h9, h10⟩ := h
  have ht : ∀ h : rTx hc, hc.2.2.1 < 2 := fun h => by rcases h with h | h <;> omega
  have st : ∀ s o b, s < 3 → rSt hc hm s o b → rSt hc' hm s o b := fun s o b hs h => rSt_to (fun d hd => e.1 6 _ (lcC_of.mpr (by omega)) _) (fun d hd j _ => e.1 13 _ (lcC_of.mpr (by omega)) _) (e.1 7 _ (lcC_of.mpr (by omega)) _) (fun j _ _ => e.2.1 7 _ (lcC_of.mpr (by omega)) _) (fun k _ => rfl) (fun k _ => rfl) h
  have he : ∀ s o b w, s < 3 → rHeld c hc hm s o b w → rHeld c hc' hm s o b w := by
    intro s o b w hs h
    refine ⟨by rw [e.1 7 s (lcC_of.mpr (by omega))]; exact h.1, fun q => ?_⟩
    obtain ⟨a1, a2, a3⟩ := h.2 q
    exact ⟨st _ _ _ hs a1, a2, a3⟩
  refine ⟨fun r hr => ?_, ?_, ⟨n, t1, ?_, t3, fun i hi => ?_⟩, ?_, ?_, st _ _ _ (by omega) h6, h7, h8, he _ _ _ _ (by omega) h9, he _ _ _ _ (by omega) h10⟩
  · rw [e.1 6 r (lcC_of.mpr (by omega)), e.1 6 r (lcC_of.mpr (by omega))]; exact h1 r hr
  · exact rTx_to e.2.2.1 e.2.2.2 (fun i j => e.1 19 i rfl j) h2
  · rw [e.1 11 0 (by decide)]; exact t2
  · rw [e.1 15 0 (by decide)]; exact t4 i hi
  · rw [e.1 11 0 (by decide)]; exact h4
  · rw [e.2.2.1]
    exact rText_to (ht h2) (fun c i j q _ => e.1 c i (lcC_of.mpr (by have := ht h2; unfold lT at q; omega)) j) (fun _ _ => rfl) h5
theorem St_up {c : Nat} {hc hm : sh_H} (h : St c hc hm) : St (c + 1) hc hm := by
  obtain ⟨h1, h2, h3, h4, h5, h6, h7, h8, h9, h10⟩ := h
  exact ⟨h1, h2, h3, h4, h5, h6, h7, IS_up h8, ⟨h9.1, fun q => ⟨(h9.2 q).1, (h9.2 q).2.1, IS_up (h9.2 q).2.2⟩⟩, ⟨h10.1, fun q => ⟨(h10.2 q).1, (h10.2 q).2.1, IS_up (h10.2 q).2.2⟩⟩⟩
/-- class and model answer the same, and stay alike -/
def Pair {α : Type} (F G : sh_H → Option (α × sh_H)) : Prop := ∀ c hc hm, c < 512 → St c hc hm → ∃ r hc' hm', F hc = some (r, hc') ∧ G hm = some (r, hm') ∧ St (c + 1) hc' hm' ∧ mEq hc' hc ∧ cEq hm' hm ∧ xEq hm' hm
def PairR {α : Type} (F G : sh_H → Option α) : Prop := ∀ c hc hm, c < 512 → St c hc hm → ∃ r, F hc = some r ∧ G hm = some r
/-- one call of the law: the class, then the model, both on one heap -/
theorem Pair.law {α : Type} {F G : sh_H → Option (α × sh_H)} (p : Pair F G) {c : Nat} {h : sh_H} (hc : c < 512) (hS : St c h h) : ∃ r h1 h2, F h = some (r, h1) ∧ G h1 = some (r, h2) ∧ St (c + 1) h2 h2 ∧ xEq h1 h ∧ xEq h2 h := by
  obtain ⟨r, h1, g1, a1, -, -, a4, -, -⟩ := p c h h hc hS
  obtain ⟨r', h1', h2, b1, b2, b3, b4, b5, b6⟩ := p c h h1 hc (St_m a4 hS)
  rw [a1] at b1
  obtain ⟨rfl, rfl⟩ := Prod.mk.inj (Option.some.inj b1)
  exact ⟨r, h1, h2, a1, b2, St_c b5 b3, a4.x, b6.tr a4.x⟩
