/-! WHAT ISLANDS SHARE: pure -/
def inb (u p : Nat) : Bool := decide (u / 2 ^ (p - 1) % 2 = 1)
def clr (u p : Nat) : Nat := if inb u p = true then u - 2 ^ (p - 1) else u
/-- wanted W, harm X: a place p takes of what is left -/
def sv (W X : Nat → Nat) (p : Nat) (s : Nat × Nat) : Nat × Nat := (s.1 - min s.1 (W p), s.2 + (W p - min s.1 (W p)) * X p)
def lev (W X : Nat → Nat) (u h : Nat) : Nat → Nat → Nat × Nat → Nat × Nat
  | 0, _, s => s
  | q + 1, p, s => lev W X u h q (p + 1) (if inb u p = true ∧ X p = h then sv W X p s else s)
def down (W X : Nat → Nat) (u n : Nat) : Nat → Nat × Nat → Nat × Nat
  | 0, s => s
  | h + 1, s => down W X u n h (lev W X u h n 1 s)
/-- the most harmed, 0 if there is none -/
def mh (X : Nat → Nat) (u : Nat) : Nat → Nat → Nat → Nat
  | 0, _, b => b
  | q + 1, p, b => mh X u q (p + 1) (if inb u p = true ∧ (b = 0 ∨ X b < X p) then p else b)
def srv (W X : Nat → Nat) (n : Nat) : Nat → Nat → Nat × Nat → Nat × Nat
  | 0, _, s => s
  | q + 1, u, s => if mh X u n 1 0 = 0 then srv W X n q u s else srv W X n q (clr u (mh X u n 1 0)) (sv W X (mh X u n 1 0) s)
theorem lev_no {W X : Nat → Nat} {u h : Nat} : ∀ {q p : Nat} {s : Nat × Nat}, (∀ r, p ≤ r → r < p + q → ¬ (inb u r = true ∧ X r = h)) → lev W X u h q p s = s := by
  intro q
  induction q with
  | zero => intro p s _; rfl
  | succ q ih =>
    intro p s hn
    unfold lev
    rw [if_neg (hn p (by omega) (by omega))]
    exact ih (fun r h1 h2 => hn r (by omega) (by omega))
theorem lev_same {W X : Nat → Nat} {u v h : Nat} : ∀ {q p : Nat} {s : Nat × Nat}, (∀ r, p ≤ r → r < p + q → ((inb u r = true ∧ X r = h) ↔ (inb v r = true ∧ X r = h))) → lev W X u h q p s = lev W X v h q p s := by
  intro q
  induction q with
  | zero => intro p s _; rfl
  | succ q ih =>
    intro p s hn
    unfold lev
    by_cases c : inb u p = true ∧ X p = h
    · rw [if_pos c, if_pos ((hn p (by omega) (by omega)).mp c)]
      exact ih (fun r h1 h2 => hn r (by omega) (by omega))
    · rw [if_neg c, if_neg (fun z => c ((hn p (by omega) (by omega)).mpr z))]
      exact ih (fun r h1 h2 => hn r (by omega) (by omega))
theorem lev_add {W X : Nat → Nat} {u h : Nat} : ∀ {q q' p : Nat} {s : Nat × Nat}, lev W X u h (q + q') p s = lev W X u h q' (p + q) (lev W X u h q p s) := by
  intro q
  induction q with
  | zero => intro q' p s; rw [Nat.zero_add]; rfl
  | succ q ih =>
    intro q' p s
    rw [show q + 1 + q' = (q + q') + 1 by omega]
    show lev W X u h (q + q') (p + 1) _ = lev W X u h q' (p + (q + 1)) (lev W X u h q (p + 1) _)
    rw [ih, show p + (q + 1) = p + 1 + q by omega]
theorem down_same {W X : Nat → Nat} {u v n : Nat} : ∀ {h : Nat} {s : Nat × Nat}, (∀ g, g < h → ∀ r, 1 ≤ r → r < 1 + n → ((inb u r = true ∧ X r = g) ↔ (inb v r = true ∧ X r = g))) → down W X u n h s = down W X v n h s := by
  intro h
  induction h with
  | zero => intro s _; rfl
  | succ h ih =>
    intro s hn
    show down W X u n h (lev W X u h n 1 s) = down W X v n h (lev W X v h n 1 s)
    rw [lev_same (v := v) (fun r h1 h2 => hn h (by omega) r h1 h2)]
    exact ih (fun g hg => hn g (by omega))
theorem down_to {W X : Nat → Nat} {u n : Nat} : ∀ {h g : Nat} {s : Nat × Nat}, g ≤ h → (∀ r, 1 ≤ r → r < 1 + n → inb u r = true → X r < g) → down W X u n h s = down W X u n g s := by
  intro h
  induction h with
  | zero => intro g s h1 _; obtain rfl : g = 0 := by omega
            rfl
  | succ h ih =>
    intro g s h1 h2
    by_cases e : g = h + 1
    · rw [e]
    · show down W X u n h (lev W X u h n 1 s) = _
      rw [lev_no (fun r r1 r2 z => by have := h2 r r1 r2 z.1; omega)]
      exact ih (by omega) h2
theorem mh_t {X : Nat → Nat} {u q p b : Nat} (c : inb u p = true ∧ (b = 0 ∨ X b < X p)) : mh X u (q + 1) p b = mh X u q (p + 1) p := congrArg (mh X u q (p + 1)) (if_pos c)
theorem mh_f {X : Nat → Nat} {u q p b : Nat} (c : ¬ (inb u p = true ∧ (b = 0 ∨ X b < X p))) : mh X u (q + 1) p b = mh X u q (p + 1) b := congrArg (mh X u q (p + 1)) (if_neg c)
theorem mh_of {X : Nat → Nat} {u : Nat} : ∀ {q p b : Nat}, 1 ≤ p → (b = 0 ∨ (1 ≤ b ∧ b < p ∧ inb u b = true)) → (∀ r, 1 ≤ r → r < p → inb u r = true → b ≠ 0 ∧ X r ≤ X b ∧ (r < b → X r < X b)) → (mh X u q p b = 0 ∧ ∀ r, 1 ≤ r → r < p + q → inb u r = false) ∨ (1 ≤ mh X u q p b ∧ mh X u q p b < p + q ∧ inb u (mh X u q p b) = true ∧ ∀ r, 1 ≤ r → r < p + q → inb u r = true → X r ≤ X (mh X u q p b) ∧ (r < mh X u q p b → X r < X (mh X u q p b))) := by
  intro q
  induction q with
  | zero =>
    intro p b h1 h2 h3
    show (b = 0 ∧ _) ∨ (1 ≤ b ∧ b < p + 0 ∧ inb u b = true ∧ _)
    rcases h2 with h2 | ⟨h2, h4, h5⟩
    · refine Or.inl ⟨h2, fun r r1 r2 => ?_⟩
      cases c : inb u r with
      | false => rfl
      | true => exact absurd h2 (h3 r r1 (by omega) c).1
    · exact Or.inr ⟨h2, by omega, h5, fun r r1 r2 c => (h3 r r1 (by omega) c).2⟩
  | succ q ih =>
    intro p b h1 h2 h3
    have e : mh X u (q + 1) p b = mh X u q (p + 1) (if inb u p = true ∧ (b = 0 ∨ X b < X p) then p else b) := rfl
    rw [e, show p + (q + 1) = p + 1 + q by omega]
    by_cases c : inb u p = true ∧ (b = 0 ∨ X b < X p)
    · rw [if_pos c]
      refine ih (by omega) (Or.inr ⟨h1, by omega, c.1⟩) (fun r r1 r2 ir => ⟨by omega, ?_⟩)
      by_cases e : r = p
      · subst e; exact ⟨Nat.le_refl _, fun z => absurd z (by omega)⟩
      · obtain ⟨b0, x1, x2⟩ := h3 r r1 (by omega) ir
        rcases c.2 with z | z
        · exact absurd z b0
        · exact ⟨by omega, fun _ => by omega⟩
    · rw [if_neg c]
      refine ih (by omega) (h2.imp id (fun z => ⟨z.1, by omega, z.2.2⟩)) (fun r r1 r2 ir => ?_)
      by_cases e : r = p
      · subst e
        have nb : ¬ b = 0 := fun z => c ⟨ir, Or.inl z⟩
        have nx : ¬ X b < X r := fun z => c ⟨ir, Or.inr z⟩
        exact ⟨nb, by omega, fun z => by rcases h2 with y | y <;> omega⟩
      · exact h3 r r1 (by omega) ir
theorem clr_in : ∀ u, u < 16 → ∀ p, p < 5 → ∀ r, r < 5 → 1 ≤ p → 1 ≤ r → inb (clr u p) r = (inb u r && !decide (r = p)) := by decide +kernel
def crd (u : Nat) : Nat := u % 2 + u / 2 % 2 + u / 4 % 2 + u / 8 % 2
theorem crd_clr : ∀ u, u < 16 → ∀ p, p < 5 → 1 ≤ p → inb u p = true → crd (clr u p) + 1 = crd u ∧ clr u p < 16 := by decide +kernel
theorem crd_le : ∀ u, u < 16 → crd u ≤ 4 := by decide +kernel
/-- most harmed first, or harm by harm: the same -/
theorem srv_down {W X : Nat → Nat} {n : Nat} (hn : n ≤ 4) : ∀ (q u h : Nat) (s : Nat × Nat), u < 16 → crd u ≤ q → (∀ r, 1 ≤ r → r < 1 + n → inb u r = true → X r < h) → srv W X n q u s = down W X u n h s := by
  intro q
  induction q with
  | zero =>
    intro u h s hu hq hX
    show s = _
    rw [down_to (g := 0) (by omega) (fun r r1 r2 c => ?_)]
    · rfl
    · have := (crd_clr u hu r (by omega) r1 c).1
      omega
  | succ q ih =>
    intro u h s hu hq hX
    unfold srv
    rcases mh_of (X := X) (u := u) (q := n) (p := 1) (b := 0) (by omega) (Or.inl rfl) (fun r r1 r2 => by omega) with ⟨m0, m1⟩ | ⟨m1, m2, m3, m4⟩
    · rw [if_pos m0, down_to (g := 0) (by omega) (fun r r1 r2 c => by rw [m1 r r1 r2] at c; cases c)]
      have z : ∀ q s, srv W X n q u s = s := by
        intro q
        induction q with
        | zero => intro s; rfl
        | succ q ih2 => intro s; unfold srv; rw [if_pos m0]; exact ih2 s
      exact z q s
    · generalize mh X u n 1 0 = m at *
      rw [if_neg (by omega)]
      obtain ⟨c1, c2⟩ := crd_clr u hu m (by omega) m1 m3
      have ci := fun r (r5 : r < 5) (r1 : 1 ≤ r) => clr_in u hu m (by omega) r r5 m1 r1
      rw [ih (clr u m) (X m + 1) _ c2 (by omega) (fun r r1 r2 c => by
        rw [ci r (by omega) r1, Bool.and_eq_true] at c
        have := (m4 r r1 r2 c.1).1
        omega)]
      rw [down_to (h := h) (g := X m + 1) (hX m m1 m2 m3) (fun r r1 r2 c => by have := (m4 r r1 r2 c).1; omega)]
      show down W X (clr u m) n (X m) (lev W X (clr u m) (X m) n 1 (sv W X m s)) = down W X u n (X m) (lev W X u (X m) n 1 s)
      have e1 : lev W X u (X m) n 1 s = lev W X (clr u m) (X m) n 1 (sv W X m s) := by
        obtain ⟨a, b, e⟩ : ∃ a b, n = a + (1 + b) ∧ a + 1 = m := ⟨m - 1, n - m, by omega, by omega⟩
        obtain ⟨e, ea⟩ := e
        rw [e, lev_add, lev_add, lev_add, lev_add]
        rw [lev_no (u := u) (q := a) (fun r r1 r2 z => by have := (m4 r r1 (by omega) z.1).2 (by omega); omega)]
        rw [lev_no (u := clr u m) (q := a) (fun r r1 r2 z => by
          have z1 := z.1
          rw [ci r (by omega) r1, Bool.and_eq_true] at z1
          have := (m4 r r1 (by omega) z1.1).2 (by omega)
          omega)]
        rw [show 1 + a = m by omega]
        have f1 : lev W X u (X m) 1 m s = sv W X m s := by
          show (if inb u m = true ∧ X m = X m then sv W X m s else s) = _
          rw [if_pos ⟨m3, rfl⟩]
        have f2 : lev W X (clr u m) (X m) 1 m (sv W X m s) = sv W X m s := by
          show (if inb (clr u m) m = true ∧ X m = X m then sv W X m (sv W X m s) else sv W X m s) = _
          rw [if_neg (fun z => by
            have z1 := z.1
            rw [ci m (by omega) m1, Bool.and_eq_true] at z1
            have := z1.2
            simp at this)]
        rw [f1, f2]
        refine lev_same (fun r r1 r2 => ?_)
        rw [ci r (by omega) (by omega)]
        have : decide (r = m) = false := decide_eq_false (by omega)
        rw [this]
        simp
      rw [e1]
      refine (down_same (fun g hg r r1 r2 => ?_)).symm
      rw [ci r (by omega) r1]
      constructor
      · intro z
        refine ⟨?_, z.2⟩
        rw [Bool.and_eq_true]
        refine ⟨z.1, ?_⟩
        have : decide (r = m) = false := decide_eq_false (fun y => by rw [y] at z; omega)
        rw [this]; rfl
      · intro z
        rw [Bool.and_eq_true] at z
        exact ⟨z.1.1, z.2⟩
