/-! THE FEWEST PIECES: pure -/
def mn (g : Nat → Nat) : Nat → Nat
  | 0 => g 0
  | B + 1 => min (mn g B) (g (B + 1))
theorem mn_le {g : Nat → Nat} : ∀ {B n : Nat}, n ≤ B → mn g B ≤ g n := by
  intro B
  induction B with
  | zero => intro n h; obtain rfl : n = 0 := by omega
            exact Nat.le_refl _
  | succ B ih =>
    intro n h
    show min (mn g B) (g (B + 1)) ≤ g n
    by_cases e : n = B + 1
    · rw [e]; exact Nat.min_le_right _ _
    · exact Nat.le_trans (Nat.min_le_left _ _) (ih (by omega))
theorem mn_at {g : Nat → Nat} : ∀ {B : Nat}, ∃ n, n ≤ B ∧ mn g B = g n := by
  intro B
  induction B with
  | zero => exact ⟨0, Nat.le_refl _, rfl⟩
  | succ B ih =>
    obtain ⟨n, h1, h2⟩ := ih
    by_cases e : mn g B ≤ g (B + 1)
    · exact ⟨n, by omega, by show min _ _ = _; rw [Nat.min_eq_left e]; exact h2⟩
    · exact ⟨B + 1, Nat.le_refl _, by show min _ _ = _; rw [Nat.min_eq_right (by omega)]⟩
/-- up to b pieces of worth w more -/
def ad (w b : Nat) (F : Nat → Nat) (v : Nat) : Nat := mn (fun n => F (v - n * w) + n) (min b (v / w))
theorem ad_le {w b v n : Nat} {F : Nat → Nat} (hw : 1 ≤ w) (h1 : n ≤ b) (h2 : n * w ≤ v) : ad w b F v ≤ F (v - n * w) + n := by
  have : n ≤ v / w := (Nat.le_div_iff_mul_le hw).mpr h2
  exact mn_le (g := fun n => F (v - n * w) + n) (by omega)
theorem ad_at {w b v : Nat} {F : Nat → Nat} (hw : 1 ≤ w) : ∃ n, n ≤ b ∧ n * w ≤ v ∧ ad w b F v = F (v - n * w) + n := by
  obtain ⟨n, h1, h2⟩ := mn_at (g := fun n => F (v - n * w) + n) (B := min b (v / w))
  exact ⟨n, by omega, (Nat.le_div_iff_mul_le hw).mp (by omega), h2⟩
theorem ad_self {w b v : Nat} {F : Nat → Nat} (hw : 1 ≤ w) : ad w b F v ≤ F v := by
  have := ad_le (w := w) (b := b) (v := v) (n := 0) (F := F) hw (Nat.zero_le _) (by omega)
  rw [Nat.zero_mul] at this
  exact this
theorem ad_lt {w b v : Nat} {F : Nat → Nat} (hw : 1 ≤ w) (h : v < w) : ad w b F v = F v := by
  obtain ⟨n, h1, h2, h3⟩ := ad_at (w := w) (b := b) (v := v) (F := F) hw
  have : n = 0 := by
    by_cases e : n = 0
    · exact e
    · have : 1 * w ≤ n * w := Nat.mul_le_mul_right w (by omega)
      omega
  subst this
  rw [h3, Nat.zero_mul]
  rfl
theorem ad_b0 {w : Nat} {F : Nat → Nat} (hw : 1 ≤ w) : ad w 0 F = F := by
  funext v
  obtain ⟨n, h1, h2, h3⟩ := ad_at (w := w) (b := 0) (v := v) (F := F) hw
  obtain rfl : n = 0 := by omega
  rw [h3, Nat.zero_mul]
  rfl
/-- endless: one piece after the other -/
theorem ad_rec {w b v : Nat} {F : Nat → Nat} (hw : 1 ≤ w) (h : w ≤ v) (hb : v / w ≤ b) : ad w b F v = min (F v) (ad w b F (v - w) + 1) := by
  apply Nat.le_antisymm
  · apply Nat.le_min.mpr
    refine ⟨ad_self hw, ?_⟩
    obtain ⟨n, h1, h2, h3⟩ := ad_at (w := w) (b := b) (v := v - w) (F := F) hw
    rw [h3]
    have m1 : (n + 1) * w ≤ v := by rw [Nat.add_mul]; omega
    have : n + 1 ≤ v / w := (Nat.le_div_iff_mul_le hw).mpr m1
    have := ad_le (w := w) (b := b) (v := v) (n := n + 1) (F := F) hw (by omega) m1
    rw [show v - (n + 1) * w = v - w - n * w by rw [Nat.add_mul]; omega] at this
    omega
  · obtain ⟨n, h1, h2, h3⟩ := ad_at (w := w) (b := b) (v := v) (F := F) hw
    rw [h3]
    by_cases e : n = 0
    · subst e
      rw [Nat.zero_mul]
      exact Nat.min_le_left _ _
    · obtain ⟨m, rfl⟩ : ∃ m, n = m + 1 := ⟨n - 1, by omega⟩
      have m1 : m * w + w ≤ v := by rw [Nat.add_mul] at h2; omega
      have := ad_le (w := w) (b := b) (v := v - w) (n := m) (F := F) hw (by omega) (by omega)
      rw [show v - w - m * w = v - (m + 1) * w by rw [Nat.add_mul]; omega] at this
      exact Nat.le_trans (Nat.min_le_right _ _) (by omega)
/-- a lump of L pieces -/
def lmp (w L : Nat) (F : Nat → Nat) (j : Nat) : Nat := if L * w ≤ j then min (F j) (F (j - L * w) + L) else F j
theorem lmp_ad {w T L : Nat} {F : Nat → Nat} (hw : 1 ≤ w) (hL : L ≤ T + 1) (j : Nat) : lmp w L (ad w T F) j = ad w (T + L) F j := by
  apply Nat.le_antisymm
  · obtain ⟨n, h1, h2, h3⟩ := ad_at (w := w) (b := T + L) (v := j) (F := F) hw
    rw [h3]
    have l1 : lmp w L (ad w T F) j ≤ ad w T F j := by
      unfold lmp
      split
      · exact Nat.min_le_left _ _
      · exact Nat.le_refl _
    by_cases e : n ≤ T
    · exact Nat.le_trans l1 (ad_le hw e h2)
    · obtain ⟨m, rfl⟩ : ∃ m, n = m + L := ⟨n - L, by omega⟩
      rw [Nat.add_mul] at h2
      have := ad_le (w := w) (b := T) (v := j - L * w) (n := m) (F := F) hw (by omega) (by omega)
      rw [show j - L * w - m * w = j - (m + L) * w by rw [Nat.add_mul]; omega] at this
      unfold lmp
      rw [if_pos (by omega)]
      exact Nat.le_trans (Nat.min_le_right _ _) (by omega)
  · have g : ad w (T + L) F j ≤ ad w T F j := by
      obtain ⟨n, h1, h2, h3⟩ := ad_at (w := w) (b := T) (v := j) (F := F) hw
      rw [h3]
      exact ad_le hw (by omega) h2
    unfold lmp
    split
    · rename_i c
      apply Nat.le_min.mpr
      refine ⟨g, ?_⟩
      obtain ⟨n, h1, h2, h3⟩ := ad_at (w := w) (b := T) (v := j - L * w) (F := F) hw
      rw [h3]
      have := ad_le (w := w) (b := T + L) (v := j) (n := n + L) (F := F) hw (by omega) (by rw [Nat.add_mul]; omega)
      rw [show j - (n + L) * w = j - L * w - n * w by rw [Nat.add_mul]; omega] at this
      omega
    · exact g
/-- two kinds in either order -/
theorem ad_comm1 {w b w' b' : Nat} {F : Nat → Nat} (hw : 1 ≤ w) (hw' : 1 ≤ w') (v : Nat) : ad w b (ad w' b' F) v ≤ ad w' b' (ad w b F) v := by
  obtain ⟨m, h1, h2, h3⟩ := ad_at (w := w') (b := b') (v := v) (F := ad w b F) hw'
  rw [h3]
  obtain ⟨n, g1, g2, g3⟩ := ad_at (w := w) (b := b) (v := v - m * w') (F := F) hw
  rw [g3]
  have a1 := ad_le (w := w) (b := b) (v := v) (n := n) (F := ad w' b' F) hw g1 (by omega)
  have a2 := ad_le (w := w') (b := b') (v := v - n * w) (n := m) (F := F) hw' h1 (by omega)
  rw [show v - n * w - m * w' = v - m * w' - n * w by omega] at a2
  omega
theorem ad_comm {w b w' b' : Nat} {F : Nat → Nat} (hw : 1 ≤ w) (hw' : 1 ≤ w') : ad w b (ad w' b' F) = ad w' b' (ad w b F) := by
  funext v
  exact Nat.le_antisymm (ad_comm1 hw hw' v) (ad_comm1 hw' hw v)
/-- kinds lo, lo + 1, .. added in this order; and the other way round -/
def clF (w b : Nat → Nat) : Nat → Nat → (Nat → Nat) → Nat → Nat
  | 0, _, F => F
  | q + 1, lo, F => clF w b q (lo + 1) (ad (w lo) (b lo) F)
def mdF (w b : Nat → Nat) : Nat → Nat → (Nat → Nat) → Nat → Nat
  | 0, _, F => F
  | q + 1, lo, F => ad (w lo) (b lo) (mdF w b q (lo + 1) F)
theorem mdF_comm {w b : Nat → Nat} {x y : Nat} (hx : 1 ≤ x) : ∀ {q lo : Nat} {F : Nat → Nat}, (∀ k, lo ≤ k → k < lo + q → 1 ≤ w k) → mdF w b q lo (ad x y F) = ad x y (mdF w b q lo F) := by
  intro q
  induction q with
  | zero => intro lo F _; rfl
  | succ q ih =>
    intro lo F h
    show ad (w lo) (b lo) (mdF w b q (lo + 1) (ad x y F)) = ad x y (ad (w lo) (b lo) (mdF w b q (lo + 1) F))
    rw [ih (fun k h1 h2 => h k (by omega) (by omega)), ad_comm (h lo (by omega) (by omega)) hx]
theorem clF_md {w b : Nat → Nat} : ∀ {q lo : Nat} {F : Nat → Nat}, (∀ k, lo ≤ k → k < lo + q → 1 ≤ w k) → clF w b q lo F = mdF w b q lo F := by
  intro q
  induction q with
  | zero => intro lo F _; rfl
  | succ q ih =>
    intro lo F h
    show clF w b q (lo + 1) (ad (w lo) (b lo) F) = ad (w lo) (b lo) (mdF w b q (lo + 1) F)
    rw [ih (fun k h1 h2 => h k (by omega) (by omega)), mdF_comm (h lo (by omega) (by omega)) (fun k h1 h2 => h k (by omega) (by omega))]
def fz0 (I v : Nat) : Nat := if v = 0 then 0 else I
theorem ad_I {w b I v : Nat} {F : Nat → Nat} (hw : 1 ≤ w) (h : ∀ v, F v ≤ I) : ad w b F v ≤ I := Nat.le_trans (ad_self hw) (h v)
theorem mdF_I {w b : Nat → Nat} {I : Nat} : ∀ {q lo : Nat}, (∀ k, lo ≤ k → k < lo + q → 1 ≤ w k) → ∀ v, mdF w b q lo (fz0 I) v ≤ I := by
  intro q
  induction q with
  | zero => intro lo _ v; show fz0 I v ≤ I; unfold fz0; split <;> omega
  | succ q ih =>
    intro lo h v
    exact ad_I (h lo (by omega) (by omega)) (ih (fun k h1 h2 => h k (by omega) (by omega)))
/-- what can't be paid is I, and what can doesn't depend on I -/
theorem mdF_II {w b : Nat → Nat} {I J S : Nat} (hI : S < I) (hJ : S < J) : ∀ {q lo : Nat}, (∀ k, lo ≤ k → k < lo + q → 1 ≤ w k) → ∀ v, v ≤ S → (mdF w b q lo (fz0 I) v = I ∧ mdF w b q lo (fz0 J) v = J) ∨ (mdF w b q lo (fz0 I) v = mdF w b q lo (fz0 J) v ∧ mdF w b q lo (fz0 I) v ≤ v) := by
  intro q
  induction q with
  | zero =>
    intro lo _ v hv
    show (fz0 I v = I ∧ fz0 J v = J) ∨ (fz0 I v = fz0 J v ∧ fz0 I v ≤ v)
    unfold fz0
    by_cases e : v = 0
    · rw [if_pos e, if_pos e]; exact Or.inr ⟨rfl, by omega⟩
    · rw [if_neg e, if_neg e]; exact Or.inl ⟨rfl, rfl⟩
  | succ q ih =>
    intro lo h v hv
    have hw := h lo (by omega) (by omega)
    have i2 := ih (lo := lo + 1) (fun k h1 h2 => h k (by omega) (by omega))
    show (ad (w lo) (b lo) (mdF w b q (lo + 1) (fz0 I)) v = I ∧ ad (w lo) (b lo) (mdF w b q (lo + 1) (fz0 J)) v = J) ∨ (ad (w lo) (b lo) (mdF w b q (lo + 1) (fz0 I)) v = ad (w lo) (b lo) (mdF w b q (lo + 1) (fz0 J)) v ∧ ad (w lo) (b lo) (mdF w b q (lo + 1) (fz0 I)) v ≤ v)
    generalize mdF w b q (lo + 1) (fz0 I) = X at *
    generalize mdF w b q (lo + 1) (fz0 J) = Y at *
    obtain ⟨n, n1, n2, n3⟩ := ad_at (w := w lo) (b := b lo) (v := v) (F := X) hw
    obtain ⟨m, m1, m2, m3⟩ := ad_at (w := w lo) (b := b lo) (v := v) (F := Y) hw
    have a1 := ad_le (w := w lo) (b := b lo) (v := v) (n := m) (F := X) hw m1 m2
    have a2 := ad_le (w := w lo) (b := b lo) (v := v) (n := n) (F := Y) hw n1 n2
    have s1 := ad_self (w := w lo) (b := b lo) (v := v) (F := X) hw
    have s2 := ad_self (w := w lo) (b := b lo) (v := v) (F := Y) hw
    have nn : n ≤ n * w lo := Nat.le_mul_of_pos_right n hw
    have mm : m ≤ m * w lo := Nat.le_mul_of_pos_right m hw
    have iv := i2 v hv
    rcases i2 (v - n * w lo) (by omega) with ⟨x1, x2⟩ | ⟨x1, x2⟩
    · rcases i2 (v - m * w lo) (by omega) with ⟨y1, y2⟩ | ⟨y1, y2⟩
      · left; omega
      · right; omega
    · right; rcases i2 (v - m * w lo) (by omega) with ⟨y1, y2⟩ | ⟨y1, y2⟩ <;> omega
