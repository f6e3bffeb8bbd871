/-! THE RELATION OF THE CLASS AND THE MODEL, both in one heap -/
abbrev mS (h : sh_H) (k : Nat) : Int32 := h.1 13 46 k
abbrev cC (h : sh_H) (r a b : Nat) : Int32 := h.1 13 (sh_rc r) (a * sh_w r + b)
/-- tables of a text: where the model has them, how far apart, which column -/
def tb_b (j : Nat) : Nat := ([20, 40, 50, 100, 150, 210, 250] : List Nat).getD j 0
def tb_s (j : Nat) : Nat := ([3, 2, 4, 4, 5, 3, 5] : List Nat).getD j 0
def tb_c (j c : Nat) : Nat := (([[0, 1, 2], [0, 1], [0, 1, 9, 2, 3], [0, 1, 9, 2, 3], [0, 2, 1, 3, 4], [9, 0, 9, 1, 2], [0, 1, 2, 3, 4]] : List (List Nat)).getD j []).getD c 9
/-- the ints that a table's column may hold: the least, the greatest (of an E's bounds nothing) -/
def rTab (h : sh_H) (t o j : Nat) : Prop := ∃ n, n ≤ sh_m (7 * t + j) ∧ h.1 6 (7 * t + j) 3 = nI n ∧ mS h (o + j) = nI n ∧ ∀ r, r < n → ∀ c, c < 5 → tb_c j c < 9 → cC h (7 * t + j) r c = mS h (o + tb_b j + tb_s j * r + tb_c j c)
def sumN (f : Nat → Nat) : Nat → Nat
  | 0 => 0
  | n + 1 => sumN f n + f n
def rPcs (c : Nat) (h : sh_H) (s o : Nat) : Prop := h.1 6 (sh_pr s) 3 = nI 30 ∧ (∀ q, q < 120 → h.1 13 (sh_rc (sh_pr s)) q = mS h (o + 800 + q)) ∧ ∃ f : Nat → Nat, (∀ q, q < 120 → mS h (o + 800 + q) = nI (f q)) ∧ sumN f 120 ≤ 9999 * c
def q_within (x a b : Int32) : Int32 := if x < a then 0 else if b < x then 0 else 1
theorem CB_within (x a b : Int32) (h : sh_H) : f_CB_within x a b h = some (q_within x a b) := by
  unfold f_CB_within f_CB_within_b14 q_within
  rw [q_nar0, q_nar1]
  split
  · rfl
  · split <;> rfl
theorem M_isIn (x a b : Int32) (h : sh_H) : f_M_isIn x a b h = some (q_within x a b) := by
  unfold f_M_isIn f_M_isIn_b14 q_within
  rw [q_nar0, q_nar1]
  split
  · rfl
  · split <;> rfl
theorem q_within_0 {x a b : Int32} : q_within x a b = 0 ↔ (x < a ∨ b < x) := by
  unfold q_within
  by_cases h1 : x < a
  · simp [h1]
  · by_cases h2 : b < x
    · simp [h1, h2]
    · simp [h1, h2]
theorem q_within_in {x : Int32} {a b : Nat} (ha : a < 2 ^ 31) (hb : b < 2 ^ 31) (h : ¬ q_within x (nI a) (nI b) = 0) : ∃ k, a ≤ k ∧ k ≤ b ∧ x = nI k := by
  rw [q_within_0] at h
  have h1 : ¬ x < nI a := fun q => h (Or.inl q)
  have h2 : ¬ nI b < x := fun q => h (Or.inr q)
  have h0 : ¬ x < 0 := fun q => h1 (q_lt0 q a ha)
  obtain ⟨k, hk, rfl⟩ := nI_of h0
  rw [nI_ltI hk ha] at h1
  rw [nI_ltI hb hk] at h2
  exact ⟨k, by omega, by omega, rfl⟩
def q_kind (k n : Int32) : Int32 := if k < 0 then 0 else if k < n then 1 else 0
theorem Text_isKind {h : sh_H} {t : Nat} {k : Int32} : f_Text_isKind t k h = some (q_kind k (h.1 6 (7 * t + 0) 3)) := by
  unfold f_Text_isKind f_Rows_size q_kind
  rw [Option.bind_some]
  split
  · rfl
  · split <;> rfl
theorem M_isKind {h : sh_H} {k : Int32} : f_M_isKind k h = some (q_kind k (mS h 0)) := by
  unfold f_M_isKind q_kind
  rw [show (0 : Int32) = nI 0 from rfl, q_gd (by omega) (by omega), q_cl (by omega)]
  split
  · rfl
  · split <;> rfl
theorem q_kind_in {k : Int32} {n : Nat} (hn : n < 2 ^ 31) (h : ¬ q_kind k (nI n) = 0) : ∃ a, a < n ∧ k = nI a := by
  unfold q_kind at h
  by_cases h1 : k < 0
  · rw [if_pos h1] at h; exact absurd rfl h
  · rw [if_neg h1] at h
    obtain ⟨a, ha, rfl⟩ := nI_of h1
    by_cases h2 : nI a < nI n
    · exact ⟨a, (nI_ltI ha hn).mp h2, rfl⟩
    · rw [if_neg h2] at h; exact absurd rfl h
def q_isl (p n : Int32) : Int32 := if p < 1 then 0 else if n < p then 0 else 1
theorem Text_isIsland {h : sh_H} {t : Nat} {p : Int32} : f_Text_isIsland t p h = some (q_isl p (h.1 6 (7 * t + 1) 3)) := by
  unfold f_Text_isIsland f_Rows_size q_isl f_Text_isIsland_b20
  rw [Option.bind_some]
  split
  · rfl
  · split <;> rfl
