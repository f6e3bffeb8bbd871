/-! THE RELATION OF THE CLASS AND THE MODEL, over two heaps: hc of the class, hm of the model -/
abbrev mS (h : sh_H) (k : Nat) : Int32 := h.1 13 46 k
abbrev cC (h : sh_H) (r a b : Nat) : Int32 := h.1 13 (sh_rc r) (a * sh_w r + b)
/-- the class's locations -/
def lcC (c i : Nat) : Bool := Nat.blt c 12 || (Nat.beq c 13 && Nat.blt i 42) || (Nat.beq c 14 && Nat.blt i 5) || Nat.beq c 15 || Nat.beq c 19
def mEq (h g : sh_H) : Prop := (∀ c i, lcC c i = false → ∀ j, h.1 c i j = g.1 c i j) ∧ (∀ c i, lcC c i = false → ∀ j, h.2.1 c i j = g.2.1 c i j) ∧ h.2.2.2.2 = g.2.2.2.2
def cEq (h g : sh_H) : Prop := (∀ c i, lcC c i = true → ∀ j, h.1 c i j = g.1 c i j) ∧ (∀ c i, lcC c i = true → ∀ j, h.2.1 c i j = g.2.1 c i j) ∧ h.2.2.1 = g.2.2.1 ∧ h.2.2.2.1 = g.2.2.2.1
def xEq (h g : sh_H) : Prop := (∀ j, h.1 17 0 j = g.1 17 0 j) ∧ h.2.2.2.2 = g.2.2.2.2
/-- tables of a text: where the model has them, how far apart, which column -/
def tb_b (j : Nat) : Nat := ([20, 40, 50, 100, 150, 210, 250] : List Nat).getD j 0
def tb_s (j : Nat) : Nat := ([3, 2, 4, 4, 5, 3, 5] : List Nat).getD j 0
def tb_c (j c : Nat) : Nat := (([[0, 1, 2], [0, 1], [0, 1, 9, 2, 3], [0, 1, 9, 2, 3], [0, 2, 1, 3, 4], [9, 0, 9, 1, 2], [0, 1, 2, 3, 4]] : List (List Nat)).getD j []).getD c 9
def rTab (hc hm : sh_H) (t o j : Nat) : Prop := ∃ n, n ≤ sh_m (7 * t + j) ∧ hc.1 6 (7 * t + j) 3 = nI n ∧ mS hm (o + j) = nI n ∧ ∀ r, r < n → ∀ c, c < 5 → tb_c j c < 9 → cC hc (7 * t + j) r c = mS hm (o + tb_b j + tb_s j * r + tb_c j c)
/-- a step of a formula, as the class keeps it -/
def cst (a v : Nat) : Nat := match a with | 0 => v | 1 => (v + 1) * 65536 | 2 => 43 * 65536 | 3 => 45 * 65536 | 4 => 42 * 65536 | 5 => 47 * 65536 | 6 => 60 * 65536 | _ => 22 * 65536
def rCodes (hc hm : sh_H) (t o : Nat) : Prop := ∃ n, n ≤ 400 ∧ hc.1 2 t 1 = nI n ∧ mS hm (o + 10) = nI n ∧ ∀ i, i < n → ∃ a v, a < 8 ∧ v ≤ 9999 ∧ (a = 1 → v < 4) ∧ mS hm (o + 1000 + i) = nI a ∧ mS hm (o + 1500 + i) = nI v ∧ hc.1 13 (9 * t + 7) i = nI (cst a v)
/-- no wear names a place -/
def rW0 (hc : sh_H) (t : Nat) : Prop := ∀ n, n ≤ 12 → hc.1 6 (7 * t + 5) 3 = nI n → ∀ r, r < n → hc.1 13 (9 * t + 5) (r * 5) = 0
def rText (hc hm : sh_H) (t o : Nat) : Prop := (∀ j, j < 7 → rTab hc hm t o j) ∧ rCodes hc hm t o ∧ rW0 hc t
def rPcs (hc hm : sh_H) (s o : Nat) : Prop := hc.1 6 (14 + 4 * s) 3 = nI 30 ∧ ∀ q, q < 120 → hc.1 13 (20 + 4 * s) q = mS hm (o + 800 + q)
def rLack (hc hm : sh_H) (s o : Nat) : Prop := hc.1 6 (17 + 4 * s) 3 = nI 4 ∧ ∀ q, q < 24 → hc.1 13 (23 + 4 * s) q = mS hm (o + 926 + q)
def sn_c (c : Nat) : Nat := ([1, 2, 0, 3, 4, 5] : List Nat).getD c 0
def rSend (hc hm : sh_H) (s o : Nat) : Prop := ∃ n, n ≤ 40 ∧ hc.1 6 (15 + 4 * s) 3 = nI n ∧ mS hm (o + 7) = nI n ∧ ∀ i, i < n → ∀ c, c < 6 → hc.1 13 (21 + 4 * s) (i * 6 + c) = mS hm (o + 310 + 6 * i + sn_c c)
/-- a row of the books: came, went, looked, annulled -/
def rBk (hc hm : sh_H) (s o i : Nat) : Prop := ∃ a, a < 4 ∧ mS hm (o + 550 + 4 * i) = nI a ∧ hc.1 13 (22 + 4 * s) (i * 5 + 2) = nI a ∧ (a < 2 → hc.1 13 (22 + 4 * s) (i * 5) = mS hm (o + 551 + 4 * i) ∧ hc.1 13 (22 + 4 * s) (i * 5 + 1) = mS hm (o + 552 + 4 * i) ∧ hc.1 13 (22 + 4 * s) (i * 5 + 3) = mS hm (o + 553 + 4 * i)) ∧ (a = 2 → hc.1 13 (22 + 4 * s) (i * 5) = mS hm (o + 551 + 4 * i) ∧ hc.1 13 (22 + 4 * s) (i * 5 + 3) = mS hm (o + 552 + 4 * i) ∧ hc.1 13 (22 + 4 * s) (i * 5 + 4) = mS hm (o + 553 + 4 * i)) ∧ (a = 3 → hc.1 13 (22 + 4 * s) (i * 5 + 3) = mS hm (o + 551 + 4 * i))
def rBook (hc hm : sh_H) (s o : Nat) : Prop := ∃ n, n ≤ 60 ∧ hc.1 6 (16 + 4 * s) 3 = nI n ∧ mS hm (o + 8) = nI n ∧ ∀ i, i < n → rBk hc hm s o i
def rTime (hc hm : sh_H) (s o b : Nat) : Prop := hc.1 7 s 4 = mS hm (o + 9) ∧ hc.2.1 7 s 5 = hm.2.1 14 6 b ∧ hc.2.1 7 s 6 = hm.2.1 14 6 (b + 1) ∧ hc.2.1 7 s 7 = hm.2.1 14 6 (b + 2)
def rSt (hc hm : sh_H) (s o b : Nat) : Prop := rPcs hc hm s o ∧ rLack hc hm s o ∧ rSend hc hm s o ∧ rBook hc hm s o ∧ rTime hc hm s o b
def rTape (hc hm : sh_H) : Prop := ∃ n, n ≤ 2000 ∧ hc.1 11 0 1 = nI n ∧ hm.1 12 0 0 = nI n ∧ ∀ i, i < n → ∃ v, v < 256 ∧ hm.1 13 42 i = nI v ∧ hc.1 15 0 i = (nI v).toInt8.toInt32
def sumN (f : Nat → Nat) : Nat → Nat
  | 0 => 0
  | n + 1 => sumN f n + f n
def q_within (x a b : Int32) : Int32 := if x < a then 0 else if b < x then 0 else 1
theorem CB_within (x a b : Int32) (h : sh_H) : f_CB_within x a b h = some (q_within x a b) := by
  unfold f_CB_within f_CB_within_b14 q_within
  rw [q_nar0, q_nar1]
  split
  · rfl
  · split <;> rfl
theorem M_isIn (x a b : Int32) (h : sh_H) : f_M_isIn x a b h = some (q_within x a b) := by
  unfold f_M_isIn f_M_isIn_b14 q_within
  rw [q_nar0, q_nar1]
  split
  · rfl
  · split <;> rfl
theorem q_within_0 {x a b : Int32} : q_within x a b = 0 ↔ (x < a ∨ b < x) := by
  unfold q_within
  by_cases h1 : x < a
  · simp [h1]
  · by_cases h2 : b < x
    · simp [h1, h2]
    · simp [h1, h2]
theorem q_within_in {x : Int32} {a b : Nat} (ha : a < 2 ^ 31) (hb : b < 2 ^ 31) (h : ¬ q_within x (nI a) (nI b) = 0) : ∃ k, a ≤ k ∧ k ≤ b ∧ x = nI k := by
  rw [q_within_0] at h
  have h1 : ¬ x < nI a := fun q => h (Or.inl q)
  have h2 : ¬ nI b < x := fun q => h (Or.inr q)
  have h0 : ¬ x < 0 := fun q => h1 (q_lt0 q a ha)
  obtain ⟨k, hk, rfl⟩ := nI_of h0
  rw [nI_ltI hk ha] at h1
  rw [nI_ltI hb hk] at h2
  exact ⟨k, by omega, by omega, rfl⟩
def q_kind (k n : Int32) : Int32 := if k < 0 then 0 else if k < n then 1 else 0
theorem Text_isKind {h : sh_H} {t : Nat} {k : Int32} : f_Text_isKind t k h = some (q_kind k (h.1 6 (7 * t + 0) 3)) := by
  unfold f_Text_isKind f_Rows_size q_kind
  rw [Option.bind_some]
  split
  · rfl
  · split <;> rfl
theorem M_isKind {h : sh_H} {k : Int32} : f_M_isKind k h = some (q_kind k (mS h 0)) := by
  unfold f_M_isKind q_kind
  split
  · rfl
  · rw [if_pos (show ai_in 0 8000 from q_in (k := 0) (n := 8000) (by omega) (by omega))]
    show (if k < mS h 0 then _ else _) = _
    split <;> rfl
theorem q_kind_in {k : Int32} {n : Nat} (hn : n < 2 ^ 31) (h : ¬ q_kind k (nI n) = 0) : ∃ a, a < n ∧ k = nI a := by
  unfold q_kind at h
  by_cases h1 : k < 0
  · rw [if_pos h1] at h; exact absurd rfl h
  · rw [if_neg h1] at h
    obtain ⟨a, ha, rfl⟩ := nI_of h1
    by_cases h2 : nI a < nI n
    · exact ⟨a, (nI_ltI ha hn).mp h2, rfl⟩
    · rw [if_neg h2] at h; exact absurd rfl h
def q_isl (p n : Int32) : Int32 := if p < 1 then 0 else if n < p then 0 else 1
theorem Text_isIsland {h : sh_H} {t : Nat} {p : Int32} : f_Text_isIsland t p h = some (q_isl p (h.1 6 (7 * t + 1) 3)) := by
  unfold f_Text_isIsland f_Rows_size q_isl f_Text_isIsland_b20
  rw [Option.bind_some]
  split
  · rfl
  · split <;> rfl
