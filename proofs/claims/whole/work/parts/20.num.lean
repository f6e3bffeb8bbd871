/-! NUMBERS, AND THE ROWS -/
theorem q_lit (n : Nat) : (OfNat.ofNat n : Int32) = nI n := rfl
theorem q_len (n : Nat) : Int32.ofNat n = nI n := rfl
theorem q_mul (a b : Nat) : nI a * nI b = nI (a * b) := (Int32.ofNat_mul a b).symm
theorem q_sub {a b : Nat} (h : b ≤ a) : nI a - nI b = nI (a - b) := by
  have e : nI a = nI (a - b) + nI b := by rw [nI_add, Nat.sub_add_cancel h]
  rw [e, Int32.add_sub_cancel]
theorem q_in {k n : Nat} (h : k < n) (hn : n < 2 ^ 31) : ai_in (nI k) n := nI_in h hn
theorem q_gd {α : Type} {k n : Nat} {a : Option α} (h : k < n) (hn : n < 2 ^ 31) : (if ai_in (nI k) n then a else none) = a := if_pos (q_in h hn)
theorem q_cl {n : Nat} (h : n < 2 ^ 31) : (nI n).toNatClampNeg = n := nI_clamp h
theorem q_n1 : (-1 : Int32) < 0 := by decide
theorem q_lt0 {x : Int32} (h : x < 0) (n : Nat) (hn : n < 2 ^ 31) : x < nI n := by
  rw [Int32.lt_iff_toInt_lt] at h ⊢
  rw [nI_toInt hn]
  have : (0 : Int32).toInt = 0 := by decide
  omega
theorem q_nar0 : ai_nar 1 0 = 0 := by decide
theorem q_nar1 : ai_nar 1 1 = 1 := by decide
theorem q_10 : ¬ (1 : Int32) = 0 := by decide
theorem q_dm {a b m w : Nat} (ha : a < m) (hb : b < w) : a * w + b < m * w := by
  have h1 : (a + 1) * w ≤ m * w := Nat.mul_le_mul_right w ha
  rw [Nat.succ_mul] at h1
  omega
/-- how many rows, how wide -/
def sh_m (r : Nat) : Nat := ([6, 4, 12, 12, 12, 12, 12, 6, 4, 12, 12, 12, 12, 12, 30, 40, 60, 4, 30, 40, 60, 4, 30, 40, 60, 4, 12, 30, 6, 5, 5, 5, 60] : List Nat).getD r 0
def sh_w (r : Nat) : Nat := ([3, 2, 5, 5, 5, 5, 5, 3, 2, 5, 5, 5, 5, 5, 4, 6, 5, 6, 4, 6, 5, 6, 4, 6, 5, 6, 1, 4, 3, 6, 6, 2, 1] : List Nat).getD r 0
theorem sh_mw : ∀ r, r < 33 → sh_l13 (sh_rc r) = sh_m r * sh_w r ∧ sh_m r ≤ 60 ∧ sh_w r ≤ 6 ∧ 0 < sh_w r := by decide +kernel
/-- the rows' bounds and widths stay -/
def RC (h : sh_H) : Prop := ∀ r, r < 33 → h.1 6 r 0 = nI (sh_m r) ∧ h.1 6 r 1 = nI (sh_w r)
theorem rows_cell {h : sh_H} {r s a b : Nat} (hc : RC h) (hr : r < 33) (hs : h.1 6 r 3 = nI s) (hs2 : s < 2 ^ 31) (ha : a < 2 ^ 31) (hb : b < 2 ^ 31) : f_Rows_cell r (nI a) (nI b) h = some (if a < s ∧ b < sh_w r then nI (a * sh_w r + b) else -1) := by
  obtain ⟨h0, h1⟩ := hc r hr
  have hw : sh_w r < 2 ^ 31 := by have := (sh_mw r hr).2.2.1; omega
  unfold f_Rows_cell f_Rows_cell_b28 f_Rows_cell_b29
  rw [hs, h1, if_neg (nI_pos ha), if_neg (nI_pos hb), if_pos rfl, if_neg q_10]
  simp only [nI_ltI ha hs2, nI_ltI hb hw, q_mul, nI_add]
  by_cases h1 : a < s
  · by_cases h2 : b < sh_w r
    · rw [if_pos h1, if_pos h2, if_pos ⟨h1, h2⟩]
    · rw [if_pos h1, if_neg h2, if_neg (fun q => h2 q.2)]
  · rw [if_neg h1, if_neg (fun q => h1 q.1)]
theorem rows_cell_neg {h : sh_H} {r : Nat} {x y : Int32} (hx : x < 0 ∨ y < 0) : f_Rows_cell r x y h = some (-1) := by
  unfold f_Rows_cell f_Rows_cell_b28 f_Rows_cell_b29
  rw [if_pos (rfl : (0 : Int32) = 0)]
  by_cases h1 : x < 0
  · rw [if_pos h1]
  · rw [if_neg h1]
    split
    · rw [if_pos (hx.resolve_left h1)]
    · rfl
theorem rows_get {h : sh_H} {r s a b : Nat} (hc : RC h) (hr : r < 33) (hs : h.1 6 r 3 = nI s) (hs2 : s ≤ sh_m r) (ha : a < 2 ^ 31) (hb : b < 2 ^ 31) : f_Rows_get r (nI a) (nI b) h = some (if a < s ∧ b < sh_w r then h.1 13 (sh_rc r) (a * sh_w r + b) else 0) := by
  obtain ⟨e1, e2, e3, e4⟩ := sh_mw r hr
  have hmw : sh_m r * sh_w r ≤ 360 := Nat.mul_le_mul e2 e3
  unfold f_Rows_get f_Rows_get_b29
  rw [rows_cell hc hr hs (by omega) ha hb]
  by_cases h1 : a < s ∧ b < sh_w r
  · have hl : a * sh_w r + b < sh_m r * sh_w r := q_dm (by omega) h1.2
    rw [if_pos h1, if_pos h1, Option.bind_some, e1, q_len, if_neg (nI_pos (by omega)), if_pos (nI_lt hl (by omega)), q_gd hl (by omega), q_cl (by omega)]
  · rw [if_neg h1, if_neg h1, Option.bind_some, if_pos q_n1]
theorem rows_get_neg {h : sh_H} {r : Nat} {x y : Int32} (hx : x < 0 ∨ y < 0) : f_Rows_get r x y h = some 0 := by
  unfold f_Rows_get f_Rows_get_b29
  rw [rows_cell_neg hx, Option.bind_some, if_pos q_n1]
theorem rows_put {h : sh_H} {r s a b : Nat} {v : Int32} (hc : RC h) (hr : r < 33) (hs : h.1 6 r 3 = nI s) (hs2 : s ≤ sh_m r) (ha : a < 2 ^ 31) (hb : b < 2 ^ 31) : f_Rows_put r (nI a) (nI b) v h = some (if a < s ∧ b < sh_w r then sh_pI h 13 (sh_rc r) (a * sh_w r + b) v else h) := by
  obtain ⟨e1, e2, e3, e4⟩ := sh_mw r hr
  have hmw : sh_m r * sh_w r ≤ 360 := Nat.mul_le_mul e2 e3
  unfold f_Rows_put
  rw [rows_cell hc hr hs (by omega) ha hb]
  by_cases h1 : a < s ∧ b < sh_w r
  · have hl : a * sh_w r + b < sh_m r * sh_w r := q_dm (by omega) h1.2
    rw [if_pos h1, if_pos h1, Option.bind_some, e1, q_len, if_neg (nI_pos (by omega)), if_pos (nI_lt hl (by omega)), q_gd hl (by omega), q_cl (by omega)]
    rfl
  · rw [if_neg h1, if_neg h1, Option.bind_some, if_pos q_n1]
theorem rows_put_neg {h : sh_H} {r : Nat} {x y v : Int32} (hx : x < 0 ∨ y < 0) : f_Rows_put r x y v h = some h := by
  unfold f_Rows_put
  rw [rows_cell_neg hx, Option.bind_some, if_pos q_n1]
/-! what a write leaves -/
theorem pI_at (h : sh_H) (c i j : Nat) (v : Int32) : (sh_pI h c i j v).1 c i j = v := if_pos ⟨rfl, rfl, rfl⟩
theorem pI_1 (h : sh_H) (c i j : Nat) (v : Int32) (c' i' j' : Nat) : (sh_pI h c i j v).1 c' i' j' = if c' = c ∧ i' = i ∧ j' = j then v else h.1 c' i' j' := rfl
theorem pI_2 (h : sh_H) (c i j : Nat) (v : Int32) : (sh_pI h c i j v).2 = h.2 := rfl
theorem pJ_1 (h : sh_H) (c i j : Nat) (v : Int64) : (sh_pJ h c i j v).1 = h.1 := rfl
theorem pJ_2 (h : sh_H) (c i j : Nat) (v : Int64) (c' i' j' : Nat) : (sh_pJ h c i j v).2.1 c' i' j' = if c' = c ∧ i' = i ∧ j' = j then v else h.2.1 c' i' j' := rfl
theorem pJ_3 (h : sh_H) (c i j : Nat) (v : Int64) : (sh_pJ h c i j v).2.2 = h.2.2 := rfl
