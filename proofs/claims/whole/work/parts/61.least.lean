/-! LEAST COIN: pure; the class's plan -/
theorem Math_max0s {a b : Nat} (ha : a < 2 ^ 30) (hb : b < 2 ^ 30) (h : sh_H) : f_Math_max 0 (nI a - nI b) h = some (nI (a - b)) := by
  by_cases c : b ≤ a
  · rw [q_sub c, Math_max0 (by omega)]
  · rw [Math_maxneg (pk_sneg hb (by omega)), show a - b = 0 by omega]
    rfl
theorem q_ss (a b c : Nat) : nI a - nI b - nI c = nI a - nI (b + c) := by
  rw [← nI_add, Int32.sub_eq_add_neg, Int32.sub_eq_add_neg, Int32.sub_eq_add_neg, Int32.neg_add, Int32.sub_eq_add_neg, Int32.add_assoc]
theorem q_sl {a b x : Nat} (ha : a < 2 ^ 30) (hb : b < 2 ^ 30) (hx : x < 2 ^ 30) : nI a - nI b < nI x ↔ a < b + x := by
  rw [Int32.lt_iff_toInt_lt, pk_sub_toInt ha hb, nI_toInt (by omega)]
  omega
def tj (X w W : Nat) (C : Nat → Int64) (s j : Nat) : Int64 := lN ((w + j - s) * X * W) + C (s - (w + j))
def tl (X w W : Nat) (C : Nat → Int64) (s : Nat) : Nat → Nat → Int64
  | 0, _ => 0
  | q + 1, j => tj X w W C s j + tl X w W C s q (j + 1)
def chs (g : Nat → Int64) : Nat → Nat → Int64 → Nat → Int64 × Nat
  | 0, _, b, o => (b, o)
  | q + 1, x, b, o => if g x < b then chs g q (x + 1) (g x) x else chs g q (x + 1) b o
/-- behind a boat's coming: of a month mo -/
def Bh (f : Nat → Int32) (p k d mo W : Nat) (C : Nat → Int64) (s : Nat) : Int64 := tl (wX f p) (wnt f (nI p) (nI k) (nI mo)) W C s (d + 1) 0
def mst (f : Nat → Int32) (p k mo s : Nat) : Nat := match bt f (nI p) (nI mo) with | none => 0 | some b => min (nv f (252 + 5 * b) / nv f (21 + 3 * k)) (nv f (38 + 2 * p) - s)
def cs2 (f : Nat → Int32) (p k d mo W : Nat) (C : Nat → Int64) (s x : Nat) : Int64 := match bt f (nI p) (nI mo) with | none => 0 | some b => lN ((nv f (253 + 5 * b) + x * nv f (22 + 3 * k)) * (W * (d + 1))) + Bh f p k d mo W C (s + x)
def stp (f : Nat → Int32) (p k d mo W : Nat) (C : Nat → Int64) (s : Nat) : Int64 × Nat := chs (cs2 f p k d mo W C s) (mst f p k mo s) 1 (Bh f p k d mo W C s) 0
/-- the costs of the last r months of n -/
def lv (f : Nat → Int32) (p k d m n : Nat) : Nat → Nat → Int64
  | 0 => fun _ => 0
  | r + 1 => fun s => (stp f p k d ((m + (n - 1 - r)) % 12) ((d + 1) ^ r) (lv f p k d m n r) s).1
theorem C_cost {H : sh_H} {s : Nat} (hs : s < 61) : f_Stocks_cost (nI s) H = some (H.2.1 14 3 s) := by
  unfold f_Stocks_cost
  have ei : ai_in (nI s) 61 := q_in hs (by omega)
  have ec : (nI s).toNatClampNeg = s := q_cl (by omega)
  rw [if_neg (nI_pos (by omega)), q_len, if_pos (nI_lt hs (by omega)), if_pos ei, ec]
theorem C_behind {H : sh_H} {s : Nat} (hs : s < 61) : f_Stocks_behind (nI s) H = some (H.2.1 14 4 s) := by
  unfold f_Stocks_behind
  have ei : ai_in (nI s) 61 := q_in hs (by omega)
  have ec : (nI s).toNatClampNeg = s := q_cl (by omega)
  rw [if_neg (nI_pos (by omega)), q_len, if_pos (nI_lt hs (by omega)), if_pos ei, ec]
theorem C_brings {H : sh_H} {s : Nat} (hs : s < 61) : f_Stocks_brings (nI s) H = some (H.1 13 37 s) := by
  unfold f_Stocks_brings
  have ei : ai_in (nI s) 61 := q_in hs (by omega)
  have ec : (nI s).toNatClampNeg = s := q_cl (by omega)
  rw [if_neg (nI_pos (by omega)), q_len, if_pos (nI_lt hs (by omega)), if_pos ei, ec]
theorem C_takeWanted {w d X W : Nat} (hw : w ≤ 9999) (hd : d ≤ 3) (hX : X ≤ 99) (C : Nat → Int64) (H0 : sh_H) (hC : ∀ s, s < 61 → H0.2.1 14 3 s = C s) : ∃ E, f_Stocks_takeWanted NF (nI w) (nI d) (nI X) (lN W) H0 = some E ∧ sC E H0 ∧ (∀ s, s < 61 → E.2.1 14 3 s = C s) ∧ (∀ s, s < 61 → E.2.1 14 4 s = tl X w W C s (d + 1) 0) := by
  have inn : ∀ (s : Nat) (hs : s < 61) (K : Int32 → Int32 → Int32 → Int64 → Int32 → Int64 → sh_H → Option sh_H) (H : sh_H), (∀ r, r < 61 → H.2.1 14 3 r = C r) → ∀ (q j u : Nat) (a : Int64), j + q = d + 1 → q < u → f_Stocks_takeWanted_l19 NF K u (nI w) (nI d) (nI X) (lN W) (nI s) a (nI j) H = K (nI w) (nI d) (nI X) (lN W) (nI s) (a + tl X w W C s q j) H := by
    intro s hs K H hH q
    induction q with
    | zero =>
      intro j u a e1 e2
      obtain ⟨u, rfl⟩ : ∃ m, u = m + 1 := ⟨u - 1, by omega⟩
      show f_Stocks_takeWanted_c19 NF K (f_Stocks_takeWanted_l19 NF K u) (nI w) (nI d) (nI X) (lN W) (nI s) a (nI j) H = _
      unfold f_Stocks_takeWanted_c19
      rw [if_pos (nI_lt (by omega) (by omega))]
      show _ = K (nI w) (nI d) (nI X) (lN W) (nI s) (a + 0) H
      rw [Int64.add_zero]
    | succ q ih =>
      intro j u a e1 e2
      obtain ⟨u, rfl⟩ : ∃ m, u = m + 1 := ⟨u - 1, by omega⟩
      show f_Stocks_takeWanted_c19 NF K (f_Stocks_takeWanted_l19 NF K u) (nI w) (nI d) (nI X) (lN W) (nI s) a (nI j) H = _
      unfold f_Stocks_takeWanted_c19
      have m1 : (w + j - s) * X ≤ 10003 * 99 := Nat.mul_le_mul (by omega) hX
      rw [if_neg (nI_nlt (by omega) (by omega)), nI_add, Math_max0s (by omega) (by omega), Option.bind_some, q_ss, Math_max0s (by omega) (by omega), Option.bind_some, C_cost (by omega), Option.bind_some, hH _ (by omega), q_mul, nI_l (by omega), lN_mul, nI_1, ih (j + 1) u _ (by omega) (by omega)]
      show _ = K (nI w) (nI d) (nI X) (lN W) (nI s) (a + ((lN ((w + j - s) * X * W) + C (s - (w + j))) + tl X w W C s q (j + 1))) H
      rw [Int64.add_assoc]
  have lp : ∀ (q s u : Nat) (H : sh_H), s + q = 61 → q < u → sC H H0 → (∀ r, r < 61 → H.2.1 14 3 r = C r) → (∀ r, r < s → H.2.1 14 4 r = tl X w W C r (d + 1) 0) → ∃ E, f_Stocks_takeWanted_l3 NF u (nI w) (nI d) (nI X) (lN W) (nI s) H = some E ∧ sC E H0 ∧ (∀ s, s < 61 → E.2.1 14 3 s = C s) ∧ (∀ s, s < 61 → E.2.1 14 4 s = tl X w W C s (d + 1) 0) := by
    intro q
    induction q with
    | zero =>
      intro s u H e1 e2 x h1 h2
      obtain ⟨u, rfl⟩ : ∃ m, u = m + 1 := ⟨u - 1, by omega⟩
      obtain rfl : s = 61 := by omega
      refine ⟨H, ?_, x, h1, h2⟩
      show f_Stocks_takeWanted_c3 NF (f_Stocks_takeWanted_l3 NF u) (nI w) (nI d) (nI X) (lN W) (nI 61) H = _
      unfold f_Stocks_takeWanted_c3
      rw [q_len, if_neg (nI_nlt (by omega) (by omega))]
    | succ q ih =>
      intro s u H e1 e2 x h1 h2
      obtain ⟨u, rfl⟩ : ∃ m, u = m + 1 := ⟨u - 1, by omega⟩
      show ∃ E, f_Stocks_takeWanted_c3 NF (f_Stocks_takeWanted_l3 NF u) (nI w) (nI d) (nI X) (lN W) (nI s) H = some E ∧ _
      unfold f_Stocks_takeWanted_c3
      have ei : ai_in (nI s) 61 := q_in (by omega) (by omega)
      have ec : (nI s).toNatClampNeg = s := q_cl (by omega)
      rw [q_len, if_pos (nI_lt (by omega) (by omega)), show f_Stocks_takeWanted_l19 NF _ NF (nI w) (nI d) (nI X) (lN W) (nI s) 0 0 H = _ from inn s (by omega) _ H h1 (d + 1) 0 NF 0 (by omega) (NF_gt (by omega))]
      unfold f_Stocks_takeWanted_b73
      rw [if_pos ei, ec, sh_let, nI_1, Int64.zero_add]
      refine ih (s + 1) u _ (by omega) (by omega) (sC.pJ (by unfold sjC; omega) x) (fun r hr => ?_) (fun r hr => ?_)
      · rw [pJ_ne (by omega)]; exact h1 r hr
      · by_cases e : r = s
        · subst e; rw [pJ_at]
        · rw [pJ_ne (by omega)]; exact h2 r (by omega)
  unfold f_Stocks_takeWanted
  exact lp 61 0 NF H0 (by omega) (NF_gt (by omega)) (sC.rf H0) hC (fun r hr => by omega)
