/-! WAYS: how many choices there are -/
def wy (n : Nat) : Nat → Nat
  | 0 => 1
  | i + 1 => wy n i * (n - i) / (i + 1)
def cz (d : Nat) : Nat → Nat
  | 0 => 1
  | i + 1 => cz d i / (i + 1) * (d + (i + 1)) + cz d i % (i + 1) * (d + (i + 1)) / (i + 1)
theorem wy_fits : ∀ n, n < 61 → ∀ i, i < 61 → wy n i * (n - i) < 2 ^ 63 := by decide +kernel
theorem cz_fits : ∀ d, d < 61 → ∀ i, i < 31 → d + i < 61 → cz d i < 2 ^ 62 := by decide +kernel
theorem wy_cz : ∀ n, n < 61 → ∀ k, k < n + 1 → wy n k = cz (n - if n - k < k then n - k else k) (if n - k < k then n - k else k) := by decide +kernel
theorem wy_0 : ∀ n, n < 61 → ∀ k, k < 61 → n < k → wy n k = 0 := by decide +kernel
theorem wy_pos : ∀ n, n < 61 → ∀ k, k < n + 1 → 0 < wy n k := by decide +kernel
def sw (n : Nat) : Nat → Nat
  | 0 => 0
  | k + 1 => sw n k + wy n k
theorem sw_le : ∀ n, n < 61 → sw n (n + 1) ≤ 2 ^ n := by decide +kernel
theorem wy_le : ∀ n, n < 61 → ∀ k, k < 61 → wy n k ≤ 2 ^ n := by decide +kernel
theorem l_pos {n : Nat} (h : n < 2 ^ 63) : ¬ lN n < 0 := by
  rw [Int64.lt_iff_toInt_lt, pk_lT h, show (0 : Int64).toInt = 0 from rfl]
  omega
theorem l_ne0 {n : Nat} (h0 : 0 < n) (h : n < 2 ^ 31) : ¬ (nI n).toInt64 = 0 := by
  rw [nI_l h, show (0 : Int64) = lN 0 from rfl, pk_lEQ (by omega) (by omega)]
  omega
theorem C_ways {n : Nat} (hn : n < 61) {t : Nat} (ht : t < 61) (h : sh_H) : f_Ledger_ways NF (nI n) (nI t) h = some (lN (wy n t)) := by
  unfold f_Ledger_ways
  rw [if_neg (nI_pos (by omega))]
  by_cases c : n < t
  · rw [if_pos (nI_lt c (by omega)), wy_0 n hn t ht c]
    rfl
  rw [if_neg (nI_nlt (by omega) (by omega))]
  have lp : ∀ (q i u : Nat), i + q = t → q < u → f_Ledger_ways_l16 NF (f_Ledger_ways_b42 NF) u (nI n) (nI t) (lN (wy n i)) (nI (i + 1)) h = some (lN (wy n t)) := by
    intro q
    induction q with
    | zero =>
      intro i u e1 e2
      obtain ⟨u, rfl⟩ : ∃ m, u = m + 1 := ⟨u - 1, by omega⟩
      obtain rfl : i = t := by omega
      show f_Ledger_ways_c16 NF (f_Ledger_ways_b42 NF) (f_Ledger_ways_l16 NF (f_Ledger_ways_b42 NF) u) (nI n) (nI i) (lN (wy n i)) (nI (i + 1)) h = _
      unfold f_Ledger_ways_c16 f_Ledger_ways_b42
      rw [if_pos (nI_lt (by omega) (by omega))]
    | succ q ih =>
      intro i u e1 e2
      obtain ⟨u, rfl⟩ : ∃ m, u = m + 1 := ⟨u - 1, by omega⟩
      show f_Ledger_ways_c16 NF (f_Ledger_ways_b42 NF) (f_Ledger_ways_l16 NF (f_Ledger_ways_b42 NF) u) (nI n) (nI t) (lN (wy n i)) (nI (i + 1)) h = _
      unfold f_Ledger_ways_c16
      have w := wy_fits n hn i (by omega)
      rw [if_neg (nI_nlt (by omega) (by omega)), if_pos (l_ne0 (by omega) (by omega)), q_sub (by omega), nI_1, nI_1, nI_l (by omega), nI_l (by omega), lN_mul, show n - (i + 1) + 1 = n - i by omega, pk_lDiv w (by omega) (by omega)]
      exact ih (i + 1) u (by omega) (by omega)
  exact lp t 0 NF (by omega) (NF_gt (by omega))
theorem C_ways_neg {x y : Int32} (hx : x < 0) (h : sh_H) : f_Ledger_ways NF y x h = some (lN 0) := by
  unfold f_Ledger_ways
  rw [if_pos hx]
  rfl
theorem M_chosen {n : Nat} (hn : n < 61) {t : Nat} (ht : t < 61) (h : sh_H) : f_M_chosen NF (nI n) (nI t) h = some (lN (wy n t)) := by
  unfold f_M_chosen
  rw [if_neg (nI_pos (by omega))]
  by_cases c : n < t
  · rw [if_pos (nI_lt c (by omega)), wy_0 n hn t ht c]
    rfl
  rw [if_neg (nI_nlt (by omega) (by omega)), q_sub (by omega)]
  have lp : ∀ (m : Nat), m ≤ 30 → m ≤ n → ∀ (q i u : Nat), i + q = m → q < u → f_M_chosen_l31 NF (f_M_chosen_b83 NF) u (nI n) (nI m) (lN (cz (n - m) i)) (nI (i + 1)) h = some (lN (cz (n - m) m)) := by
    intro m hm30 hmn q
    induction q with
    | zero =>
      intro i u e1 e2
      obtain ⟨u, rfl⟩ : ∃ m, u = m + 1 := ⟨u - 1, by omega⟩
      obtain rfl : i = m := by omega
      show f_M_chosen_c31 NF (f_M_chosen_b83 NF) (f_M_chosen_l31 NF (f_M_chosen_b83 NF) u) (nI n) (nI i) (lN (cz (n - i) i)) (nI (i + 1)) h = _
      unfold f_M_chosen_c31 f_M_chosen_b83
      rw [if_pos (nI_lt (by omega) (by omega))]
    | succ q ih =>
      intro i u e1 e2
      obtain ⟨u, rfl⟩ : ∃ m, u = m + 1 := ⟨u - 1, by omega⟩
      show f_M_chosen_c31 NF (f_M_chosen_b83 NF) (f_M_chosen_l31 NF (f_M_chosen_b83 NF) u) (nI n) (nI m) (lN (cz (n - m) i)) (nI (i + 1)) h = _
      unfold f_M_chosen_c31
      have w := cz_fits (n - m) (by omega) i (by omega) (by omega)
      have ne := l_ne0 (n := i + 1) (by omega) (by omega)
      have m1 : cz (n - m) i % (i + 1) < i + 1 := Nat.mod_lt _ (by omega)
      have m2 : cz (n - m) i % (i + 1) * (n - m + (i + 1)) ≤ 61 * 61 := Nat.mul_le_mul (by omega) (by omega)
      rw [if_neg (nI_nlt (by omega) (by omega)), if_pos ne, if_pos ne, if_pos ne, q_sub (by omega), nI_add, nI_1, nI_l (by omega), nI_l (n := n - m + (i + 1)) (by omega), pk_lRem (by omega) (by omega) (by omega), pk_lDiv (by omega) (by omega) (by omega), lN_mul, lN_mul, pk_lDiv (by omega) (by omega) (by omega), lN_add]
      exact ih (i + 1) u (by omega) (by omega)
  have wc := wy_cz n hn t (by omega)
  unfold f_M_chosen_b25
  by_cases e : n - t < t
  · rw [if_pos (nI_lt e (by omega)), wc, if_pos e]
    exact lp (n - t) (by omega) (by omega) (n - t) 0 NF (by omega) (NF_gt (by omega))
  · rw [if_neg (nI_nlt (by omega) (by omega)), wc, if_neg e]
    exact lp t (by omega) (by omega) t 0 NF (by omega) (NF_gt (by omega))
/-- the ways of F false among F + R, t taken, from j of them on -/
def fw (F R t : Nat) : Nat → Nat → Nat
  | 0, _ => 0
  | q + 1, j => wy F j * (if t < j then 0 else wy R (t - j)) + fw F R t q (j + 1)
theorem fw_0 {F R t : Nat} : ∀ {q j : Nat}, t < j → fw F R t q j = 0 := by
  intro q
  induction q with
  | zero => intro j _; rfl
  | succ q ih =>
    intro j h
    show wy F j * (if t < j then 0 else wy R (t - j)) + fw F R t q (j + 1) = 0
    rw [if_pos h, Nat.mul_zero, Nat.zero_add]
    exact ih (by omega)
theorem fw_le {F R t : Nat} (hR : R < 61) (ht : t < 61) : ∀ {q j : Nat}, fw F R t q j + sw F j * 2 ^ R ≤ sw F (j + q) * 2 ^ R := by
  intro q
  induction q with
  | zero => intro j; show 0 + _ ≤ _; rw [Nat.zero_add]; exact Nat.le_refl _
  | succ q ih =>
    intro j
    have i := ih (j := j + 1)
    have w : wy F j * (if t < j then 0 else wy R (t - j)) ≤ wy F j * 2 ^ R := by
      apply Nat.mul_le_mul_left
      split
      · exact Nat.zero_le _
      · exact wy_le R hR (t - j) (by omega)
    rw [show j + (q + 1) = j + 1 + q by omega]
    show wy F j * (if t < j then 0 else wy R (t - j)) + fw F R t q (j + 1) + _ ≤ _
    have e : sw F (j + 1) * 2 ^ R = sw F j * 2 ^ R + wy F j * 2 ^ R := by
      show (sw F j + wy F j) * 2 ^ R = _
      rw [Nat.add_mul]
    omega
theorem fw_lt {F R t q j : Nat} (hF : F + R < 61) (ht : t < 61) (hq : j + q = F + 1) : fw F R t q j < 2 ^ 61 := by
  have h := fw_le (F := F) (R := R) (t := t) (by omega) ht (q := q) (j := j)
  rw [hq] at h
  have s := sw_le F (by omega)
  have m : sw F (F + 1) * 2 ^ R ≤ 2 ^ F * 2 ^ R := Nat.mul_le_mul_right _ s
  rw [← Nat.pow_add] at m
  have p : 2 ^ (F + R) ≤ 2 ^ 60 := Nat.pow_le_pow_right (by omega) (by omega)
  have p2 : (2 : Nat) ^ 60 < 2 ^ 61 := by decide
  omega
/-! LESS LUCK: comparing two parts by their whole numbers and rests -/
def lsP : Nat → Nat → Nat → Nat → Nat → Bool → Bool
  | 0, _, _, _, _, _ => false
  | n + 1, a, b, c, d, t => if a / b = c / d then (if a % b = 0 ∧ c % d = 0 then false else if a % b = 0 ∨ c % d = 0 then xor t (decide (a % b = 0)) else lsP n b (a % b) d (c % d) (!t)) else xor t (decide (a / b < c / d))
theorem lsP_00 {n a b c d : Nat} {t : Bool} (e : a / b = c / d) (x : a % b = 0) (y : c % d = 0) : lsP (n + 1) a b c d t = false := (if_pos e).trans (if_pos ⟨x, y⟩)
theorem lsP_0 {n a b c d : Nat} {t : Bool} (e : a / b = c / d) (z : ¬ (a % b = 0 ∧ c % d = 0)) (o : a % b = 0 ∨ c % d = 0) : lsP (n + 1) a b c d t = xor t (decide (a % b = 0)) := (if_pos e).trans ((if_neg z).trans (if_pos o))
theorem lsP_s {n a b c d : Nat} {t : Bool} (e : a / b = c / d) (x : ¬ a % b = 0) (y : ¬ c % d = 0) : lsP (n + 1) a b c d t = lsP n b (a % b) d (c % d) (!t) := (if_pos e).trans ((if_neg (fun q => x q.1)).trans (if_neg (fun q => q.elim x y)))
theorem lsP_n {n a b c d : Nat} {t : Bool} (e : ¬ a / b = c / d) : lsP (n + 1) a b c d t = xor t (decide (a / b < c / d)) := if_neg e
def trm : Nat → Nat → Nat → Nat → Nat → Prop
  | 0, _, _, _, _ => False
  | n + 1, a, b, c, d => a / b ≠ c / d ∨ a % b = 0 ∨ c % d = 0 ∨ trm n b (a % b) d (c % d)
theorem mod_half {b r : Nat} (hr : 0 < r) (h : r < b) : 2 * (b % r) < b := by
  have h1 : b % r < r := Nat.mod_lt _ hr
  by_cases c : 2 * r ≤ b
  · omega
  · have : b % r = b - r := by rw [Nat.mod_eq_sub_mod (by omega), Nat.mod_eq_of_lt (by omega)]
    omega
theorem trm_of : ∀ (m a b c d : Nat), 0 < b → b < 2 ^ m → trm (2 * m) a b c d := by
  intro m
  induction m with
  | zero => intro a b c d h1 h2; omega
  | succ m ih =>
    intro a b c d h1 h2
    show a / b ≠ c / d ∨ a % b = 0 ∨ c % d = 0 ∨ (b / (a % b) ≠ d / (c % d) ∨ b % (a % b) = 0 ∨ d % (c % d) = 0 ∨ trm (2 * m) (a % b) (b % (a % b)) (c % d) (d % (c % d)))
    by_cases e1 : a % b = 0
    · exact Or.inr (Or.inl e1)
    by_cases e2 : b % (a % b) = 0
    · exact Or.inr (Or.inr (Or.inr (Or.inr (Or.inl e2))))
    refine Or.inr (Or.inr (Or.inr (Or.inr (Or.inr (Or.inr (ih _ _ _ _ (by omega) ?_))))))
    have := mod_half (b := b) (r := a % b) (by omega) (Nat.mod_lt _ h1)
    rw [Nat.pow_succ] at h2
    omega
def bI (t : Bool) : Int32 := if t = true then 1 else 0
theorem lc_lt {a b : Nat} (ha : a < 2 ^ 63) (hb : b < 2 ^ 63) : (lg_cmp (lN a) (lN b) < 0) ↔ a < b := by rw [lg_cmp_lt, pk_lLT ha hb]
theorem lc_eq {a b : Nat} (ha : a < 2 ^ 63) (hb : b < 2 ^ 63) : (lg_cmp (lN a) (lN b) = 0) ↔ a = b := by rw [lg_cmp_eq, pk_lEQ ha hb]
theorem lc_pos {a : Nat} (ha : a < 2 ^ 63) : (0 < lg_cmp (lN a) (0 : Int64)) ↔ 0 < a := by rw [lg_cmp_gt, show (0 : Int64) = lN 0 from rfl, pk_lLT (by omega) ha]
theorem lc_eq0 {a : Nat} (ha : a < 2 ^ 63) : (lg_cmp (lN a) (0 : Int64) = 0) ↔ a = 0 := by rw [lg_cmp_eq, show (0 : Int64) = lN 0 from rfl, pk_lEQ ha (by omega)]
theorem lN_ne0 {a : Nat} (h0 : 0 < a) (ha : a < 2 ^ 63) : ¬ lN a = 0 := by rw [show (0 : Int64) = lN 0 from rfl, pk_lEQ ha (by omega)]; omega
theorem C_less (h : sh_H) : ∀ (n a b c d i u : Nat) (t : Bool), trm n a b c d → 0 < b → 0 < d → a < 2 ^ 63 → b < 2 ^ 63 → c < 2 ^ 63 → d < 2 ^ 63 → i + n ≤ 1000 → n < u → f_Ledger_isLessLuck_l33 NF (f_Ledger_isLessLuck_b76 NF) (f_Ledger_isLessLuck_b152 NF) u (lN a) (lN b) (lN c) (lN d) (bI (!t)) (nI i) h = some (bI (lsP n a b c d t)) := by
  intro n
  induction n with
  | zero => intro a b c d i u t h1; exact h1.elim
  | succ n ih =>
    intro a b c d i u t h1 h2 h3 b1 b2 b3 b4 hi hu
    obtain ⟨u, rfl⟩ : ∃ m, u = m + 1 := ⟨u - 1, by omega⟩
    show f_Ledger_isLessLuck_c33 NF (f_Ledger_isLessLuck_b76 NF) (f_Ledger_isLessLuck_b152 NF) (f_Ledger_isLessLuck_l33 NF (f_Ledger_isLessLuck_b76 NF) (f_Ledger_isLessLuck_b152 NF) u) (lN a) (lN b) (lN c) (lN d) (bI (!t)) (nI i) h = _
    unfold f_Ledger_isLessLuck_c33 f_Ledger_isLessLuck_b144
    have q1 : a / b ≤ a := Nat.div_le_self _ _
    have q2 : c / d ≤ c := Nat.div_le_self _ _
    have r1 : a % b < b := Nat.mod_lt _ h2
    have r2 : c % d < d := Nat.mod_lt _ h3
    rw [if_pos (show nI i < (1000 : Int32) from nI_lt (b := 1000) (by omega) (by omega)), if_pos ((lc_pos b2).mpr h2), if_pos ((lc_pos b4).mpr h3), if_pos (lN_ne0 h2 b2), if_pos (lN_ne0 h3 b4), pk_lRem b1 h2 b2, pk_lRem b3 h3 b4, pk_lDiv b1 h2 b2, pk_lDiv b3 h3 b4]
    by_cases e : a / b = c / d
    · rw [if_pos ((lc_eq (by omega) (by omega)).mpr e)]
      have nx : (if bI (!t) = 0 then f_Ledger_isLessLuck_l33 NF (f_Ledger_isLessLuck_b76 NF) (f_Ledger_isLessLuck_b152 NF) u (lN b) (lN (a % b)) (lN d) (lN (c % d)) 1 (nI i + 1) h else f_Ledger_isLessLuck_l33 NF (f_Ledger_isLessLuck_b76 NF) (f_Ledger_isLessLuck_b152 NF) u (lN b) (lN (a % b)) (lN d) (lN (c % d)) 0 (nI i + 1) h) = f_Ledger_isLessLuck_l33 NF (f_Ledger_isLessLuck_b76 NF) (f_Ledger_isLessLuck_b152 NF) u (lN b) (lN (a % b)) (lN d) (lN (c % d)) (bI (!!t)) (nI (i + 1)) h := by
        rw [nI_1]
        cases t <;> rfl
      rw [nx]
      by_cases z : a % b = 0 ∨ c % d = 0
      · obtain ⟨u, rfl⟩ : ∃ m, u = m + 1 := ⟨u - 1, by omega⟩
        show f_Ledger_isLessLuck_c33 NF (f_Ledger_isLessLuck_b76 NF) (f_Ledger_isLessLuck_b152 NF) (f_Ledger_isLessLuck_l33 NF (f_Ledger_isLessLuck_b76 NF) (f_Ledger_isLessLuck_b152 NF) u) (lN b) (lN (a % b)) (lN d) (lN (c % d)) (bI (!!t)) (nI (i + 1)) h = _
        unfold f_Ledger_isLessLuck_c33 f_Ledger_isLessLuck_b152 f_Ledger_isLessLuck_b168 f_Ledger_isLessLuck_b182
        have p1 := lc_pos (a := a % b) (by omega)
        have p2 := lc_pos (a := c % d) (by omega)
        by_cases z1 : a % b = 0
        · have n1 : ¬ 0 < lg_cmp (lN (a % b)) (0 : Int64) := fun q => by have := p1.mp q; omega
          by_cases z2 : c % d = 0
          · have n2 : ¬ 0 < lg_cmp (lN (c % d)) (0 : Int64) := fun q => by have := p2.mp q; omega
            rw [lsP_00 e z1 z2, if_neg n1, if_neg n1, if_neg n2, ite_self]
            rfl
          · have n2 : 0 < lg_cmp (lN (c % d)) (0 : Int64) := p2.mpr (by omega)
            rw [lsP_0 e (fun q => z2 q.2) (Or.inl z1), if_neg n1, if_neg n1, if_pos n2, if_pos n2, ite_self, decide_eq_true z1]
            cases t <;> rfl
        · have z2 : c % d = 0 := z.resolve_left z1
          have n1 : 0 < lg_cmp (lN (a % b)) (0 : Int64) := p1.mpr (by omega)
          have n2 : ¬ 0 < lg_cmp (lN (c % d)) (0 : Int64) := fun q => by have := p2.mp q; omega
          rw [lsP_0 e (fun q => z1 q.1) (Or.inr z2), if_pos n1, if_neg n2, if_pos n1, if_neg n2, ite_self, decide_eq_false z1]
          cases t <;> rfl
      · have z1 : ¬ a % b = 0 := fun q => z (Or.inl q)
        have z2 : ¬ c % d = 0 := fun q => z (Or.inr q)
        rw [lsP_s e z1 z2]
        refine ih _ _ _ _ (i + 1) u (!t) ?_ (by omega) (by omega) b2 (by omega) b4 (by omega) (by omega) (by omega)
        rcases h1 with q | q | q | q
        · exact absurd e q
        · exact absurd q z1
        · exact absurd q z2
        · exact q
    · rw [if_neg (fun q => e ((lc_eq (by omega) (by omega)).mp q)), lsP_n e]
      unfold f_Ledger_isLessLuck_b76 f_Ledger_isLessLuck_b91
      by_cases l : a / b < c / d
      · rw [if_pos ((lc_lt (by omega) (by omega)).mpr l), decide_eq_true l]
        cases t <;> rfl
      · rw [if_neg (fun q => l ((lc_lt (by omega) (by omega)).mp q)), decide_eq_false l]
        cases t <;> rfl
theorem M_less (h : sh_H) : ∀ (n a b c d u : Nat) (t : Bool), trm n a b c d → 0 < b → 0 < d → a < 2 ^ 63 → b < 2 ^ 63 → c < 2 ^ 63 → d < 2 ^ 63 → n < u → f_M_isLess_l17 NF (f_M_isLess_b39 NF) (f_M_isLess_b107 NF) u (lN a) (lN b) (lN c) (lN d) (bI t) h = some (bI (lsP n a b c d t)) := by
  intro n
  induction n with
  | zero => intro a b c d u t h1; exact h1.elim
  | succ n ih =>
    intro a b c d u t h1 h2 h3 b1 b2 b3 b4 hu
    obtain ⟨u, rfl⟩ : ∃ m, u = m + 1 := ⟨u - 1, by omega⟩
    show f_M_isLess_c17 NF (f_M_isLess_b39 NF) (f_M_isLess_b107 NF) (f_M_isLess_l17 NF (f_M_isLess_b39 NF) (f_M_isLess_b107 NF) u) (lN a) (lN b) (lN c) (lN d) (bI t) h = _
    unfold f_M_isLess_c17 f_M_isLess_b93 f_M_isLess_b164
    have q1 : a / b ≤ a := Nat.div_le_self _ _
    have q2 : c / d ≤ c := Nat.div_le_self _ _
    have r1 : a % b < b := Nat.mod_lt _ h2
    have r2 : c % d < d := Nat.mod_lt _ h3
    have nb := lN_ne0 h2 b2
    have nd := lN_ne0 h3 b4
    rw [pk_lRem b1 h2 b2, pk_lRem b3 h3 b4, if_pos nb, if_pos nd, if_pos nb, if_pos nd, pk_lDiv b1 h2 b2, pk_lDiv b3 h3 b4]
    have p1 := lc_eq0 (a := a % b) (by omega)
    have p2 := lc_eq0 (a := c % d) (by omega)
    by_cases e : a / b = c / d
    · rw [if_pos ((lc_eq (by omega) (by omega)).mpr e)]
      unfold f_M_isLess_b107 f_M_isLess_b121
      by_cases z1 : a % b = 0
      · have n1 := p1.mpr z1
        by_cases z2 : c % d = 0
        · have n2 := p2.mpr z2
          rw [lsP_00 e z1 z2, if_pos n1, if_pos n2]
          rfl
        · have n2 : ¬ lg_cmp (lN (c % d)) (0 : Int64) = 0 := fun q => z2 (p2.mp q)
          rw [lsP_0 e (fun q => z2 q.2) (Or.inl z1), if_pos n1, if_neg n2, if_pos n1, if_pos n1, decide_eq_true z1]
          cases t <;> rfl
      · have n1 : ¬ lg_cmp (lN (a % b)) (0 : Int64) = 0 := fun q => z1 (p1.mp q)
        by_cases z2 : c % d = 0
        · have n2 := p2.mpr z2
          rw [lsP_0 e (fun q => z1 q.1) (Or.inr z2), if_neg n1, if_neg n1, if_pos n2, if_neg n1, decide_eq_false z1]
          cases t <;> rfl
        · have n2 : ¬ lg_cmp (lN (c % d)) (0 : Int64) = 0 := fun q => z2 (p2.mp q)
          rw [lsP_s e z1 z2, if_neg n1, if_neg n1, if_neg n2]
          have nx : (if bI t = 0 then f_M_isLess_l17 NF (f_M_isLess_b39 NF) (f_M_isLess_b107 NF) u (lN b) (lN (a % b)) (lN d) (lN (c % d)) 1 h else f_M_isLess_l17 NF (f_M_isLess_b39 NF) (f_M_isLess_b107 NF) u (lN b) (lN (a % b)) (lN d) (lN (c % d)) 0 h) = f_M_isLess_l17 NF (f_M_isLess_b39 NF) (f_M_isLess_b107 NF) u (lN b) (lN (a % b)) (lN d) (lN (c % d)) (bI (!t)) h := by
            cases t <;> rfl
          refine nx.trans (ih _ _ _ _ u (!t) ?_ (by omega) (by omega) b2 (by omega) b4 (by omega) (by omega))
          rcases h1 with q | q | q | q
          · exact absurd e q
          · exact absurd q z1
          · exact absurd q z2
          · exact q
    · rw [if_neg (fun q => e ((lc_eq (by omega) (by omega)).mp q)), lsP_n e]
      unfold f_M_isLess_b39 f_M_isLess_b54
      by_cases l : a / b < c / d
      · rw [if_pos ((lc_lt (by omega) (by omega)).mpr l), decide_eq_true l]
        cases t <;> rfl
      · rw [if_neg (fun q => l ((lc_lt (by omega) (by omega)).mp q)), decide_eq_false l]
        cases t <;> rfl
