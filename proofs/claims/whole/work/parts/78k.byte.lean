/-! PAIR: read: bytes -/
theorem pI_pI {h : sh_H} {c i j : Nat} {v w : Int32} : sh_pI (sh_pI h c i j v) c i j w = sh_pI h c i j w := by
  refine Prod.ext ?_ rfl
  funext c' i' j'
  rw [pI_1, pI_1, pI_1]
  split <;> rfl
theorem pI_id {h : sh_H} {c i j : Nat} {v : Int32} (e : h.1 c i j = v) : sh_pI h c i j v = h := by
  refine Prod.ext ?_ rfl
  funext c' i' j'
  rw [pI_1]
  split
  · rename_i q; rw [q.1, q.2.1, q.2.2, e]
  · rfl
def TPc (B : Nat → Nat) (n : Nat) (H : sh_H) : Prop := n ≤ 2000 ∧ (∀ i, i < n → B i < 256) ∧ H.1 10 0 5 = nI n ∧ ∀ i, i < n → H.1 15 0 i = (nI (B i)).toInt8.toInt32
def TPm (B : Nat → Nat) (n : Nat) (G : sh_H) : Prop := n ≤ 2000 ∧ (∀ i, i < n → B i < 256) ∧ G.1 12 0 0 = nI n ∧ ∀ i, i < n → G.1 13 42 i = nI (B i)
theorem TPc_to {B : Nat → Nat} {n : Nat} {H H' : sh_H} (e : ∀ c i j, c = 15 ∨ (c = 10 ∧ i = 0 ∧ j = 5) → H'.1 c i j = H.1 c i j) (t : TPc B n H) : TPc B n H' := ⟨t.1, t.2.1, (e _ _ _ (Or.inr ⟨rfl, rfl, rfl⟩)).trans t.2.2.1, fun i hi => (e _ _ _ (Or.inl rfl)).trans (t.2.2.2 i hi)⟩
theorem TPm_to {B : Nat → Nat} {n : Nat} {H H' : sh_H} (e : ∀ c i j, (c = 13 ∧ i = 42) ∨ (c = 12 ∧ i = 0 ∧ j = 0) → H'.1 c i j = H.1 c i j) (t : TPm B n H) : TPm B n H' := ⟨t.1, t.2.1, (e _ _ _ (Or.inr ⟨rfl, rfl, rfl⟩)).trans t.2.2.1, fun i hi => (e _ _ _ (Or.inl ⟨rfl, rfl⟩)).trans (t.2.2.2 i hi)⟩
theorem b8_and : ∀ v, v < 256 → (nI v).toInt8.toInt32 &&& 255 = nI v := by decide +kernel
theorem C_byteAt {B : Nat → Nat} {n k : Nat} {H : sh_H} (t : TPc B n H) (hk : k < n) : f_Tokens_byteAt (nI k) H = some (nI (B k)) := by
  obtain ⟨t1, t2, t3, t4⟩ := t
  unfold f_Tokens_byteAt
  rw [if_neg (nI_pos (by omega)), t3, if_pos (nI_lt hk (by omega)), q_len, if_pos (nI_lt (by omega) (by omega)), if_pos (q_in (by omega) (by omega)), q_cl (by omega), t4 k hk, b8_and _ (t2 k hk)]
theorem C_byteEnd {B : Nat → Nat} {n k : Nat} {H : sh_H} (t : TPc B n H) (hk : n ≤ k) (h2 : k < 2 ^ 31) : f_Tokens_byteAt (nI k) H = some (-1) := by
  obtain ⟨t1, t2, t3, t4⟩ := t
  unfold f_Tokens_byteAt f_Tokens_byteAt_b28
  rw [if_neg (nI_pos (by omega)), t3, if_neg (nI_nlt hk (by omega))]
/-- the model's byte -/
def bA (B : Nat → Nat) (n k : Nat) : Nat := if k < n then B k else 0
theorem bA_in {B : Nat → Nat} {n k : Nat} (h : k < n) : bA B n k = B k := if_pos h
theorem bA_lt {B : Nat → Nat} {n k : Nat} {G : sh_H} (t : TPm B n G) : bA B n k < 256 := by
  unfold bA
  split
  · exact t.2.1 _ (by assumption)
  · omega
theorem M_byteAt {B : Nat → Nat} {n k : Nat} {G : sh_H} (t : TPm B n G) (h2 : k < 2 ^ 31) : f_M_byteAt (nI k) G = some (nI (bA B n k)) := by
  obtain ⟨t1, t2, t3, t4⟩ := t
  unfold f_M_byteAt bA
  by_cases hk : k < n
  · rw [t3, if_pos (nI_lt hk (by omega)), if_pos (q_in (by omega) (by omega)), q_cl (by omega), t4 k hk, if_pos hk]
  · rw [t3, if_neg (nI_nlt (by omega) (by omega)), if_neg hk]
    rfl
abbrev isL (b : Nat) : Prop := 97 ≤ b ∧ b ≤ 122
abbrev isD (b : Nat) : Prop := 48 ≤ b ∧ b ≤ 57
abbrev isB (b : Nat) : Prop := b = 9 ∨ b = 10 ∨ b = 13 ∨ b = 32
theorem C_isLetter {b : Nat} (hb : b < 256) (h : sh_H) : f_Tokens_isLetter (nI b) h = some (if isL b then 1 else 0) := by
  unfold f_Tokens_isLetter f_Tokens_isLetter_b16
  rw [q_nar0, q_nar1]
  by_cases h1 : b < 97
  · rw [if_pos (show nI b < (97 : Int32) from nI_lt (b := 97) h1 (by omega)), if_neg (fun q => by have := q.1; omega)]
  · rw [if_neg (show ¬ nI b < (97 : Int32) from nI_nlt (b := 97) (by omega) (by omega))]
    by_cases h2 : 122 < b
    · rw [if_pos (show (122 : Int32) < nI b from nI_lt (a := 122) h2 (by omega)), if_neg (fun q => by have := q.2; omega)]
    · rw [if_neg (show ¬ (122 : Int32) < nI b from nI_nlt (a := 122) (by omega) (by omega)), if_pos ⟨by omega, by omega⟩]
theorem C_isDigit {b : Nat} (hb : b < 256) (h : sh_H) : f_Tokens_isDigit (nI b) h = some (if isD b then 1 else 0) := by
  unfold f_Tokens_isDigit f_Tokens_isDigit_b16
  rw [q_nar0, q_nar1]
  by_cases h1 : b < 48
  · rw [if_pos (show nI b < (48 : Int32) from nI_lt (b := 48) h1 (by omega)), if_neg (fun q => by have := q.1; omega)]
  · rw [if_neg (show ¬ nI b < (48 : Int32) from nI_nlt (b := 48) (by omega) (by omega))]
    by_cases h2 : 57 < b
    · rw [if_pos (show (57 : Int32) < nI b from nI_lt (a := 57) h2 (by omega)), if_neg (fun q => by have := q.2; omega)]
    · rw [if_neg (show ¬ (57 : Int32) < nI b from nI_nlt (a := 57) (by omega) (by omega)), if_pos ⟨by omega, by omega⟩]
theorem M_isLetter {B : Nat → Nat} {n k : Nat} {G : sh_H} (t : TPm B n G) (h2 : k < 2 ^ 31) : f_M_isLetter (nI k) G = some (if isL (bA B n k) then 1 else 0) := by
  have hb := bA_lt (k := k) t
  unfold f_M_isLetter f_M_isLetter_b24
  rw [M_byteAt t h2, Option.bind_some, Option.bind_some, q_nar0, q_nar1]
  by_cases h1 : bA B n k < 97
  · rw [if_pos (show nI (bA B n k) < (97 : Int32) from nI_lt (b := 97) h1 (by omega)), if_neg (fun q => by have := q.1; omega)]
  · rw [if_neg (show ¬ nI (bA B n k) < (97 : Int32) from nI_nlt (b := 97) (by omega) (by omega))]
    by_cases h2 : 122 < bA B n k
    · rw [if_pos (show (122 : Int32) < nI (bA B n k) from nI_lt (a := 122) h2 (by omega)), if_neg (fun q => by have := q.2; omega)]
    · rw [if_neg (show ¬ (122 : Int32) < nI (bA B n k) from nI_nlt (a := 122) (by omega) (by omega)), if_pos ⟨by omega, by omega⟩]
theorem M_isDigit {B : Nat → Nat} {n k : Nat} {G : sh_H} (t : TPm B n G) (h2 : k < 2 ^ 31) : f_M_isDigit (nI k) G = some (if isD (bA B n k) then 1 else 0) := by
  have hb := bA_lt (k := k) t
  unfold f_M_isDigit f_M_isDigit_b24
  rw [M_byteAt t h2, Option.bind_some, Option.bind_some, q_nar0, q_nar1]
  by_cases h1 : bA B n k < 48
  · rw [if_pos (show nI (bA B n k) < (48 : Int32) from nI_lt (b := 48) h1 (by omega)), if_neg (fun q => by have := q.1; omega)]
  · rw [if_neg (show ¬ nI (bA B n k) < (48 : Int32) from nI_nlt (b := 48) (by omega) (by omega))]
    by_cases h2 : 57 < bA B n k
    · rw [if_pos (show (57 : Int32) < nI (bA B n k) from nI_lt (a := 57) h2 (by omega)), if_neg (fun q => by have := q.2; omega)]
    · rw [if_neg (show ¬ (57 : Int32) < nI (bA B n k) from nI_nlt (a := 57) (by omega) (by omega)), if_pos ⟨by omega, by omega⟩]
theorem C_isBlank {b : Nat} (hb : b < 256) (h : sh_H) : f_Tokens_isBlank (nI b) h = some (if isB b then 1 else 0) := by
  have e : ∀ c : Nat, c < 256 → (nI b = nI c) = (b = c) := fun c hc => propext (nI_eq (by omega) (by omega))
  unfold f_Tokens_isBlank f_Tokens_isBlank_b24
  rw [q_nar0, q_nar1, show (9 : Int32) = nI 9 from rfl, show (10 : Int32) = nI 10 from rfl, show (13 : Int32) = nI 13 from rfl, show (32 : Int32) = nI 32 from rfl]
  simp only [e 9 (by omega), e 10 (by omega), e 13 (by omega), e 32 (by omega)]
  by_cases h1 : b = 9
  · rw [if_pos h1, if_pos (Or.inl h1)]
  · by_cases h2 : b = 10
    · rw [if_neg h1, if_pos h2, if_pos (Or.inr (Or.inl h2))]
    · by_cases h3 : b = 13
      · rw [if_neg h1, if_neg h2, if_pos h3, if_pos (Or.inr (Or.inr (Or.inl h3)))]
      · by_cases h4 : b = 32
        · rw [if_neg h1, if_neg h2, if_neg h3, if_pos h4, if_pos (Or.inr (Or.inr (Or.inr h4)))]
        · rw [if_neg h1, if_neg h2, if_neg h3, if_neg h4, if_neg (by omega)]
/-- how long a run of bytes is -/
def rlen (P : Nat → Bool) : Nat → Nat → Nat
  | 0, _ => 0
  | q + 1, k => if P k = true then rlen P q (k + 1) + 1 else 0
theorem rlen_le {P : Nat → Bool} : ∀ {q k : Nat}, rlen P q k ≤ q := by
  intro q
  induction q with
  | zero => intro k; exact Nat.le_refl _
  | succ q ih =>
    intro k
    unfold rlen
    split
    · have := ih (k := k + 1); omega
    · omega
theorem rlen_all {P : Nat → Bool} : ∀ {q k j : Nat}, j < rlen P q k → P (k + j) = true := by
  intro q
  induction q with
  | zero => intro k j h; exact absurd h (by unfold rlen; omega)
  | succ q ih =>
    intro k j h
    unfold rlen at h
    by_cases c : P k = true
    · rw [if_pos c] at h
      match j with
      | 0 => exact c
      | j + 1 =>
        have := ih (k := k + 1) (j := j) (by omega)
        rwa [show k + 1 + j = k + (j + 1) by omega] at this
    · rw [if_neg c] at h; omega
theorem rlen_s {P : Nat → Bool} {q k : Nat} (h : P k = true) : rlen P (q + 1) k = rlen P q (k + 1) + 1 := if_pos h
theorem rlen_n {P : Nat → Bool} {q k : Nat} (h : ¬ P k = true) : rlen P (q + 1) k = 0 := if_neg h
def pB (B : Nat → Nat) (k : Nat) : Bool := decide (isB (B k))
def pL (B : Nat → Nat) (k : Nat) : Bool := decide (isL (B k))
def pD (B : Nat → Nat) (k : Nat) : Bool := decide (isD (B k))
theorem pB_iff {B : Nat → Nat} {k : Nat} : pB B k = true ↔ isB (B k) := decide_eq_true_iff
theorem pL_iff {B : Nat → Nat} {k : Nat} : pL B k = true ↔ isL (B k) := decide_eq_true_iff
theorem pD_iff {B : Nat → Nat} {k : Nat} : pD B k = true ↔ isD (B k) := decide_eq_true_iff
theorem C_skip {B : Nat → Nat} {n : Nat} : ∀ (q k u : Nat) (H : sh_H), k + q = n → q < u → TPc B n H → H.1 10 0 4 = nI k → f_Tokens_skipBlanks_l0 NF u H = some (sh_pI H 10 0 4 (nI (k + rlen (pB B) q k))) := by
  intro q
  induction q with
  | zero =>
    intro k u H e1 e2 t a
    obtain ⟨u, rfl⟩ : ∃ m, u = m + 1 := ⟨u - 1, by omega⟩
    have n2 := t.1
    show f_Tokens_skipBlanks_c0 NF (f_Tokens_skipBlanks_l0 NF u) H = _
    unfold f_Tokens_skipBlanks_c0
    rw [a, t.2.2.1, if_neg (nI_nlt (by omega) (by omega)), pI_id (show H.1 10 0 4 = nI (k + rlen (pB B) 0 k) from a)]
  | succ q ih =>
    intro k u H e1 e2 t a
    obtain ⟨u, rfl⟩ : ∃ m, u = m + 1 := ⟨u - 1, by omega⟩
    have n2 := t.1
    have hk : k < n := by omega
    show f_Tokens_skipBlanks_c0 NF (f_Tokens_skipBlanks_l0 NF u) H = _
    unfold f_Tokens_skipBlanks_c0
    rw [a, t.2.2.1, if_pos (nI_lt hk (by omega)), C_byteAt t hk, Option.bind_some, C_isBlank (t.2.1 k hk), Option.bind_some]
    by_cases c : isB (B k)
    · rw [if_pos c, if_neg q_10, sh_let, nI_1, rlen_s (pB_iff.mpr c)]
      rw [ih (k + 1) u (sh_pI H 10 0 4 (nI (k + 1))) (by omega) (by omega) (TPc_to (fun c i j h => pI_ne (by omega)) t) (pI_at _ _ _ _ _), pI_pI, show k + 1 + rlen (pB B) q (k + 1) = k + (rlen (pB B) q (k + 1) + 1) by omega]
    · rw [if_neg c, if_pos rfl, rlen_n (fun z => c (pB_iff.mp z)), pI_id (show H.1 10 0 4 = nI (k + 0) from a)]
