/-! PAIR: read: all tokens -/
def skp (B : Nat → Nat) (n k : Nat) : Nat := k + rlen (pB B) (n - k) k
theorem skp_s {B : Nat → Nat} {n k : Nat} (h : k < n) (c : isB (B k)) : skp B n k = skp B n (k + 1) := by
  unfold skp
  rw [show n - k = (n - (k + 1)) + 1 by omega, rlen_s (pB_iff.mpr c)]
  omega
theorem skp_n {B : Nat → Nat} {n k : Nat} (h : k < n) (c : ¬ isB (B k)) : skp B n k = k := by
  unfold skp
  rw [show n - k = (n - (k + 1)) + 1 by omega, rlen_n (fun z => c (pB_iff.mp z))]
  rfl
theorem skp_in {B : Nat → Nat} {n k : Nat} (h : k ≤ n) : k ≤ skp B n k ∧ skp B n k ≤ n := by
  have := rlen_le (P := pB B) (q := n - k) (k := k)
  unfold skp
  omega
/-- where the token i's blanks begin, where it begins, its sort -/
def tps (B : Nat → Nat) (n : Nat) : Nat → Nat
  | 0 => 0
  | i + 1 => tkE B n (skp B n (tps B n i))
def tst (B : Nat → Nat) (n i : Nat) : Nat := skp B n (tps B n i)
def tT (B : Nat → Nat) (n i : Nat) : Nat := if tst B n i < n then tkS B n (tst B n i) else 23
def tV (B : Nat → Nat) (n i : Nat) : Nat := tkV B n (tst B n i)
def tX (B : Nat → Nat) (n i : Nat) : Nat := tkX B n (tst B n i)
def tY (B : Nat → Nat) (n i : Nat) : Nat := tkY B n (tst B n i)
abbrev tG (B : Nat → Nat) (n i : Nat) : Prop := tT B n i ≠ 23 ∧ tT B n i ≠ 24
theorem tps_s (B : Nat → Nat) (n i : Nat) : tps B n (i + 1) = tkE B n (tst B n i) := rfl
theorem tG_in {B : Nat → Nat} {n i : Nat} (h : tG B n i) : tst B n i < n := by
  by_cases c : tst B n i < n
  · exact c
  · exact absurd (if_neg c) h.1
theorem tps_le {B : Nat → Nat} {n : Nat} : ∀ {i : Nat}, (∀ j, j < i → tG B n j) → tps B n i ≤ n := by
  intro i h
  match i with
  | 0 => exact Nat.zero_le _
  | i + 1 =>
    rw [tps_s]
    exact (tkE_in (tG_in (h i (by omega)))).2
theorem tst_le {B : Nat → Nat} {n i : Nat} (h : ∀ j, j < i → tG B n j) : tst B n i ≤ n := (skp_in (tps_le h)).2
theorem tst_s {B : Nat → Nat} {n i : Nat} (h : ∀ j, j ≤ i → tG B n j) : tst B n i < tst B n (i + 1) := by
  have a := tkE_in (B := B) (tG_in (h i (by omega)))
  have b := skp_in (B := B) (n := n) (k := tps B n (i + 1)) (tps_le (fun j hj => h j (by omega)))
  rw [tps_s] at b
  show _ < skp B n (tps B n (i + 1))
  rw [tps_s]
  omega
theorem tst_lt {B : Nat → Nat} {n i : Nat} : ∀ {j : Nat}, i < j → (∀ x, x < j → tG B n x) → tst B n i < tst B n j := by
  intro j
  induction j with
  | zero => intro h; omega
  | succ j ih =>
    intro h g
    have a := tst_s (i := j) (fun x hx => g x (by omega))
    by_cases c : i < j
    · have := ih c (fun x hx => g x (by omega)); omega
    · rw [show i = j by omega]; exact a
theorem tkS_cl {B : Nat → Nat} {n k : Nat} : tkS B n k < 13 ∨ tkS B n k = 20 ∨ tkS B n k = 21 ∨ tkS B n k = 22 ∨ tkS B n k = 24 ∨ isS (tkS B n k) := by
  unfold tkS
  split
  · split
    · omega
    · rcases wfi_le (v := vf 27 (fun j => B (k + j) - 96) (rL B n k)) (q := 13) (i := 0) rfl with w | w
      · rw [w]; omega
      · omega
  · split
    · split <;> omega
    · split
      · split <;> omega
      · split
        · rename_i h; exact Or.inr (Or.inr (Or.inr (Or.inr (Or.inr h))))
        · omega
theorem tT_cl (B : Nat → Nat) (n i : Nat) : tT B n i < 13 ∨ tT B n i = 20 ∨ tT B n i = 21 ∨ tT B n i = 22 ∨ tT B n i = 23 ∨ tT B n i = 24 ∨ isS (tT B n i) := by
  unfold tT
  split
  · rcases tkS_cl (B := B) (n := n) (k := tst B n i) with h | h | h | h | h | h <;> omega
  · omega
theorem tT_lt (B : Nat → Nat) (n i : Nat) : tT B n i < 100 := by rcases tT_cl B n i with h | h | h | h | h | h | h <;> omega
theorem tT_in {B : Nat → Nat} {n i : Nat} (h : tT B n i ≠ 23) : tst B n i < n ∧ tT B n i = tkS B n (tst B n i) := by
  by_cases c : tst B n i < n
  · exact ⟨c, if_pos c⟩
  · exact absurd (if_neg c) h
theorem tk_name {B : Nat → Nat} {n k : Nat} (h : tkS B n k = 20) : isL (B k) ∧ rL B n k ≤ 8 := by
  unfold tkS at h
  by_cases c : isL (B k)
  · rw [if_pos c] at h
    by_cases d : 8 < rL B n k
    · rw [if_pos d] at h; omega
    · exact ⟨c, by omega⟩
  · rw [if_neg c] at h
    by_cases d : isD (B k)
    · rw [if_pos d] at h; split at h <;> omega
    · rw [if_neg d] at h
      by_cases e : B k = 61
      · rw [if_pos e] at h; split at h <;> omega
      · rw [if_neg e] at h
        by_cases s : isS (B k)
        · rw [if_pos s] at h; omega
        · rw [if_neg s] at h; omega
theorem tk_int {B : Nat → Nat} {n k : Nat} (h : tkS B n k = 21) : rD B n k ≤ 4 := by
  unfold tkS at h
  by_cases c : isL (B k)
  · rw [if_pos c] at h
    by_cases d : 8 < rL B n k
    · rw [if_pos d] at h; omega
    · rw [if_neg d] at h
      rcases wfi_le (v := vf 27 (fun j => B (k + j) - 96) (rL B n k)) (q := 13) (i := 0) rfl with w | w <;> omega
  · rw [if_neg c] at h
    by_cases d : isD (B k)
    · rw [if_pos d] at h
      by_cases e : 4 < rD B n k
      · rw [if_pos e] at h; omega
      · omega
    · rw [if_neg d] at h
      by_cases e : B k = 61
      · rw [if_pos e] at h; split at h <;> omega
      · rw [if_neg e] at h
        by_cases s : isS (B k)
        · rw [if_pos s] at h; omega
        · rw [if_neg s] at h; omega
theorem tV_le {B : Nat → Nat} {n i : Nat} (h : tT B n i = 21) : tV B n i ≤ 9999 := by
  obtain ⟨a, b⟩ := tT_in (B := B) (n := n) (i := i) (by omega)
  have r := tk_int (b.symm.trans h)
  have v := vf_le (Bs := 10) (D := 9) (by omega) (f := fun j => B (tst B n i + j) - 48) (m := rD B n (tst B n i)) (fun j hj => by have := (rD_all hj).2; show B (tst B n i + j) - 48 ≤ 9; omega)
  have p := pow_up (Bs := 10) r (by omega)
  have q : (10 : Nat) ^ 4 = 10000 := by decide
  unfold tV tkV
  omega
theorem tX_in {B : Nat → Nat} {n i : Nat} (h : tT B n i = 20) : 0 < tX B n i ∧ tX B n i < 2 ^ 41 ∧ tY B n i < 2 ^ 41 := by
  obtain ⟨a, b⟩ := tT_in (B := B) (n := n) (i := i) (by omega)
  obtain ⟨c, r⟩ := tk_name (b.symm.trans h)
  have hl : ∀ j, j < rL B n (tst B n i) → (fun j => B (tst B n i + j) - 96) j ≤ 26 := fun j hj => by have := (rL_all hj).2; show B (tst B n i + j) - 96 ≤ 26; omega
  have v := vf_le (Bs := 32) (D := 26) (by omega) (f := fun j => B (tst B n i + j) - 96) (m := rL B n (tst B n i)) hl
  have v' := vf_le (Bs := 27) (D := 26) (by omega) (f := fun j => B (tst B n i + j) - 96) (m := rL B n (tst B n i)) hl
  have p := pow_up (Bs := 32) r (by omega)
  have p' := pow_up (Bs := 27) r (by omega)
  have q : (32 : Nat) ^ 8 < 2 ^ 41 := by decide
  have q' : (27 : Nat) ^ 8 < 2 ^ 41 := by decide
  have rp := rL_pos a c
  unfold tX tY tkX tkY
  rw [show min (rL B n (tst B n i)) 8 = rL B n (tst B n i) by omega]
  refine ⟨?_, by omega, by omega⟩
  rw [show rL B n (tst B n i) = (rL B n (tst B n i) - 1) + 1 by omega]
  exact vf_pos (by have := (rL_all (B := B) (n := n) (k := tst B n i) (j := rL B n (tst B n i) - 1) (by omega)).1; show 1 ≤ B (tst B n i + (rL B n (tst B n i) - 1)) - 96; omega)
theorem tX_iff {B : Nat → Nat} {n i j : Nat} (hi : tT B n i = 20) (hj : tT B n j = 20) : tX B n i = tX B n j ↔ tY B n i = tY B n j := by
  obtain ⟨a, b⟩ := tT_in (B := B) (n := n) (i := i) (by omega)
  obtain ⟨c, r⟩ := tk_name (b.symm.trans hi)
  obtain ⟨a', b'⟩ := tT_in (B := B) (n := n) (i := j) (by omega)
  obtain ⟨c', r'⟩ := tk_name (b'.symm.trans hj)
  have l1 : ∀ x, x < rL B n (tst B n i) → 1 ≤ (fun x => B (tst B n i + x) - 96) x ∧ (fun x => B (tst B n i + x) - 96) x ≤ 26 := fun x hx => by have := rL_all hx; show 1 ≤ B (tst B n i + x) - 96 ∧ B (tst B n i + x) - 96 ≤ 26; omega
  have l2 : ∀ x, x < rL B n (tst B n j) → 1 ≤ (fun x => B (tst B n j + x) - 96) x ∧ (fun x => B (tst B n j + x) - 96) x ≤ 26 := fun x hx => by have := rL_all hx; show 1 ≤ B (tst B n j + x) - 96 ∧ B (tst B n j + x) - 96 ≤ 26; omega
  unfold tX tY tkX tkY
  rw [show min (rL B n (tst B n i)) 8 = rL B n (tst B n i) by omega, show min (rL B n (tst B n j)) 8 = rL B n (tst B n j) by omega]
  constructor
  · intro e
    obtain ⟨e1, e2⟩ := vf_inj (by omega) l1 l2 e
    rw [← e1]
    exact vf_cg e2
  · intro e
    obtain ⟨e1, e2⟩ := vf_inj (by omega) l1 l2 e
    rw [← e1]
    exact vf_cg e2
/-- the class's tokens, the model's tokens -/
def CT (B : Nat → Nat) (n i : Nat) (H : sh_H) : Prop := ∀ j, j < i → H.1 13 18 j = nI (tT B n j) ∧ H.1 13 19 j = nI (tst B n j) ∧ (tT B n j = 20 → H.2.1 14 0 j = lN (tX B n j)) ∧ (tT B n j = 21 → H.2.1 14 0 j = lN (tV B n j))
def MT (B : Nat → Nat) (n i : Nat) (G : sh_H) : Prop := ∀ j, j < i → G.1 13 43 j = nI (mso (tT B n j)) ∧ G.1 13 44 j = nI (tst B n j) ∧ ((tT B n j < 13 ∨ 40 ≤ tT B n j) → G.1 13 45 j = nI (tT B n j)) ∧ (tT B n j = 21 → G.1 13 45 j = nI (tV B n j)) ∧ (tT B n j = 22 → G.1 13 45 j = nI 300) ∧ (tT B n j = 20 → G.2.1 14 5 j = lN (tY B n j))
def ckF (H' H : sh_H) : Prop := (∀ c i j, c ≠ 10 → ¬ (c = 13 ∧ (i = 18 ∨ i = 19)) → H'.1 c i j = H.1 c i j) ∧ (∀ c i j, c ≠ 10 → ¬ (c = 14 ∧ i = 0) → H'.2.1 c i j = H.2.1 c i j) ∧ H'.2.2 = H.2.2 ∧ H'.1 10 0 5 = H.1 10 0 5
theorem ckF.rf (H : sh_H) : ckF H H := ⟨fun _ _ _ _ _ => rfl, fun _ _ _ _ _ => rfl, rfl, rfl⟩
theorem ckF.tr {a b c : sh_H} (x : ckF a b) (y : ckF b c) : ckF a c := ⟨fun c i j n m => (x.1 c i j n m).trans (y.1 c i j n m), fun c i j n m => (x.2.1 c i j n m).trans (y.2.1 c i j n m), x.2.2.1.trans y.2.2.1, x.2.2.2.trans y.2.2.2⟩
theorem CT_to {B : Nat → Nat} {n i : Nat} {H H' : sh_H} (e1 : ∀ x j, x = 18 ∨ x = 19 → j < i → H'.1 13 x j = H.1 13 x j) (e2 : ∀ j, j < i → H'.2.1 14 0 j = H.2.1 14 0 j) (h : CT B n i H) : CT B n i H' := fun j hj => by
  obtain ⟨a, b, c, d⟩ := h j hj
  exact ⟨(e1 18 j (Or.inl rfl) hj).trans a, (e1 19 j (Or.inr rfl) hj).trans b, fun z => (e2 j hj).trans (c z), fun z => (e2 j hj).trans (d z)⟩
theorem MT_to {B : Nat → Nat} {n i : Nat} {G G' : sh_H} (e1 : ∀ x j, 43 ≤ x → x ≤ 45 → j < i → G'.1 13 x j = G.1 13 x j) (e2 : ∀ j, j < i → G'.2.1 14 5 j = G.2.1 14 5 j) (h : MT B n i G) : MT B n i G' := fun j hj => by
  obtain ⟨a, b, c, d, e, f⟩ := h j hj
  exact ⟨(e1 43 j (by omega) (by omega) hj).trans a, (e1 44 j (by omega) (by omega) hj).trans b, fun z => (e1 45 j (by omega) (by omega) hj).trans (c z), fun z => (e1 45 j (by omega) (by omega) hj).trans (d z), fun z => (e1 45 j (by omega) (by omega) hj).trans (e z), fun z => (e2 j hj).trans (f z)⟩
theorem pJ_f {h : sh_H} {c i j : Nat} {v : Int64} (c' i' j' : Nat) : (sh_pJ h c i j v).1 c' i' j' = h.1 c' i' j' := rfl
theorem hAt_ne {H : sh_H} {k : Nat} {v : Int64} {c i j : Nat} (q : ¬ (c = 10 ∧ i = 0 ∧ j = 4)) : (hAt H k v).1 c i j = H.1 c i j := by
  show (sh_pI H 10 0 4 (nI k)).1 c i j = _
  exact pI_ne q
theorem C_scan_loop {B : Nat → Nat} {n : Nat} : ∀ (q i u : Nat) (H : sh_H), i + q = 401 → q < u → TPc B n H → rStr H → CT B n i H → (∀ j, j < i → tG B n j) → H.1 10 0 3 = nI i → H.1 10 0 4 = nI (tps B n i) → ∃ sz H', f_Tokens_scan_l25 NF u 1 (nI i) H = some H' ∧ sz ≤ 401 ∧ H'.1 10 0 3 = nI sz ∧ CT B n sz H' ∧ (∀ j, j + 1 < sz → tG B n j) ∧ (sz = 401 ∨ (0 < sz ∧ ¬ tG B n (sz - 1))) ∧ ckF H' H := by
  intro q
  induction q with
  | zero =>
    intro i u H e1 e2 t hs ct g hz ha
    obtain ⟨u, rfl⟩ : ∃ m, u = m + 1 := ⟨u - 1, by omega⟩
    refine ⟨401, H, ?_, Nat.le_refl _, by rw [hz]; congr 1, by rw [show 401 = i by omega]; exact ct, fun j hj => g j (by omega), Or.inl rfl, ckF.rf _⟩
    show f_Tokens_scan_c25 NF (f_Tokens_scan_l25 NF u) 1 (nI i) H = _
    unfold f_Tokens_scan_c25
    rw [q_len, if_neg (nI_nlt (by omega) (by omega))]
  | succ q ih =>
    intro i u H e1 e2 t hs ct g hz ha
    obtain ⟨u, rfl⟩ : ∃ m, u = m + 1 := ⟨u - 1, by omega⟩
    obtain ⟨u', hu'⟩ : ∃ m, u = m + 1 := ⟨u - 1, by omega⟩
    have n2 := t.1
    have pl := tps_le g
    have sl := tst_le g
    have sk := C_skip (n - tps B n i) (tps B n i) NF H (by omega) (NF_gt (by omega)) t ha
    rw [show tps B n i + rlen (pB B) (n - tps B n i) (tps B n i) = tst B n i from rfl] at sk
    have i401 : ai_in (nI i) 401 := q_in (by omega) (by omega)
    have c401 : (nI i).toNatClampNeg = i := q_cl (by omega)
    -- the heap before the token
    have t3 : TPc B n (sh_pJ (sh_pI (sh_pI H 10 0 4 (nI (tst B n i))) 13 19 i (nI (tst B n i))) 10 0 6 0) := TPc_to (fun c i j h => (pI_ne (by omega)).trans (pI_ne (by omega))) t
    have s3 : rStr (sh_pJ (sh_pI (sh_pI H 10 0 4 (nI (tst B n i))) 13 19 i (nI (tst B n i))) 10 0 6 0) := fun a b => ((pJ_f _ _ _).trans ((pI_ne (by omega)).trans (pI_ne (by omega)))).trans (hs a b)
    have a3 : (sh_pJ (sh_pI (sh_pI H 10 0 4 (nI (tst B n i))) 13 19 i (nI (tst B n i))) 10 0 6 0).1 10 0 4 = nI (tst B n i) := (pJ_f _ _ _).trans ((pI_ne (by omega)).trans (pI_at _ _ _ _ _))
    have v3 : (sh_pJ (sh_pI (sh_pI H 10 0 4 (nI (tst B n i))) 13 19 i (nI (tst B n i))) 10 0 6 0).2.1 10 0 6 = 0 := by rw [pJ_2, if_pos ⟨rfl, rfl, rfl⟩]
    have f3 : ∀ c x j, c ≠ 10 → ¬ (c = 13 ∧ x = 19 ∧ j = i) → (sh_pJ (sh_pI (sh_pI H 10 0 4 (nI (tst B n i))) 13 19 i (nI (tst B n i))) 10 0 6 0).1 c x j = H.1 c x j := fun c x j h1 h2 => (pJ_f _ _ _).trans ((pI_ne (by omega)).trans (pI_ne (by omega)))
    have z3 : (sh_pJ (sh_pI (sh_pI H 10 0 4 (nI (tst B n i))) 13 19 i (nI (tst B n i))) 10 0 6 0).1 10 0 5 = H.1 10 0 5 := (pJ_f _ _ _).trans ((pI_ne (by omega)).trans (pI_ne (by omega)))
    have p3 : (sh_pJ (sh_pI (sh_pI H 10 0 4 (nI (tst B n i))) 13 19 i (nI (tst B n i))) 10 0 6 0).1 13 19 i = nI (tst B n i) := (pJ_f _ _ _).trans (pI_at _ _ _ _ _)
    have j3 : ∀ c x j, c ≠ 10 → (sh_pJ (sh_pI (sh_pI H 10 0 4 (nI (tst B n i))) 13 19 i (nI (tst B n i))) 10 0 6 0).2.1 c x j = H.2.1 c x j := fun c x j h1 => by rw [pJ_2, if_neg (fun z => h1 z.1)]; rfl
    have k3 : (sh_pJ (sh_pI (sh_pI H 10 0 4 (nI (tst B n i))) 13 19 i (nI (tst B n i))) 10 0 6 0).2.2 = H.2.2 := rfl
    -- the loop's step
    have stp : f_Tokens_scan_l25 NF (u + 1) 1 (nI i) H = sh_b2 (f_Tokens_next NF (sh_pJ (sh_pI (sh_pI H 10 0 4 (nI (tst B n i))) 13 19 i (nI (tst B n i))) 10 0 6 0)) (fun v4 h5 => if ai_in (nI i) 401 then (sh_let (sh_pI h5 13 18 (nI i).toNatClampNeg v4) (fun h6 => (if ai_in (nI i) 401 then (sh_let (sh_pJ h6 14 0 (nI i).toNatClampNeg (h6.2.1 10 0 6)) (fun h7 => (sh_let (sh_pI h7 10 0 3 (nI i + (1 : Int32))) (fun h8 => (if ai_in (nI i) 401 then (if (h8.1 13 18 (nI i).toNatClampNeg) = (23 : Int32) then f_Tokens_scan_b139 NF (f_Tokens_scan_l25 NF u) (nI i) h8 else (if ai_in (nI i) 401 then (if (h8.1 13 18 (nI i).toNatClampNeg) = (24 : Int32) then f_Tokens_scan_b139 NF (f_Tokens_scan_l25 NF u) (nI i) h8 else f_Tokens_scan_b140 NF (f_Tokens_scan_l25 NF u) (nI i) (1 : Int32) h8) else none)) else none))))) else none))) else none) := by
      show f_Tokens_scan_c25 NF (f_Tokens_scan_l25 NF u) 1 (nI i) H = _
      unfold f_Tokens_scan_c25
      rw [q_len, if_pos (nI_lt (by omega) (by omega)), if_pos (nI_lt (by omega) (by omega)), if_pos (nI_lt (by omega) (by omega)), if_neg q_10]
      unfold f_Tokens_skipBlanks
      rw [sk, Option.bind_some, if_pos i401, sh_let, sh_let, show sh_pI (sh_pI H 10 0 4 (nI (tst B n i))) 13 19 (nI i).toNatClampNeg ((sh_pI H 10 0 4 (nI (tst B n i))).1 10 0 4) = sh_pI (sh_pI H 10 0 4 (nI (tst B n i))) 13 19 i (nI (tst B n i)) by rw [c401, pI_at]]
    rw [stp]
    generalize sh_pJ (sh_pI (sh_pI H 10 0 4 (nI (tst B n i))) 13 19 i (nI (tst B n i))) 10 0 6 0 = h3 at *
    have nx : ∃ E v, f_Tokens_next NF h3 = some (nI (tT B n i), hAt h3 E v) ∧ (tst B n i < n → E = tkE B n (tst B n i)) ∧ (tT B n i = 20 → v = lN (tX B n i)) ∧ (tT B n i = 21 → v = lN (tV B n i)) := by
      by_cases c : tst B n i < n
      · obtain ⟨v, e1, e2, e3⟩ := C_next t3 s3 c a3 v3
        have es : tT B n i = tkS B n (tst B n i) := if_pos c
        rw [es]
        exact ⟨_, v, e1, fun _ => rfl, e2, e3⟩
      · have es : tT B n i = 23 := if_neg c
        rw [es]
        refine ⟨tst B n i, 0, ?_, fun z => absurd z c, fun z => by omega, fun z => by omega⟩
        unfold f_Tokens_next
        rw [a3, C_byteEnd t3 (by omega) (by omega), Option.bind_some, if_pos rfl, hAt_id a3 v3]
        rfl
    obtain ⟨E, v, n1, n2', n3, n4⟩ := nx
    have tl := tT_lt B n i
    rw [n1, sh_b2_some, if_pos i401, sh_let, if_pos i401, sh_let, sh_let, if_pos i401, if_pos i401, c401, nI_1]
    rw [show (sh_pI (hAt h3 E v) 13 18 i (nI (tT B n i))).2.1 10 0 6 = v from hAt_v h3 E v]
    have c8 : (sh_pI (sh_pJ (sh_pI (hAt h3 E v) 13 18 i (nI (tT B n i))) 14 0 i v) 10 0 3 (nI (i + 1))).1 13 18 i = nI (tT B n i) := (pI_ne (by omega)).trans (pI_at _ _ _ _ _)
    rw [c8]
    have z8 : (sh_pI (sh_pJ (sh_pI (hAt h3 E v) 13 18 i (nI (tT B n i))) 14 0 i v) 10 0 3 (nI (i + 1))).1 10 0 3 = nI (i + 1) := pI_at _ _ _ _ _
    have a8 : (sh_pI (sh_pJ (sh_pI (hAt h3 E v) 13 18 i (nI (tT B n i))) 14 0 i v) 10 0 3 (nI (i + 1))).1 10 0 4 = nI E := by rw [pI_ne (by omega), pJ_f, pI_ne (by omega)]; exact hAt_a _ _ _
    have f8 : ∀ c x j, c ≠ 10 → ¬ (c = 13 ∧ (x = 18 ∨ x = 19) ∧ j = i) → (sh_pI (sh_pJ (sh_pI (hAt h3 E v) 13 18 i (nI (tT B n i))) 14 0 i v) 10 0 3 (nI (i + 1))).1 c x j = H.1 c x j := fun c x j h1 h2 => by rw [pI_ne (by omega), pJ_f, pI_ne (by omega), hAt_ne (by omega)]; exact f3 c x j h1 (by omega)
    have w8 : (sh_pI (sh_pJ (sh_pI (hAt h3 E v) 13 18 i (nI (tT B n i))) 14 0 i v) 10 0 3 (nI (i + 1))).1 10 0 5 = H.1 10 0 5 := by rw [pI_ne (by omega), pJ_f, pI_ne (by omega), hAt_ne (by omega)]; exact z3
    have p8 : (sh_pI (sh_pJ (sh_pI (hAt h3 E v) 13 18 i (nI (tT B n i))) 14 0 i v) 10 0 3 (nI (i + 1))).1 13 19 i = nI (tst B n i) := by rw [pI_ne (by omega), pJ_f, pI_ne (by omega), hAt_ne (by omega)]; exact p3
    have j8 : ∀ c x j, c ≠ 10 → ¬ (c = 14 ∧ x = 0 ∧ j = i) → (sh_pI (sh_pJ (sh_pI (hAt h3 E v) 13 18 i (nI (tT B n i))) 14 0 i v) 10 0 3 (nI (i + 1))).2.1 c x j = H.2.1 c x j := fun c x j h1 h2 => (if_neg h2).trans ((if_neg (fun z => h1 z.1)).trans (j3 c x j h1))
    have q8 : (sh_pI (sh_pJ (sh_pI (hAt h3 E v) 13 18 i (nI (tT B n i))) 14 0 i v) 10 0 3 (nI (i + 1))).2.1 14 0 i = v := if_pos ⟨rfl, rfl, rfl⟩
    have k8 : (sh_pI (sh_pJ (sh_pI (hAt h3 E v) 13 18 i (nI (tT B n i))) 14 0 i v) 10 0 3 (nI (i + 1))).2.2 = H.2.2 := k3
    generalize sh_pI (sh_pJ (sh_pI (hAt h3 E v) 13 18 i (nI (tT B n i))) 14 0 i v) 10 0 3 (nI (i + 1)) = h8 at *
    have ct8 : CT B n (i + 1) h8 := by
      intro j hj
      by_cases c : j < i
      · exact (CT_to (fun x j h1 h2 => f8 13 x j (by omega) (by omega)) (fun j h2 => j8 14 0 j (by omega) (by omega)) ct) j c
      · obtain rfl : j = i := by omega
        exact ⟨c8, p8, fun z => q8.trans (n3 z), fun z => q8.trans (n4 z)⟩
    have fr8 : ckF h8 H := ⟨fun c x j h1 h2 => f8 c x j h1 (by omega), fun c x j h1 h2 => j8 c x j h1 (by omega), k8, w8⟩
    have bad : ¬ tG B n i → ∃ sz H', f_Tokens_scan_b139 NF (f_Tokens_scan_l25 NF u) (nI i) h8 = some H' ∧ sz ≤ 401 ∧ H'.1 10 0 3 = nI sz ∧ CT B n sz H' ∧ (∀ j, j + 1 < sz → tG B n j) ∧ (sz = 401 ∨ (0 < sz ∧ ¬ tG B n (sz - 1))) ∧ ckF H' H := by
      intro nb
      refine ⟨i + 1, h8, ?_, by omega, z8, ct8, fun j hj => g j (by omega), Or.inr ⟨by omega, nb⟩, fr8⟩
      unfold f_Tokens_scan_b139 f_Tokens_scan_b140
      rw [nI_1, hu']
      show f_Tokens_scan_c25 NF (f_Tokens_scan_l25 NF u') 0 (nI (i + 1)) h8 = _
      unfold f_Tokens_scan_c25
      rw [q_len]
      by_cases w : i + 1 < 401
      · rw [if_pos (nI_lt w (by omega)), if_pos (nI_lt w (by omega)), if_pos (nI_lt w (by omega)), if_pos rfl]
      · rw [if_neg (nI_nlt (by omega) (by omega))]
    by_cases c23 : tT B n i = 23
    · rw [if_pos (show nI (tT B n i) = 23 by rw [c23]; rfl)]
      exact bad (fun z => z.1 c23)
    · rw [if_neg (show ¬ nI (tT B n i) = 23 from nI_ne (b := 23) c23 (by omega) (by omega))]
      by_cases c24 : tT B n i = 24
      · rw [if_pos (show nI (tT B n i) = 24 by rw [c24]; rfl)]
        exact bad (fun z => z.2 c24)
      · rw [if_neg (show ¬ nI (tT B n i) = 24 from nI_ne (b := 24) c24 (by omega) (by omega))]
        unfold f_Tokens_scan_b140
        rw [nI_1]
        have gi : tG B n i := ⟨c23, c24⟩
        obtain ⟨sz, H', r1, r2, r3, r4, r5, r6, r7⟩ := ih (i + 1) u h8 (by omega) (by omega) (TPc_to (fun c x j h => by
          rcases h with rfl | ⟨rfl, rfl, rfl⟩
          · exact f8 _ _ _ (by omega) (by omega)
          · exact w8) t) (fun a b => (f8 19 a b (by omega) (by omega)).trans (hs a b)) ct8 (fun j hj => by
            by_cases z : j < i
            · exact g j z
            · rw [show j = i by omega]; exact gi) z8 (by rw [a8, n2' (tG_in gi)]; rfl)
        exact ⟨sz, H', r1, r2, r3, r4, r5, r6, r7.tr fr8⟩
def mkF (G' G : sh_H) : Prop := (∀ c i j, ¬ (c = 12 ∧ j = 2) → ¬ (c = 13 ∧ 43 ≤ i ∧ i ≤ 45) → G'.1 c i j = G.1 c i j) ∧ (∀ c i j, ¬ (c = 14 ∧ i = 5) → G'.2.1 c i j = G.2.1 c i j) ∧ G'.2.2 = G.2.2
theorem mkF.rf (H : sh_H) : mkF H H := ⟨fun _ _ _ _ _ => rfl, fun _ _ _ _ => rfl, rfl⟩
theorem mkF.tr {a b c : sh_H} (x : mkF a b) (y : mkF b c) : mkF a c := ⟨fun c i j n m => (x.1 c i j n m).trans (y.1 c i j n m), fun c i j n => (x.2.1 c i j n).trans (y.2.1 c i j n), x.2.2.trans y.2.2⟩
theorem tkF.k {i : Nat} {G' G : sh_H} (x : tkF i G' G) : mkF G' G := ⟨fun c i' j h1 h2 => x.1 c i' j h1 (fun z => h2 ⟨z.1, z.2.1, z.2.2.1⟩), fun c i' j h => x.2.1 c i' j (fun z => h ⟨z.1, z.2.1⟩), x.2.2⟩
theorem MT_s {B : Nat → Nat} {n i : Nat} {G G' : sh_H} (f : tkF i G' G) (h : MT B n i G) (a : G'.1 13 43 i = nI (mso (tT B n i)) ∧ G'.1 13 44 i = nI (tst B n i) ∧ ((tT B n i < 13 ∨ 40 ≤ tT B n i) → G'.1 13 45 i = nI (tT B n i)) ∧ (tT B n i = 21 → G'.1 13 45 i = nI (tV B n i)) ∧ (tT B n i = 22 → G'.1 13 45 i = nI 300) ∧ (tT B n i = 20 → G'.2.1 14 5 i = lN (tY B n i))) : MT B n (i + 1) G' := by
  intro j hj
  by_cases c : j < i
  · exact (MT_to (fun x j h1 h2 h3 => f.1 13 x j (by omega) (by omega)) (fun j h3 => f.2.1 14 5 j (by omega)) h) j c
  · obtain rfl : j = i := by omega
    exact a
theorem M_scan_loop {B : Nat → Nat} {n : Nat} : ∀ (q k i u : Nat) (G : sh_H), n - k ≤ q → k ≤ n → q < u → TPm B n G → MT B n i G → (∀ j, j < i → tG B n j) → G.1 12 0 2 = nI i → i ≤ k → skp B n k = tst B n i → ∃ mt G', f_M_scanAll_l9 NF (f_M_scanAll_b87 NF) u (nI k) 1 G = some G' ∧ MT B n mt G' ∧ (∀ j, j + 1 < mt → tG B n j) ∧ 0 < mt ∧ ¬ tG B n (mt - 1) ∧ mkF G' G := by
  have endd : ∀ (k i u : Nat) (G : sh_H), k = n → TPm B n G → MT B n i G → (∀ j, j < i → tG B n j) → G.1 12 0 2 = nI i → i ≤ k → skp B n k = tst B n i → ∃ mt G', f_M_scanAll_b87 NF 1 G = some G' ∧ MT B n mt G' ∧ (∀ j, j + 1 < mt → tG B n j) ∧ 0 < mt ∧ ¬ tG B n (mt - 1) ∧ mkF G' G := by
    intro k i u G ek t m g hz ik sk
    have n2 := t.1
    have s1 : tst B n i = n := by
      have := skp_in (B := B) (n := n) (k := k) (by omega)
      omega
    have es : tT B n i = 23 := if_neg (by omega)
    obtain ⟨G', g1, g2, g3, g4, g5, g6, g7⟩ := M_token hz (by omega) 4 (nI n) 0
    have f : tkF i G' G := ⟨g6, fun _ _ _ _ => by rw [g7], by rw [g7]⟩
    refine ⟨i + 1, G', ?_, MT_s f m ⟨by rw [es]; exact g3, by rw [s1]; exact g4, fun z => by omega, fun z => by omega, fun z => by omega, fun z => by omega⟩, fun j hj => g j (by omega), by omega, fun z => z.1 es, f.k⟩
    unfold f_M_scanAll_b87
    rw [if_neg q_10, t.2.2.1, g1]
    rfl
  intro q
  induction q with
  | zero =>
    intro k i u G e1 e0 e2 t m g hz ik sk
    obtain ⟨u, rfl⟩ : ∃ m, u = m + 1 := ⟨u - 1, by omega⟩
    have n2 := t.1
    obtain ⟨mt, G', r⟩ := endd k i u G (by omega) t m g hz ik sk
    refine ⟨mt, G', ?_, r.2⟩
    show f_M_scanAll_c9 NF (f_M_scanAll_b87 NF) (f_M_scanAll_l9 NF (f_M_scanAll_b87 NF) u) (nI k) 1 G = _
    unfold f_M_scanAll_c9
    rw [t.2.2.1, if_neg (nI_nlt (by omega) (by omega))]
    exact r.1
  | succ q ih =>
    intro k i u G e1 e0 e2 t m g hz ik sk
    obtain ⟨u, rfl⟩ : ∃ m, u = m + 1 := ⟨u - 1, by omega⟩
    have n2 := t.1
    have cut : ∀ R, R = f_M_scanAll_c9 NF (f_M_scanAll_b87 NF) (f_M_scanAll_l9 NF (f_M_scanAll_b87 NF) u) (nI k) 1 G → f_M_scanAll_l9 NF (f_M_scanAll_b87 NF) (u + 1) (nI k) 1 G = R := fun R e => e.symm
    rw [cut _ rfl]
    unfold f_M_scanAll_c9
    by_cases kn : k < n
    · have hb := t.2.1 k kn
      rw [t.2.2.1, if_pos (nI_lt kn (by omega)), if_neg q_10, M_byteAt t (by omega), Option.bind_some, bA_in kn]
      have bl : isB (B k) → ∃ mt G', f_M_scanAll_b51 NF (f_M_scanAll_l9 NF (f_M_scanAll_b87 NF) u) (nI k) 1 G = some G' ∧ MT B n mt G' ∧ (∀ j, j + 1 < mt → tG B n j) ∧ 0 < mt ∧ ¬ tG B n (mt - 1) ∧ mkF G' G := by
        intro c
        unfold f_M_scanAll_b51
        rw [nI_1]
        exact ih (k + 1) i u G (by omega) (by omega) (by omega) t m g hz (by omega) (by rw [← skp_s kn c]; exact sk)
      by_cases c1 : B k = 32
      · rw [if_pos (show nI (B k) = 32 by rw [c1]; rfl)]; exact bl (by omega)
      rw [if_neg (show ¬ nI (B k) = 32 from nI_ne (b := 32) c1 (by omega) (by omega))]
      by_cases c2 : B k = 9
      · rw [if_pos (show nI (B k) = 9 by rw [c2]; rfl)]; exact bl (by omega)
      rw [if_neg (show ¬ nI (B k) = 9 from nI_ne (b := 9) c2 (by omega) (by omega))]
      by_cases c3 : B k = 10
      · rw [if_pos (show nI (B k) = 10 by rw [c3]; rfl)]; exact bl (by omega)
      rw [if_neg (show ¬ nI (B k) = 10 from nI_ne (b := 10) c3 (by omega) (by omega))]
      by_cases c4 : B k = 13
      · rw [if_pos (show nI (B k) = 13 by rw [c4]; rfl)]; exact bl (by omega)
      rw [if_neg (show ¬ nI (B k) = 13 from nI_ne (b := 13) c4 (by omega) (by omega))]
      clear bl endd
      have ek : tst B n i = k := by rw [← sk]; exact skp_n kn (by omega)
      obtain ⟨G', g1, f, g2, g3, g4, g5, g6, g7, g8⟩ := M_scan t kn hz (by omega)
      have es : tT B n i = tkS B n k := by unfold tT; rw [ek, if_pos kn]
      have tl := tT_lt B n i
      have ei := tkE_in (B := B) kn
      rw [← es] at g3 g5 g6 g7 g8
      have m' : MT B n (i + 1) G' := MT_s f m ⟨g3, by rw [ek]; exact g4, g5, fun z => by rw [g6 z]; unfold tV; rw [ek], g7, fun z => by rw [g8 z]; unfold tY; rw [ek]⟩
      have t' : TPm B n G' := TPm_to (fun c x j h => f.1 c x j (by omega) (by omega)) t
      rw [g1, sh_b2_some, g2, nI_pred, if_pos (q_in (by omega) (by omega)), q_cl (by omega), g3]
      by_cases c24 : tT B n i = 24
      · rw [c24, if_pos (show nI (mso 24) = 5 from rfl)]
        obtain ⟨u', hu'⟩ : ∃ m, u = m + 1 := ⟨u - 1, by omega⟩
        refine ⟨i + 1, G', ?_, m', fun j hj => g j (by omega), by omega, fun z => z.2 c24, f.k⟩
        unfold f_M_scanAll_b83
        rw [hu']
        show f_M_scanAll_c9 NF (f_M_scanAll_b87 NF) (f_M_scanAll_l9 NF (f_M_scanAll_b87 NF) u') (nI (tkE B n k)) 0 G' = _
        unfold f_M_scanAll_c9 f_M_scanAll_b87
        rw [if_pos rfl, if_pos rfl]
        split <;> rfl
      · have gi : tG B n i := ⟨by rw [es]; rcases tkS_cl (B := B) (n := n) (k := k) with h | h | h | h | h | h <;> omega, c24⟩
        have n5 : ¬ nI (mso (tT B n i)) = 5 := by
          have z : mso (tT B n i) ≠ 5 ∧ mso (tT B n i) < 10 := by
            unfold mso
            repeat' split
            all_goals omega
          exact nI_ne (b := 5) z.1 (by omega) (by omega)
        rw [if_neg n5]
        unfold f_M_scanAll_b83
        obtain ⟨mt, G'', r1, r2, r3, r4, r5, r6⟩ := ih (tkE B n k) (i + 1) u G' (by omega) (by omega) (by omega) t' m' (fun j hj => by
          by_cases z : j < i
          · exact g j z
          · rw [show j = i by omega]; exact gi) g2 (by omega) (by show _ = skp B n (tps B n (i + 1)); rw [tps_s, ek])
        exact ⟨mt, G'', r1, r2, r3, r4, r5, r6.tr f.k⟩
    · rw [t.2.2.1, if_neg (nI_nlt (by omega) (by omega))]
      exact endd k i u G (by omega) t m g hz ik sk
/-- both have the tokens up to sz -/
def TK (B : Nat → Nat) (n sz : Nat) (H G : sh_H) : Prop := n ≤ 2000 ∧ 0 < sz ∧ sz ≤ 401 ∧ H.1 10 0 3 = nI sz ∧ CT B n sz H ∧ MT B n sz G ∧ (∀ j, j + 1 < sz → tG B n j) ∧ (sz = 401 ∨ ¬ tG B n (sz - 1))
theorem scan_both {B : Nat → Nat} {n : Nat} {H G : sh_H} (n2 : n ≤ 2000) (hB : ∀ i, i < n → B i < 256) (hc : ∀ i, i < n → H.1 15 0 i = (nI (B i)).toInt8.toInt32) (hs : rStr H) (t : TPm B n G) : ∃ sz H' G', f_Tokens_scan NF (nI n) H = some H' ∧ f_M_scanAll NF G = some G' ∧ TK B n sz H' G' ∧ (∀ c i j, c ≠ 10 → ¬ (c = 13 ∧ (i = 18 ∨ i = 19)) → H'.1 c i j = H.1 c i j) ∧ (∀ c i j, c ≠ 10 → ¬ (c = 14 ∧ i = 0) → H'.2.1 c i j = H.2.1 c i j) ∧ H'.2.2 = H.2.2 ∧ mkF G' G := by
  have lm : f_CB_limit (nI n) (Int32.ofNat 2000) (sh_pI (sh_pI H 10 0 3 0) 10 0 4 0) = some (nI n) := by
    rw [q_len, CB_limit (by omega)]
    have : clN (nI n) 2000 = n := by
      unfold clN
      rw [if_neg (nI_pos (by omega)), q_cl (by omega), if_neg (by omega)]
    rw [this]
  have t0 : TPc B n (sh_pI (sh_pI (sh_pI H 10 0 3 0) 10 0 4 0) 10 0 5 (nI n)) := ⟨n2, hB, pI_at _ _ _ _ _, fun i hi => (pI_ne (by omega)).trans ((pI_ne (by omega)).trans ((pI_ne (by omega)).trans (hc i hi)))⟩
  obtain ⟨sz, H', r1, r2, r3, r4, r5, r6, r7⟩ := C_scan_loop (B := B) (n := n) 401 0 NF _ rfl (NF_gt (by omega)) t0 (fun a b => (pI_ne (by omega)).trans ((pI_ne (by omega)).trans ((pI_ne (by omega)).trans (hs a b)))) (fun j hj => absurd hj (by omega)) (fun j hj => absurd hj (by omega)) ((pI_ne (by omega)).trans ((pI_ne (by omega)).trans (pI_at _ _ _ _ _))) ((pI_ne (by omega)).trans (pI_at _ _ _ _ _))
  obtain ⟨mt, G', s1, s2, s3, s4, s5, s6⟩ := M_scan_loop (B := B) (n := n) n 0 0 NF (sh_pI G 12 0 2 0) (by omega) (by omega) (NF_gt (by omega)) (TPm_to (fun c i j h => pI_ne (by omega)) t) (fun j hj => absurd hj (by omega)) (fun j hj => absurd hj (by omega)) (pI_at _ _ _ _ _) (Nat.le_refl _) rfl
  have szm : sz ≤ mt := by
    by_cases c : sz ≤ mt
    · exact c
    · exact absurd (r5 (mt - 1) (by omega)) s5
  have sz0 : 0 < sz := by rcases r6 with h | h <;> omega
  refine ⟨sz, H', G', ?_, ?_, ⟨n2, sz0, r2, r3, r4, fun j hj => s2 j (by omega), r5, r6.imp id (·.2)⟩, fun c i j h1 h2 => (r7.1 c i j h1 h2).trans ((pI_ne (by omega)).trans ((pI_ne (by omega)).trans (pI_ne (by omega)))), fun c i j h1 h2 => r7.2.1 c i j h1 h2, r7.2.2.1, s6.tr ⟨fun c i j h1 h2 => pI_ne (by omega), fun _ _ _ _ => rfl, rfl⟩⟩
  · unfold f_Tokens_scan
    rw [sh_let, sh_let, lm, Option.bind_some, sh_let]
    exact r1
  · unfold f_M_scanAll
    rw [sh_let]
    exact s1
