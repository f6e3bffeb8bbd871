/-! THE BOOKS AS FAR AS THEY ARE KNOWN: pure values; the class's ledger -/
/-- row r is annulled by one of the first n -/
def vdd (f : Nat → Int32) (r : Nat) : Nat → Bool
  | 0 => false
  | n + 1 => if f (550 + 4 * n) = nI 3 ∧ f (551 + 4 * n) = nI r then true else vdd f r n
theorem vdd_t {f : Nat → Int32} {r n : Nat} (h : f (550 + 4 * n) = nI 3 ∧ f (551 + 4 * n) = nI r) : vdd f r (n + 1) = true := if_pos h
theorem vdd_f {f : Nat → Int32} {r n : Nat} (h : ¬ (f (550 + 4 * n) = nI 3 ∧ f (551 + 4 * n) = nI r)) : vdd f r (n + 1) = vdd f r n := if_neg h
theorem vdd_iff {f : Nat → Int32} {r : Nat} : ∀ {n : Nat}, vdd f r n = true ↔ ∃ k, k < n ∧ f (550 + 4 * k) = nI 3 ∧ f (551 + 4 * k) = nI r := by
  intro n
  induction n with
  | zero => exact ⟨fun h => (by cases h), fun ⟨k, h, _⟩ => absurd h (by omega)⟩
  | succ n ih =>
    unfold vdd
    by_cases c : f (550 + 4 * n) = nI 3 ∧ f (551 + 4 * n) = nI r
    · rw [if_pos c]
      exact ⟨fun _ => ⟨n, by omega, c⟩, fun _ => rfl⟩
    · rw [if_neg c, ih]
      constructor
      · rintro ⟨k, k1, k2⟩
        exact ⟨k, by omega, k2⟩
      · rintro ⟨k, k1, k2⟩
        refine ⟨k, ?_, k2⟩
        by_cases e : k = n
        · subst e; exact absurd k2 c
        · omega
/-- what the first m rows tell of sort s, place p, kind k, as N are known -/
def bkc (f : Nat → Int32) (N s p k m : Nat) : Prop := f (550 + 4 * m) = nI s ∧ f (551 + 4 * m) = nI p ∧ f (552 + 4 * m) = nI k ∧ vdd f m N = false
def bk (f : Nat → Int32) (N s p k : Nat) : Nat → Nat
  | 0 => 0
  | m + 1 => bk f N s p k m + if f (550 + 4 * m) = nI s ∧ f (551 + 4 * m) = nI p ∧ f (552 + 4 * m) = nI k ∧ vdd f m N = false then nv f (553 + 4 * m) else 0
/-- looked at (q = 552) and false (q = 553) at place p -/
def lk (f : Nat → Int32) (N q p : Nat) : Nat → Nat
  | 0 => 0
  | m + 1 => lk f N q p m + if f (550 + 4 * m) = nI 2 ∧ f (551 + 4 * m) = nI p ∧ vdd f m N = false then nv f (q + 4 * m) else 0
def lkA (f : Nat → Int32) (N q : Nat) : Nat → Nat
  | 0 => 0
  | m + 1 => lkA f N q m + if f (550 + 4 * m) = nI 2 ∧ vdd f m N = false then nv f (q + 4 * m) else 0
/-- the ledger: m rows entered of N, i rows looked through for what is annulled -/
def LD (H : sh_H) (f : Nat → Int32) (N m i : Nat) : Prop := H.1 6 29 3 = nI 5 ∧ H.1 6 30 3 = nI 5 ∧ H.1 6 31 3 = nI 5 ∧ H.1 6 32 3 = nI 60 ∧ (∀ p k, p < 5 → k < 6 → H.1 13 38 (p * 6 + k) = nI (bk f N 0 p k m)) ∧ (∀ p k, p < 5 → k < 6 → H.1 13 39 (p * 6 + k) = nI (bk f N 1 p k m)) ∧ (∀ p, p < 5 → H.1 13 40 (p * 2) = nI (lk f N 552 p m) ∧ H.1 13 40 (p * 2 + 1) = nI (lk f N 553 p m)) ∧ H.1 3 0 4 = nI (lkA f N 552 m) ∧ H.1 3 0 5 = nI (lkA f N 553 m) ∧ (∀ r, r < 60 → H.1 13 41 r = if vdd f r i = true then 1 else 0)
theorem rows_zero {h : sh_H} {r : Nat} (hC : RC h) (hr : r < 33) : f_Rows_zero NF r h = some (hR h r (sh_m r) (zrow (fun j => h.1 13 (sh_rc r) j) 0 (sh_m r * sh_w r))) := by
  obtain ⟨e1, e2, e3, e4⟩ := sh_mw r hr
  have hmw : sh_m r * sh_w r ≤ 360 := Nat.mul_le_mul e2 e3
  have lp : ∀ (k i u : Nat), i + k = sh_m r * sh_w r → k < u → f_Rows_zero_l10 NF u r (nI i) (hR h r (sh_m r) (zrow (fun j => h.1 13 (sh_rc r) j) 0 i)) = some (hR h r (sh_m r) (zrow (fun j => h.1 13 (sh_rc r) j) 0 (sh_m r * sh_w r))) := by
    intro k
    induction k with
    | zero =>
      intro i u e5 e6
      obtain ⟨u, rfl⟩ : ∃ m, u = m + 1 := ⟨u - 1, by omega⟩
      obtain rfl : i = sh_m r * sh_w r := by omega
      show f_Rows_zero_c10 NF (f_Rows_zero_l10 NF u) r (nI (sh_m r * sh_w r)) _ = _
      unfold f_Rows_zero_c10
      rw [e1, q_len, if_neg (nI_nlt (by omega) (by omega))]
    | succ k ih =>
      intro i u e5 e6
      obtain ⟨u, rfl⟩ : ∃ m, u = m + 1 := ⟨u - 1, by omega⟩
      show f_Rows_zero_c10 NF (f_Rows_zero_l10 NF u) r (nI i) _ = _
      unfold f_Rows_zero_c10
      have ecl : (nI i).toNatClampNeg = i := q_cl (by omega)
      have ein : ai_in (nI i) (sh_m r * sh_w r) := q_in (by omega) (by omega)
      have el : nI i < nI (sh_m r * sh_w r) := nI_lt (by omega) (by omega)
      simp only [e1, q_len, if_pos el, if_pos ein, ecl, sh_let, hR_pI, nI_1]
      have z := zrow_s (fun j => h.1 13 (sh_rc r) j) 0 i
      rw [Nat.zero_add] at z
      rw [z]
      exact ih (i + 1) u (by omega) (by omega)
  unfold f_Rows_zero
  have e : sh_pI h 6 r 3 (h.1 6 r 0) = hR h r (sh_m r) (zrow (fun j => h.1 13 (sh_rc r) j) 0 0) := by
    rw [zrow_0, (hC r hr).1]
    refine Prod.ext ?_ rfl
    funext c i j
    rw [pI_1, hR_1]
    by_cases q : c = 13 ∧ i = sh_rc r
    · rw [if_neg (by omega), if_pos q, q.1, q.2]
    · rw [if_neg q]
  rw [sh_let, e]
  exact lp (sh_m r * sh_w r) 0 NF (by omega) (NF_gt (by omega))
theorem sC_RC {h g : sh_H} (x : sC h g) (hC : RC g) : RC h := RC_of hC (fun r j hr hj => x.1 6 r j (by unfold scC; omega))
theorem hR_sC {h g : sh_H} {r s : Nat} {F : Nat → Int32} (hr : 26 ≤ r) (h2 : 32 ≤ sh_rc r ∧ sh_rc r < 42) (x : sC h g) : sC (hR h r s F) g := by
  refine ⟨fun c i j n => ?_, x.2.1, x.2.2⟩
  rw [hR_ne (fun e => n (by unfold scC; omega)) (fun e => n (by unfold scC; omega))]
  exact x.1 c i j n
/-- the ledger at the start -/
theorem LD_0 {h g : sh_H} (hC : RC h) (x : sC h g) (f : Nat → Int32) (N : Nat) : ∃ H, Option.bind (f_Rows_zero NF 29 h) (fun h8 => Option.bind (f_Rows_zero NF 30 h8) (fun h9 => Option.bind (f_Rows_zero NF 31 h9) (fun h10 => Option.bind (f_Rows_zero NF 32 h10) (fun h11 => some (sh_pI (sh_pI h11 3 0 4 0) 3 0 5 0))))) = some H ∧ sC H g ∧ LD H f N 0 0 := by
  have q29 : sh_rc 29 = 38 ∧ sh_m 29 = 5 ∧ sh_w 29 = 6 := by decide
  have q30 : sh_rc 30 = 39 ∧ sh_m 30 = 5 ∧ sh_w 30 = 6 := by decide
  have q31 : sh_rc 31 = 40 ∧ sh_m 31 = 5 ∧ sh_w 31 = 2 := by decide
  have q32 : sh_rc 32 = 41 ∧ sh_m 32 = 60 ∧ sh_w 32 = 1 := by decide
  rw [rows_zero hC (by omega), Option.bind_some, rows_zero (hR_RC hC) (by omega), Option.bind_some, rows_zero (hR_RC (hR_RC hC)) (by omega), Option.bind_some, rows_zero (hR_RC (hR_RC (hR_RC hC))) (by omega), Option.bind_some]
  refine ⟨_, rfl, ?_, ?_⟩
  · exact sC.pI (by unfold scC; omega) (sC.pI (by unfold scC; omega) (hR_sC (by omega) (by omega) (hR_sC (by omega) (by omega) (hR_sC (by omega) (by omega) (hR_sC (by omega) (by omega) x)))))
  · rw [q29.1, q30.1, q31.1, q32.1, q29.2.1, q29.2.2, q30.2.1, q30.2.2, q31.2.1, q31.2.2, q32.2.1, q32.2.2]
    unfold LD
    refine ⟨?_, ?_, ?_, ?_, fun p k hp hk => ?_, fun p k hp hk => ?_, fun p hp => ⟨?_, ?_⟩, ?_, ?_, fun r hr => ?_⟩
    all_goals simp (disch := omega) only [pI_ne, pI_at, hR_1, q29.1, q30.1, q31.1, q32.1, zrow_in, if_pos, if_neg, and_self, if_true]
    all_goals rfl
