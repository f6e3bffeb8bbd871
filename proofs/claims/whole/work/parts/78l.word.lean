/-! PAIR: read: words and numbers -/
def vf (Bs : Nat) (f : Nat → Nat) : Nat → Nat
  | 0 => 0
  | m + 1 => vf Bs f m * Bs + f m
theorem vf_s (Bs : Nat) (f : Nat → Nat) (m : Nat) : vf Bs f (m + 1) = vf Bs f m * Bs + f m := rfl
theorem vf_cg {Bs : Nat} {f g : Nat → Nat} : ∀ {m : Nat}, (∀ j, j < m → f j = g j) → vf Bs f m = vf Bs g m := by
  intro m
  induction m with
  | zero => intro _; rfl
  | succ m ih => intro e; rw [vf_s, vf_s, ih (fun j hj => e j (by omega)), e m (by omega)]
theorem vf_pos {Bs : Nat} {f : Nat → Nat} {m : Nat} (h : 1 ≤ f m) : 0 < vf Bs f (m + 1) := by rw [vf_s]; omega
theorem vf_inj {Bs : Nat} (h27 : 27 ≤ Bs) {f g : Nat → Nat} : ∀ {m m' : Nat}, (∀ j, j < m → 1 ≤ f j ∧ f j ≤ 26) → (∀ j, j < m' → 1 ≤ g j ∧ g j ≤ 26) → vf Bs f m = vf Bs g m' → m = m' ∧ ∀ j, j < m → f j = g j := by
  intro m
  induction m with
  | zero =>
    intro m' hf hg e
    match m', hg, e with
    | 0, _, _ => exact ⟨rfl, fun j hj => absurd hj (by omega)⟩
    | m' + 1, hg, e =>
      have := vf_pos (Bs := Bs) (f := g) (m := m') (hg m' (by omega)).1
      have e0 : vf Bs f 0 = 0 := rfl
      omega
  | succ m ih =>
    intro m' hf hg e
    match m', hg, e with
    | 0, _, e =>
      have := vf_pos (Bs := Bs) (f := f) (m := m) (hf m (by omega)).1
      have e0 : vf Bs g 0 = 0 := rfl
      omega
    | m' + 1, hg, e =>
      rw [vf_s, vf_s] at e
      have a1 := hf m (by omega)
      have a2 := hg m' (by omega)
      have d1 : (vf Bs f m * Bs + f m) % Bs = f m := by rw [Nat.mul_comm, Nat.mul_add_mod, Nat.mod_eq_of_lt (by omega)]
      have d2 : (vf Bs g m' * Bs + g m') % Bs = g m' := by rw [Nat.mul_comm, Nat.mul_add_mod, Nat.mod_eq_of_lt (by omega)]
      have ef : f m = g m' := by rw [← d1, ← d2, e]
      have eq : vf Bs f m = vf Bs g m' := Nat.eq_of_mul_eq_mul_right (by omega : 0 < Bs) (by omega)
      obtain ⟨i1, i2⟩ := ih (m' := m') (fun j hj => hf j (by omega)) (fun j hj => hg j (by omega)) eq
      subst i1
      exact ⟨rfl, fun j hj => by
        by_cases z : j < m
        · exact i2 j z
        · rw [show j = m by omega]; exact ef⟩
theorem vf_le {Bs D : Nat} {f : Nat → Nat} (hD : D < Bs) : ∀ {m : Nat}, (∀ j, j < m → f j ≤ D) → vf Bs f m < Bs ^ m := by
  intro m
  induction m with
  | zero => intro _; exact Nat.one_pos
  | succ m ih =>
    intro h
    have a := ih (fun j hj => h j (by omega))
    have b := h m (by omega)
    rw [vf_s, Nat.pow_succ]
    have c : (vf Bs f m + 1) * Bs ≤ Bs ^ m * Bs := Nat.mul_le_mul_right Bs a
    rw [Nat.succ_mul] at c
    omega
theorem pow_up {Bs m k : Nat} (h : m ≤ k) (hb : 0 < Bs) : Bs ^ m ≤ Bs ^ k := Nat.pow_le_pow_right hb h
theorem lN_shl5 {x d : Nat} (hx : x < 2 ^ 50) (hd : d < 32) : ((lN x) <<< ((5 : Int32).toInt64 &&& 63)) ||| lN d = lN (x * 32 + d) := by
  rw [show ((5 : Int32).toInt64 &&& 63 : Int64) = 5 by decide]
  refine Int64.toBitVec_inj.mp ?_
  rw [Int64.toBitVec_or, Int64.toBitVec_shiftLeft]
  show (BitVec.ofNat 64 x) <<< ((5 : Int64).toBitVec.smod 64) ||| BitVec.ofNat 64 d = BitVec.ofNat 64 (x * 32 + d)
  rw [show (5 : Int64).toBitVec.smod 64 = (5#64 : BitVec 64) by decide]
  refine BitVec.eq_of_toNat_eq ?_
  rw [BitVec.toNat_or, BitVec.shiftLeft_eq', BitVec.toNat_shiftLeft, BitVec.toNat_ofNat, BitVec.toNat_ofNat, BitVec.toNat_ofNat, BitVec.toNat_ofNat, Nat.mod_eq_of_lt (show x < 2 ^ 64 by omega), Nat.mod_eq_of_lt (show d < 2 ^ 64 by omega), show 5 % 2 ^ 64 = 5 from rfl, Nat.mod_eq_of_lt (show x * 32 + d < 2 ^ 64 by omega), Nat.shiftLeft_eq, Nat.mod_eq_of_lt (show x * 2 ^ 5 < 2 ^ 64 by omega), ← Nat.shiftLeft_eq, ← Nat.shiftLeft_add_eq_or_of_lt (show d < 2 ^ 5 by omega), Nat.shiftLeft_eq]
/-- the class's scan: at a byte, with a value so far -/
def hAt (H : sh_H) (k : Nat) (v : Int64) : sh_H := sh_pJ (sh_pI H 10 0 4 (nI k)) 10 0 6 v
theorem hAt_a (H : sh_H) (k : Nat) (v : Int64) : (hAt H k v).1 10 0 4 = nI k := by
  show (sh_pI H 10 0 4 (nI k)).1 10 0 4 = nI k
  exact pI_at _ _ _ _ _
theorem hAt_v (H : sh_H) (k : Nat) (v : Int64) : (hAt H k v).2.1 10 0 6 = v := by
  unfold hAt
  rw [pJ_2, if_pos ⟨rfl, rfl, rfl⟩]
theorem hAt_p {H : sh_H} {k k' : Nat} {v v' : Int64} : sh_pI (sh_pJ (hAt H k v) 10 0 6 v') 10 0 4 (nI k') = hAt H k' v' := by
  unfold hAt
  show sh_pI (sh_pJ (sh_pJ (sh_pI H 10 0 4 (nI k)) 10 0 6 v) 10 0 6 v') 10 0 4 (nI k') = _
  rw [pJ_pJ]
  show sh_pJ (sh_pI (sh_pI H 10 0 4 (nI k)) 10 0 4 (nI k')) 10 0 6 v' = _
  rw [pI_pI]
theorem hAt_id {H : sh_H} {k : Nat} {v : Int64} (e : H.1 10 0 4 = nI k) (e2 : H.2.1 10 0 6 = v) : hAt H k v = H := by
  unfold hAt
  rw [pI_id e, pJ_id e2.symm]
theorem hAt_t {B : Nat → Nat} {n k : Nat} {v : Int64} {H : sh_H} (t : TPc B n H) : TPc B n (hAt H k v) := TPc_to (fun c i j h => pI_ne (by omega)) t
theorem C_word_loop {B : Nat → Nat} {n s : Nat} {H : sh_H} (t : TPc B n H) (K : Int32 → sh_H → Option (Int32 × sh_H)) : ∀ (q m u : Nat) (v : Int64), s + m + q = n → q < u → (∀ j, j < m → isL (B (s + j))) → (m ≤ 8 → v = lN (vf 32 (fun j => B (s + j) - 96) m)) → ∃ v', f_Tokens_word_l5 NF K u (nI s) (hAt H (s + m) v) = K (nI s) (hAt H (s + (m + rlen (pL B) q (s + m))) v') ∧ (m + rlen (pL B) q (s + m) ≤ 8 → v' = lN (vf 32 (fun j => B (s + j) - 96) (m + rlen (pL B) q (s + m)))) := by
  intro q
  induction q with
  | zero =>
    intro m u v e1 e2 hl hv
    obtain ⟨u, rfl⟩ : ∃ m, u = m + 1 := ⟨u - 1, by omega⟩
    have n2 := t.1
    refine ⟨v, ?_, hv⟩
    show f_Tokens_word_c5 NF K (f_Tokens_word_l5 NF K u) (nI s) (hAt H (s + m) v) = _
    unfold f_Tokens_word_c5
    rw [hAt_a, (hAt_t t).2.2.1, if_neg (nI_nlt (by omega) (by omega))]
    rfl
  | succ q ih =>
    intro m u v e1 e2 hl hv
    obtain ⟨u, rfl⟩ : ∃ m, u = m + 1 := ⟨u - 1, by omega⟩
    have n2 := t.1
    have hk : s + m < n := by omega
    have hb := t.2.1 _ hk
    by_cases c : isL (B (s + m))
    · have hl' : ∀ j, j < m + 1 → isL (B (s + j)) := fun j hj => by
        by_cases z : j < m
        · exact hl j z
        · rw [show j = m by omega]; exact c
      obtain ⟨v', i1, i2⟩ := ih (m + 1) u (((v <<< ((5 : Int32).toInt64 &&& 63)) ||| ((nI (B (s + m)) - (97 : Int32)) + (1 : Int32)).toInt64)) (by omega) (by omega) hl' (fun h8 => by
        have b1 := vf_le (Bs := 32) (D := 26) (by omega) (f := fun j => B (s + j) - 96) (m := m) (fun j hj => by have := (hl j hj).2; show B (s + j) - 96 ≤ 26; omega)
        have b2 := pow_up (Bs := 32) (m := m) (k := 8) (by omega) (by omega)
        have b3 : (32 : Nat) ^ 8 < 2 ^ 50 := by decide
        rw [hv (by omega), show ((nI (B (s + m)) - (97 : Int32)) + (1 : Int32)).toInt64 = lN (B (s + m) - 96) by
          rw [show (97 : Int32) = nI 97 from rfl, q_sub c.1, nI_1, nI_l (by omega)]; congr 1; have := c.1; omega]
        exact lN_shl5 (by omega) (by have := c.2; omega))
      rw [rlen_s (pL_iff.mpr c)]
      refine ⟨v', ?_, fun h => ?_⟩
      · show f_Tokens_word_c5 NF K (f_Tokens_word_l5 NF K u) (nI s) (hAt H (s + m) v) = _
        unfold f_Tokens_word_c5
        rw [hAt_a, (hAt_t t).2.2.1, if_pos (nI_lt hk (by omega)), C_byteAt (hAt_t t) hk, Option.bind_some, C_isLetter hb, Option.bind_some, if_pos c, if_neg q_10, Option.bind_some, sh_let, hAt_v, sh_let]
        rw [show (sh_pJ (hAt H (s + m) v) 10 0 6 (v <<< ((5 : Int32).toInt64 &&& 63) ||| (nI (B (s + m)) - 97 + 1).toInt64)).1 10 0 4 = nI (s + m) from hAt_a H (s + m) v, nI_1, hAt_p]
        refine i1.trans ?_
        rw [show m + 1 + rlen (pL B) q (s + (m + 1)) = m + (rlen (pL B) q (s + m + 1) + 1) by rw [show s + (m + 1) = s + m + 1 by omega]; omega]
      · have := i2 (by rw [show s + (m + 1) = s + m + 1 by omega]; omega)
        rw [show m + 1 + rlen (pL B) q (s + (m + 1)) = m + (rlen (pL B) q (s + m + 1) + 1) by rw [show s + (m + 1) = s + m + 1 by omega]; omega] at this
        exact this
    · rw [rlen_n (fun z => c (pL_iff.mp z))]
      refine ⟨v, ?_, hv⟩
      show f_Tokens_word_c5 NF K (f_Tokens_word_l5 NF K u) (nI s) (hAt H (s + m) v) = _
      unfold f_Tokens_word_c5
      rw [hAt_a, (hAt_t t).2.2.1, if_pos (nI_lt hk (by omega)), C_byteAt (hAt_t t) hk, Option.bind_some, C_isLetter hb, Option.bind_some, if_neg c, if_pos rfl]
      rfl
theorem C_digit_loop {B : Nat → Nat} {n s : Nat} {H : sh_H} (t : TPc B n H) (K : Int32 → sh_H → Option (Int32 × sh_H)) : ∀ (q m u : Nat) (v : Int64), s + m + q = n → q < u → (m ≤ 4 → v = lN (vf 10 (fun j => B (s + j) - 48) m)) → ∃ v', f_Tokens_digits_l5 NF K u (nI s) (hAt H (s + m) v) = K (nI s) (hAt H (s + (m + rlen (pD B) q (s + m))) v') ∧ (m + rlen (pD B) q (s + m) ≤ 4 → v' = lN (vf 10 (fun j => B (s + j) - 48) (m + rlen (pD B) q (s + m)))) := by
  intro q
  induction q with
  | zero =>
    intro m u v e1 e2 hv
    obtain ⟨u, rfl⟩ : ∃ m, u = m + 1 := ⟨u - 1, by omega⟩
    have n2 := t.1
    refine ⟨v, ?_, hv⟩
    show f_Tokens_digits_c5 NF K (f_Tokens_digits_l5 NF K u) (nI s) (hAt H (s + m) v) = _
    unfold f_Tokens_digits_c5
    rw [hAt_a, (hAt_t t).2.2.1, if_neg (nI_nlt (by omega) (by omega))]
    rfl
  | succ q ih =>
    intro m u v e1 e2 hv
    obtain ⟨u, rfl⟩ : ∃ m, u = m + 1 := ⟨u - 1, by omega⟩
    have n2 := t.1
    have hk : s + m < n := by omega
    have hb := t.2.1 _ hk
    by_cases c : isD (B (s + m))
    · obtain ⟨v', i1, i2⟩ := ih (m + 1) u (((v * (10 : Int64)) + (nI (B (s + m))).toInt64) - (48 : Int64)) (by omega) (by omega) (fun h8 => by
        have c1 := c.1
        rw [hv (by omega), nI_l (by omega), show (10 : Int64) = lN 10 from rfl, show (48 : Int64) = lN 48 from rfl, lN_mul, lN_add, lN_sub (by omega), vf_s]
        congr 1
        omega)
      rw [rlen_s (pD_iff.mpr c)]
      refine ⟨v', ?_, fun h => ?_⟩
      · show f_Tokens_digits_c5 NF K (f_Tokens_digits_l5 NF K u) (nI s) (hAt H (s + m) v) = _
        unfold f_Tokens_digits_c5
        rw [hAt_a, (hAt_t t).2.2.1, if_pos (nI_lt hk (by omega)), C_byteAt (hAt_t t) hk, Option.bind_some, C_isDigit hb, Option.bind_some, if_pos c, if_neg q_10, Option.bind_some, sh_let, hAt_v, sh_let]
        rw [show (sh_pJ (hAt H (s + m) v) 10 0 6 (v * 10 + (nI (B (s + m))).toInt64 - 48)).1 10 0 4 = nI (s + m) from hAt_a H (s + m) v, nI_1, hAt_p]
        refine i1.trans ?_
        rw [show m + 1 + rlen (pD B) q (s + (m + 1)) = m + (rlen (pD B) q (s + m + 1) + 1) by rw [show s + (m + 1) = s + m + 1 by omega]; omega]
      · have := i2 (by rw [show s + (m + 1) = s + m + 1 by omega]; omega)
        rw [show m + 1 + rlen (pD B) q (s + (m + 1)) = m + (rlen (pD B) q (s + m + 1) + 1) by rw [show s + (m + 1) = s + m + 1 by omega]; omega] at this
        exact this
    · rw [rlen_n (fun z => c (pD_iff.mp z))]
      refine ⟨v, ?_, hv⟩
      show f_Tokens_digits_c5 NF K (f_Tokens_digits_l5 NF K u) (nI s) (hAt H (s + m) v) = _
      unfold f_Tokens_digits_c5
      rw [hAt_a, (hAt_t t).2.2.1, if_pos (nI_lt hk (by omega)), C_byteAt (hAt_t t) hk, Option.bind_some, C_isDigit hb, Option.bind_some, if_neg c, if_pos rfl]
      rfl
theorem min_1 {m : Nat} (h : m < 8) : min (m + 1) 8 = min m 8 + 1 := by omega
theorem M_word_loop {B : Nat → Nat} {n s : Nat} {G : sh_H} (t : TPm B n G) (K : Int32 → Int32 → Int64 → sh_H → Option (Int32 × sh_H)) : ∀ (q m u : Nat), s + m + q = n → q < u → f_M_scan_l12 NF K u (nI s) (nI (s + m)) (lN (vf 27 (fun j => B (s + j) - 96) (min m 8))) G = K (nI s) (nI (s + (m + rlen (pL B) q (s + m)))) (lN (vf 27 (fun j => B (s + j) - 96) (min (m + rlen (pL B) q (s + m)) 8))) G := by
  intro q
  induction q with
  | zero =>
    intro m u e1 e2
    obtain ⟨u, rfl⟩ : ∃ m, u = m + 1 := ⟨u - 1, by omega⟩
    have n2 := t.1
    show f_M_scan_c12 NF K (f_M_scan_l12 NF K u) (nI s) (nI (s + m)) _ G = _
    unfold f_M_scan_c12
    rw [M_isLetter t (by omega), Option.bind_some, if_neg (show ¬ isL (bA B n (s + m)) by unfold bA; rw [if_neg (by omega)]; omega), if_pos rfl]
    rfl
  | succ q ih =>
    intro m u e1 e2
    obtain ⟨u, rfl⟩ : ∃ m, u = m + 1 := ⟨u - 1, by omega⟩
    have n2 := t.1
    have hk : s + m < n := by omega
    have hb := t.2.1 _ hk
    show f_M_scan_c12 NF K (f_M_scan_l12 NF K u) (nI s) (nI (s + m)) _ G = _
    unfold f_M_scan_c12 f_M_scan_b45
    rw [M_isLetter t (by omega), Option.bind_some, M_byteAt t (by omega), Option.bind_some, bA_in hk]
    by_cases c : isL (B (s + m))
    · rw [if_pos c, if_neg q_10, rlen_s (pL_iff.mpr c), q_sub (by omega), nI_1]
      have i1 := ih (m + 1) u (by omega) (by omega)
      rw [show m + 1 + rlen (pL B) q (s + (m + 1)) = m + (rlen (pL B) q (s + m + 1) + 1) by rw [show s + (m + 1) = s + m + 1 by omega]; omega] at i1
      by_cases h8 : m < 8
      · rw [if_pos (show nI (s + m - s) < (8 : Int32) from nI_lt (b := 8) (by omega) (by omega)), ← i1, min_1 h8, vf_s, show s + (m + 1) = s + m + 1 by omega]
        congr 1
        have c1 := c.1
        rw [show min m 8 = m by omega, nI_l (by omega), show (27 : Int64) = lN 27 from rfl, show (96 : Int64) = lN 96 from rfl, lN_mul, lN_add, lN_sub (by omega)]
        congr 1
        omega
      · rw [if_neg (show ¬ nI (s + m - s) < (8 : Int32) from nI_nlt (a := s + m - s) (b := 8) (by omega) (by omega)), ← i1, show min (m + 1) 8 = min m 8 by omega, show s + (m + 1) = s + m + 1 by omega]
    · rw [if_neg c, if_pos rfl, rlen_n (fun z => c (pL_iff.mp z))]
      rfl
theorem M_digit_loop {B : Nat → Nat} {n s : Nat} {G : sh_H} (t : TPm B n G) (K : Int32 → Int32 → Int32 → sh_H → Option (Int32 × sh_H)) : ∀ (q m u : Nat), s + m + q = n → q < u → f_M_scan_l120 NF K u (nI s) (nI (s + m)) (nI (vf 10 (fun j => B (s + j) - 48) (min m 4))) G = K (nI s) (nI (s + (m + rlen (pD B) q (s + m)))) (nI (vf 10 (fun j => B (s + j) - 48) (min (m + rlen (pD B) q (s + m)) 4))) G := by
  intro q
  induction q with
  | zero =>
    intro m u e1 e2
    obtain ⟨u, rfl⟩ : ∃ m, u = m + 1 := ⟨u - 1, by omega⟩
    have n2 := t.1
    show f_M_scan_c120 NF K (f_M_scan_l120 NF K u) (nI s) (nI (s + m)) _ G = _
    unfold f_M_scan_c120
    rw [M_isDigit t (by omega), Option.bind_some, if_neg (show ¬ isD (bA B n (s + m)) by unfold bA; rw [if_neg (by omega)]; omega), if_pos rfl]
    rfl
  | succ q ih =>
    intro m u e1 e2
    obtain ⟨u, rfl⟩ : ∃ m, u = m + 1 := ⟨u - 1, by omega⟩
    have n2 := t.1
    have hk : s + m < n := by omega
    have hb := t.2.1 _ hk
    show f_M_scan_c120 NF K (f_M_scan_l120 NF K u) (nI s) (nI (s + m)) _ G = _
    unfold f_M_scan_c120 f_M_scan_b149
    rw [M_isDigit t (by omega), Option.bind_some, M_byteAt t (by omega), Option.bind_some, bA_in hk]
    by_cases c : isD (B (s + m))
    · rw [if_pos c, if_neg q_10, rlen_s (pD_iff.mpr c), q_sub (by omega), nI_1]
      have i1 := ih (m + 1) u (by omega) (by omega)
      rw [show m + 1 + rlen (pD B) q (s + (m + 1)) = m + (rlen (pD B) q (s + m + 1) + 1) by rw [show s + (m + 1) = s + m + 1 by omega]; omega] at i1
      by_cases h8 : m < 4
      · rw [if_pos (show nI (s + m - s) < (4 : Int32) from nI_lt (b := 4) (by omega) (by omega)), ← i1, show min (m + 1) 4 = min m 4 + 1 by omega, vf_s, show s + (m + 1) = s + m + 1 by omega]
        congr 1
        have c1 := c.1
        rw [show min m 4 = m by omega, show (10 : Int32) = nI 10 from rfl, show (48 : Int32) = nI 48 from rfl, q_mul, nI_add, q_sub (by omega)]
        congr 1
        rw [Nat.mul_comm]
        omega
      · rw [if_neg (show ¬ nI (s + m - s) < (4 : Int32) from nI_nlt (a := s + m - s) (b := 4) (by omega) (by omega)), ← i1, show min (m + 1) 4 = min m 4 by omega, show s + (m + 1) = s + m + 1 by omega]
    · rw [if_neg c, if_pos rfl, rlen_n (fun z => c (pD_iff.mp z))]
      rfl
