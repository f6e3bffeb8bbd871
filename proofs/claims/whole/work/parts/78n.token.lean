/-! PAIR: read: one token -/
def rL (B : Nat → Nat) (n k : Nat) : Nat := rlen (pL B) (n - k) k
def rD (B : Nat → Nat) (n k : Nat) : Nat := rlen (pD B) (n - k) k
/-- the token that begins at k: its sort (the class's), its end, its number, its name in both -/
def tkS (B : Nat → Nat) (n k : Nat) : Nat := if isL (B k) then (if 8 < rL B n k then 24 else wfi (vf 27 (fun j => B (k + j) - 96) (rL B n k)) 13 0) else if isD (B k) then (if 4 < rD B n k then 24 else 21) else if B k = 61 then (if bA B n (k + 1) = 61 then 22 else 61) else if isS (B k) then B k else 24
def tkE (B : Nat → Nat) (n k : Nat) : Nat := if isL (B k) then k + rL B n k else if isD (B k) then k + rD B n k else if B k = 61 ∧ bA B n (k + 1) = 61 then k + 2 else k + 1
def tkV (B : Nat → Nat) (n k : Nat) : Nat := vf 10 (fun j => B (k + j) - 48) (rD B n k)
def tkX (B : Nat → Nat) (n k : Nat) : Nat := vf 32 (fun j => B (k + j) - 96) (rL B n k)
def tkY (B : Nat → Nat) (n k : Nat) : Nat := vf 27 (fun j => B (k + j) - 96) (min (rL B n k) 8)
def mso (S : Nat) : Nat := if S < 13 then 3 else if S = 20 then 0 else if S = 21 then 1 else if S = 23 then 4 else if S = 24 then 5 else 2
theorem rL_all {B : Nat → Nat} {n k j : Nat} (h : j < rL B n k) : isL (B (k + j)) := pL_iff.mp (rlen_all h)
theorem rD_all {B : Nat → Nat} {n k j : Nat} (h : j < rD B n k) : isD (B (k + j)) := pD_iff.mp (rlen_all h)
theorem rL_le {B : Nat → Nat} {n k : Nat} (h : k ≤ n) : k + rL B n k ≤ n := by have := rlen_le (P := pL B) (q := n - k) (k := k); unfold rL; omega
theorem rD_le {B : Nat → Nat} {n k : Nat} (h : k ≤ n) : k + rD B n k ≤ n := by have := rlen_le (P := pD B) (q := n - k) (k := k); unfold rD; omega
theorem rL_pos {B : Nat → Nat} {n k : Nat} (h : k < n) (c : isL (B k)) : 0 < rL B n k := by
  unfold rL
  rw [show n - k = (n - k - 1) + 1 by omega, rlen_s (pL_iff.mpr c)]
  omega
theorem rD_pos {B : Nat → Nat} {n k : Nat} (h : k < n) (c : isD (B k)) : 0 < rD B n k := by
  unfold rD
  rw [show n - k = (n - k - 1) + 1 by omega, rlen_s (pD_iff.mpr c)]
  omega
theorem tkE_in {B : Nat → Nat} {n k : Nat} (h : k < n) : k < tkE B n k ∧ tkE B n k ≤ n := by
  unfold tkE
  by_cases c : isL (B k)
  · rw [if_pos c]
    have := rL_pos h c
    have := rL_le (B := B) (n := n) (k := k) (by omega)
    omega
  · rw [if_neg c]
    by_cases d : isD (B k)
    · rw [if_pos d]
      have := rD_pos h d
      have := rD_le (B := B) (n := n) (k := k) (by omega)
      omega
    · rw [if_neg d]
      split
      · rename_i e
        have := e.2
        unfold bA at this
        by_cases z : k + 1 < n
        · omega
        · rw [if_neg z] at this; omega
      · omega
theorem hAt_s {H : sh_H} {k : Nat} {v : Int64} (hs : rStr H) : rStr (hAt H k v) := fun i j => by
  show (sh_pI H 10 0 4 (nI k)).1 19 i j = _
  exact (pI_ne (by omega)).trans (hs i j)
theorem C_next {B : Nat → Nat} {n k : Nat} {H : sh_H} (t : TPc B n H) (hs : rStr H) (hk : k < n) (ha : H.1 10 0 4 = nI k) (hv : H.2.1 10 0 6 = 0) : ∃ v, f_Tokens_next NF H = some (nI (tkS B n k), hAt H (tkE B n k) v) ∧ (tkS B n k = 20 → v = lN (tkX B n k)) ∧ (tkS B n k = 21 → v = lN (tkV B n k)) := by
  have n2 := t.1
  have hb := t.2.1 k hk
  have h0 : hAt H (k + 0) 0 = H := hAt_id ha hv
  have ne1 : ¬ nI (B k) = -1 := fun z => nI_pos (n := B k) (by omega) (by rw [z]; decide)
  unfold f_Tokens_next
  rw [ha, C_byteAt t hk, Option.bind_some, if_neg ne1, C_isLetter hb, Option.bind_some]
  by_cases c : isL (B k)
  · obtain ⟨v, e1, e2⟩ := C_word_loop (s := k) t (f_Tokens_word_b70 NF) (n - k) 0 NF 0 (by omega) (NF_gt (by omega)) (fun j hj => absurd hj (by omega)) (fun _ => rfl)
    rw [h0, Nat.add_zero, Nat.zero_add, show rlen (pL B) (n - k) k = rL B n k from rfl] at e1
    rw [Nat.add_zero, Nat.zero_add, show rlen (pL B) (n - k) k = rL B n k from rfl] at e2
    have le := rL_le (B := B) (n := n) (k := k) (by omega)
    have ee : tkE B n k = k + rL B n k := if_pos c
    rw [if_pos c, if_neg q_10]
    unfold f_Tokens_word
    rw [ha, e1, ee]
    unfold f_Tokens_word_b70
    rw [hAt_a, q_sub (by omega), show k + rL B n k - k = rL B n k by omega]
    by_cases d : 8 < rL B n k
    · have es : tkS B n k = 24 := by unfold tkS; rw [if_pos c, if_pos d]
      rw [es, if_pos (show (8 : Int32) < nI (rL B n k) from nI_lt (a := 8) d (by omega))]
      exact ⟨v, rfl, fun z => by omega, fun z => by omega⟩
    · have es : tkS B n k = wfi (vf 27 (fun j => B (k + j) - 96) (rL B n k)) 13 0 := by unfold tkS; rw [if_pos c, if_neg d]
      rw [if_neg (show ¬ (8 : Int32) < nI (rL B n k) from nI_nlt (a := 8) (by omega) (by omega)), show f_Tokens_word_l86 NF NF (nI k) 0 (hAt H (k + rL B n k) v) = _ from C_word_find (hAt_t t) (hAt_s hs) (hAt_a H _ v) le (fun j hj => rL_all hj) (by omega) 13 0 NF rfl (NF_gt (by omega)), ← es]
      refine ⟨v, rfl, fun _ => e2 (by omega), fun z => ?_⟩
      rcases wfi_le (v := vf 27 (fun j => B (k + j) - 96) (rL B n k)) (q := 13) (i := 0) rfl with w | w
      · omega
      · omega
  · rw [if_neg c, if_pos rfl, C_isDigit hb, Option.bind_some]
    by_cases d : isD (B k)
    · obtain ⟨v, e1, e2⟩ := C_digit_loop (s := k) t (f_Tokens_digits_b71 NF) (n - k) 0 NF 0 (by omega) (NF_gt (by omega)) (fun _ => rfl)
      rw [h0, Nat.add_zero, Nat.zero_add, show rlen (pD B) (n - k) k = rD B n k from rfl] at e1
      rw [Nat.add_zero, Nat.zero_add, show rlen (pD B) (n - k) k = rD B n k from rfl] at e2
      have le := rD_le (B := B) (n := n) (k := k) (by omega)
      have ee : tkE B n k = k + rD B n k := by unfold tkE; rw [if_neg c, if_pos d]
      rw [if_pos d, if_neg q_10]
      unfold f_Tokens_digits
      rw [ha, e1, ee]
      unfold f_Tokens_digits_b71
      rw [hAt_a, q_sub (by omega), show k + rD B n k - k = rD B n k by omega]
      by_cases f : 4 < rD B n k
      · have es : tkS B n k = 24 := by unfold tkS; rw [if_neg c, if_pos d, if_pos f]
        rw [es, if_pos (show (4 : Int32) < nI (rD B n k) from nI_lt (a := 4) f (by omega))]
        exact ⟨v, rfl, fun z => by omega, fun z => by omega⟩
      · have es : tkS B n k = 21 := by unfold tkS; rw [if_neg c, if_pos d, if_neg f]
        rw [es, if_neg (show ¬ (4 : Int32) < nI (rD B n k) from nI_nlt (a := 4) (by omega) (by omega))]
        exact ⟨v, rfl, fun z => by omega, fun _ => e2 (by omega)⟩
    · rw [if_neg d, if_pos rfl, sh_let, nI_1]
      have h1 : ∀ j, hAt H j 0 = sh_pI H 10 0 4 (nI j) := fun j => pJ_id hv.symm
      have t1 : TPc B n (sh_pI H 10 0 4 (nI (k + 1))) := TPc_to (fun c i j h => pI_ne (by omega)) t
      have s1 : rStr (sh_pI H 10 0 4 (nI (k + 1))) := fun i j => (pI_ne (by omega)).trans (hs i j)
      by_cases g : B k = 61
      · rw [g, if_pos (show (nI 61 : Int32) = 61 from rfl), pI_at]
        by_cases m : k + 1 < n
        · rw [C_byteAt t1 m, Option.bind_some]
          by_cases w : B (k + 1) = 61
          · have es : tkS B n k = 22 := by unfold tkS; rw [if_neg c, if_neg d, if_pos g, bA_in m, if_pos w]
            have ee : tkE B n k = k + 2 := by unfold tkE; rw [if_neg c, if_neg d, bA_in m, if_pos ⟨g, w⟩]
            rw [es, ee, w, if_pos (show (nI 61 : Int32) = 61 from rfl), sh_let, nI_1, pI_pI]
            exact ⟨0, by rw [h1]; rfl, fun z => by omega, fun z => by omega⟩
          · have es : tkS B n k = 61 := by unfold tkS; rw [if_neg c, if_neg d, if_pos g, bA_in m, if_neg w]
            have ee : tkE B n k = k + 1 := by unfold tkE; rw [if_neg c, if_neg d, bA_in m, if_neg (fun z => w z.2)]
            rw [es, ee, if_neg (show ¬ nI (B (k + 1)) = 61 from nI_ne (b := 61) w (by have := t.2.1 _ m; omega) (by omega)), C_sign (by omega) s1, if_pos (by omega)]
            exact ⟨0, by rw [h1], fun z => by omega, fun z => by omega⟩
        · have z0 : ¬ bA B n (k + 1) = 61 := by unfold bA; rw [if_neg m]; omega
          have es : tkS B n k = 61 := by unfold tkS; rw [if_neg c, if_neg d, if_pos g, if_neg z0]
          have ee : tkE B n k = k + 1 := by unfold tkE; rw [if_neg c, if_neg d, if_neg (fun z => z0 z.2)]
          rw [C_byteEnd t1 (by omega) (by omega), Option.bind_some, es, ee, if_neg (show ¬ (-1 : Int32) = 61 by decide), C_sign (by omega) s1, if_pos (by omega)]
          exact ⟨0, by rw [h1], fun z => by omega, fun z => by omega⟩
      · have es : tkS B n k = if isS (B k) then B k else 24 := by unfold tkS; rw [if_neg c, if_neg d, if_neg g]
        have ee : tkE B n k = k + 1 := by unfold tkE; rw [if_neg c, if_neg d, if_neg (fun z => g z.1)]
        rw [if_neg (show ¬ nI (B k) = 61 from nI_ne (b := 61) g (by omega) (by omega)), C_sign hb s1, ← es, ee]
        have no : tkS B n k ≠ 20 ∧ tkS B n k ≠ 21 := by rw [es]; split <;> omega
        exact ⟨0, by rw [h1], fun z => absurd z no.1, fun z => absurd z no.2⟩
theorem M_token {G : sh_H} {i : Nat} (hi : G.1 12 0 2 = nI i) (h2 : i < 2001) (a b c : Int32) : ∃ G', f_M_token a b c G = some G' ∧ G'.1 12 0 2 = nI (i + 1) ∧ G'.1 13 43 i = a ∧ G'.1 13 44 i = b ∧ G'.1 13 45 i = c ∧ (∀ c i' j, ¬ (c = 12 ∧ j = 2) → ¬ (c = 13 ∧ 43 ≤ i' ∧ i' ≤ 45 ∧ j = i) → G'.1 c i' j = G.1 c i' j) ∧ G'.2 = G.2 := by
  have in1 : ai_in (nI i) 2001 := q_in h2 (by omega)
  have cl1 : (nI i).toNatClampNeg = i := q_cl (by omega)
  refine ⟨sh_pI (sh_pI (sh_pI (sh_pI G 13 43 i a) 13 44 i b) 13 45 i c) 12 0 2 (nI (i + 1)), ?_, pI_at _ _ _ _ _, ?_, ?_, ?_, fun c' i' j n1 n2 => ?_, rfl⟩
  · unfold f_M_token
    have e1 : (sh_pI G 13 43 i a).1 12 0 2 = nI i := (pI_ne (by omega)).trans hi
    have e2 : (sh_pI (sh_pI G 13 43 i a) 13 44 i b).1 12 0 2 = nI i := (pI_ne (by omega)).trans e1
    have e3 : (sh_pI (sh_pI (sh_pI G 13 43 i a) 13 44 i b) 13 45 i c).1 12 0 2 = nI i := (pI_ne (by omega)).trans e2
    rw [hi, if_pos in1, cl1, sh_let, e1, if_pos in1, cl1, sh_let, e2, if_pos in1, cl1, sh_let, e3, sh_let, nI_1]
  · rw [pI_ne (by omega), pI_ne (by omega), pI_ne (by omega), pI_at]
  · rw [pI_ne (by omega), pI_ne (by omega), pI_at]
  · rw [pI_ne (by omega), pI_at]
  · rw [pI_ne (by omega), pI_ne (by omega), pI_ne (by omega), pI_ne (by omega)]
/-- what the model's token leaves -/
def tkF (i : Nat) (G' G : sh_H) : Prop := (∀ c i' j, ¬ (c = 12 ∧ j = 2) → ¬ (c = 13 ∧ 43 ≤ i' ∧ i' ≤ 45 ∧ j = i) → G'.1 c i' j = G.1 c i' j) ∧ (∀ c i' j, ¬ (c = 14 ∧ i' = 5 ∧ j = i) → G'.2.1 c i' j = G.2.1 c i' j) ∧ G'.2.2 = G.2.2
theorem M_scan {B : Nat → Nat} {n k i : Nat} {G : sh_H} (t : TPm B n G) (hk : k < n) (hi : G.1 12 0 2 = nI i) (h2 : i < 2001) : ∃ G', f_M_scan NF (nI k) G = some (nI (tkE B n k), G') ∧ tkF i G' G ∧ G'.1 12 0 2 = nI (i + 1) ∧ G'.1 13 43 i = nI (mso (tkS B n k)) ∧ G'.1 13 44 i = nI k ∧ ((tkS B n k < 13 ∨ 40 ≤ tkS B n k) → G'.1 13 45 i = nI (tkS B n k)) ∧ (tkS B n k = 21 → G'.1 13 45 i = nI (tkV B n k)) ∧ (tkS B n k = 22 → G'.1 13 45 i = nI 300) ∧ (tkS B n k = 20 → G'.2.1 14 5 i = lN (tkY B n k)) := by
  have n2 := t.1
  have hb := t.2.1 k hk
  unfold f_M_scan
  rw [M_isLetter t (by omega), Option.bind_some, bA_in hk]
  by_cases c : isL (B k)
  · have lp := M_word_loop (s := k) t (f_M_scan_b51 NF) (n - k) 0 NF (by omega) (NF_gt (by omega))
    rw [Nat.add_zero, Nat.zero_add, show rlen (pL B) (n - k) k = rL B n k from rfl] at lp
    have le := rL_le (B := B) (n := n) (k := k) (by omega)
    have ee : tkE B n k = k + rL B n k := if_pos c
    rw [if_pos c, if_neg q_10, show f_M_scan_l12 NF (f_M_scan_b51 NF) NF (nI k) (nI k) 0 G = _ from lp, ee]
    have vl := vf_le (Bs := 27) (D := 26) (by omega) (f := fun j => B (k + j) - 96) (m := min (rL B n k) 8) (fun j hj => by have := (rL_all (B := B) (n := n) (k := k) (j := j) (by omega)).2; show B (k + j) - 96 ≤ 26; omega)
    have vl2 := pow_up (Bs := 27) (m := min (rL B n k) 8) (k := 8) (by omega) (by omega)
    have vl3 : (27 : Nat) ^ 8 < 2 ^ 40 := by decide
    have stp : ∀ (s1 s0 : Int32), ∃ G', Option.bind (f_M_token s1 (nI k) s0 (sh_pJ G 14 5 i (lN (tkY B n k)))) (fun h5 => some (nI (k + rL B n k), h5)) = some (nI (k + rL B n k), G') ∧ tkF i G' G ∧ G'.1 12 0 2 = nI (i + 1) ∧ G'.1 13 43 i = s1 ∧ G'.1 13 44 i = nI k ∧ G'.1 13 45 i = s0 ∧ G'.2.1 14 5 i = lN (tkY B n k) := by
      intro s1 s0
      obtain ⟨G', g1, g2, g3, g4, g5, g6, g7⟩ := M_token (G := sh_pJ G 14 5 i (lN (tkY B n k))) hi h2 s1 (nI k) s0
      refine ⟨G', by rw [g1]; rfl, ⟨g6, fun c' i' j n1 => ?_, by rw [g7]; rfl⟩, g2, g3, g4, g5, ?_⟩
      · rw [g7]; exact if_neg n1
      · rw [g7]; exact if_pos ⟨rfl, rfl, rfl⟩
    have b67 : ∀ s0 : Int32, f_M_scan_b67 NF (nI k) (nI (k + rL B n k)) (lN (vf 27 (fun j => B (k + j) - 96) (min (rL B n k) 8))) s0 G = if 8 < rL B n k then Option.bind (f_M_token 5 (nI k) s0 (sh_pJ G 14 5 i (lN (tkY B n k)))) (fun h5 => some (nI (k + rL B n k), h5)) else if s0 < 0 then Option.bind (f_M_token 0 (nI k) s0 (sh_pJ G 14 5 i (lN (tkY B n k)))) (fun h5 => some (nI (k + rL B n k), h5)) else Option.bind (f_M_token 3 (nI k) s0 (sh_pJ G 14 5 i (lN (tkY B n k)))) (fun h5 => some (nI (k + rL B n k), h5)) := by
      intro s0
      unfold f_M_scan_b67 f_M_scan_b102
      rw [hi, if_pos (q_in h2 (by omega)), q_cl (by omega), sh_let, q_sub (by omega), show k + rL B n k - k = rL B n k by omega]
      by_cases d : 8 < rL B n k
      · rw [if_pos d, if_pos (show (8 : Int32) < nI (rL B n k) from nI_lt (a := 8) d (by omega))]
        rfl
      · rw [if_neg d, if_neg (show ¬ (8 : Int32) < nI (rL B n k) from nI_nlt (a := 8) (by omega) (by omega))]
        rfl
    unfold f_M_scan_b51
    rw [q_sub (by omega), show k + rL B n k - k = rL B n k by omega]
    by_cases d : 8 < rL B n k
    · have es : tkS B n k = 24 := by unfold tkS; rw [if_pos c, if_pos d]
      rw [if_pos (show (8 : Int32) < nI (rL B n k) from nI_lt (a := 8) d (by omega)), b67, if_pos d, es]
      obtain ⟨G', g1, g2, g3, g4, g5, g6, g7⟩ := stp 5 (-1)
      exact ⟨G', g1, g2, g3, g4, g5, fun z => by omega, fun z => by omega, fun z => by omega, fun z => by omega⟩
    · have es : tkS B n k = wfi (vf 27 (fun j => B (k + j) - 96) (rL B n k)) 13 0 := by unfold tkS; rw [if_pos c, if_neg d]
      have em : min (rL B n k) 8 = rL B n k := by omega
      rw [if_neg (show ¬ (8 : Int32) < nI (rL B n k) from nI_nlt (a := 8) (by omega) (by omega)), M_wordOf (by omega), Option.bind_some, b67, if_neg d, em, ← es]
      by_cases w : tkS B n k = 20
      · rw [w, if_pos rfl, if_pos q_n1]
        obtain ⟨G', g1, g2, g3, g4, g5, g6, g7⟩ := stp 0 (-1)
        exact ⟨G', g1, g2, g3, g4, g5, fun z => by omega, fun z => by omega, fun z => by omega, fun _ => g7⟩
      · have w13 : tkS B n k < 13 := by
          rcases wfi_le (v := vf 27 (fun j => B (k + j) - 96) (rL B n k)) (q := 13) (i := 0) rfl with w' | w'
          · exact absurd (es.trans w') w
          · omega
        rw [if_neg w, if_neg (nI_pos (by omega))]
        obtain ⟨G', g1, g2, g3, g4, g5, g6, g7⟩ := stp 3 (nI (tkS B n k))
        refine ⟨G', g1, g2, g3, ?_, g5, fun _ => g6, fun z => by omega, fun z => by omega, fun z => by omega⟩
        rw [g4]
        unfold mso
        rw [if_pos w13]
        rfl
  · rw [if_neg c, if_pos rfl, M_isDigit t (by omega), Option.bind_some, bA_in hk]
    by_cases d : isD (B k)
    · have lp := M_digit_loop (s := k) t (f_M_scan_b155 NF) (n - k) 0 NF (by omega) (NF_gt (by omega))
      rw [Nat.add_zero, Nat.zero_add, show rlen (pD B) (n - k) k = rD B n k from rfl] at lp
      have le := rD_le (B := B) (n := n) (k := k) (by omega)
      have ee : tkE B n k = k + rD B n k := by unfold tkE; rw [if_neg c, if_pos d]
      rw [if_pos d, if_neg q_10, show f_M_scan_l120 NF (f_M_scan_b155 NF) NF (nI k) (nI k) 0 G = _ from lp, ee]
      unfold f_M_scan_b155 f_M_scan_b168
      rw [q_sub (by omega), show k + rD B n k - k = rD B n k by omega]
      by_cases f : 4 < rD B n k
      · have es : tkS B n k = 24 := by unfold tkS; rw [if_neg c, if_pos d, if_pos f]
        rw [if_pos (show (4 : Int32) < nI (rD B n k) from nI_lt (a := 4) f (by omega)), es]
        obtain ⟨G', g1, g2, g3, g4, g5, g6, g7⟩ := M_token hi h2 5 (nI k) (nI (vf 10 (fun j => B (k + j) - 48) (min (rD B n k) 4)))
        rw [g1]
        exact ⟨G', rfl, ⟨g6, fun _ _ _ _ => by rw [g7], by rw [g7]⟩, g2, g3, g4, fun z => by omega, fun z => by omega, fun z => by omega, fun z => by omega⟩
      · have es : tkS B n k = 21 := by unfold tkS; rw [if_neg c, if_pos d, if_neg f]
        have em : min (rD B n k) 4 = rD B n k := by omega
        rw [if_neg (show ¬ (4 : Int32) < nI (rD B n k) from nI_nlt (a := 4) (by omega) (by omega)), es, em]
        obtain ⟨G', g1, g2, g3, g4, g5, g6, g7⟩ := M_token hi h2 1 (nI k) (nI (vf 10 (fun j => B (k + j) - 48) (rD B n k)))
        rw [g1]
        exact ⟨G', rfl, ⟨g6, fun _ _ _ _ => by rw [g7], by rw [g7]⟩, g2, g3, g4, fun z => by omega, fun _ => g5, fun z => by omega, fun z => by omega⟩
    · rw [if_neg d, if_pos rfl, M_signAt t hk, Option.bind_some]
      have fin1 : ∀ (s1 : Int32) (v e : Nat), v ≤ 300 → e = (if v < 300 then 1 else 2) → ∃ G', f_M_scan_b191 NF (nI k) (nI v) s1 G = some (nI (k + e), G') ∧ tkF i G' G ∧ G'.1 12 0 2 = nI (i + 1) ∧ G'.1 13 43 i = s1 ∧ G'.1 13 44 i = nI k ∧ G'.1 13 45 i = nI v := by
        intro s1 v e hv he
        obtain ⟨G', g1, g2, g3, g4, g5, g6, g7⟩ := M_token hi h2 s1 (nI k) (nI v)
        refine ⟨G', ?_, ⟨g6, fun _ _ _ _ => by rw [g7], by rw [g7]⟩, g2, g3, g4, g5⟩
        unfold f_M_scan_b191 f_M_scan_b209
        rw [g1, Option.bind_some]
        by_cases w : v < 300
        · rw [if_pos (show nI v < (300 : Int32) from nI_lt (b := 300) w (by omega)), he, if_pos w, nI_1]
        · rw [if_neg (show ¬ nI v < (300 : Int32) from nI_nlt (a := v) (b := 300) (by omega) (by omega)), he, if_neg w, show (2 : Int32) = nI 2 from rfl, nI_add]
      by_cases g : B k = 61
      · rw [if_pos g]
        by_cases m : bA B n (k + 1) = 61
        · have es : tkS B n k = 22 := by unfold tkS; rw [if_neg c, if_neg d, if_pos g, if_pos m]
          have ee : tkE B n k = k + 2 := by unfold tkE; rw [if_neg c, if_neg d, if_pos ⟨g, m⟩]
          rw [if_pos m, if_neg (show ¬ nI 300 = 0 by decide), es, ee]
          obtain ⟨G', g1, g2, g3, g4, g5, g6⟩ := fin1 2 300 2 (by omega) rfl
          exact ⟨G', g1, g2, g3, g4, g5, fun z => by omega, fun z => by omega, fun _ => g6, fun z => by omega⟩
        · have es : tkS B n k = 61 := by unfold tkS; rw [if_neg c, if_neg d, if_pos g, if_neg m]
          have ee : tkE B n k = k + 1 := by unfold tkE; rw [if_neg c, if_neg d, if_neg (fun z => m z.2)]
          rw [if_neg m, if_neg (show ¬ nI 61 = 0 by decide), es, ee]
          obtain ⟨G', g1, g2, g3, g4, g5, g6⟩ := fin1 2 61 1 (by omega) rfl
          exact ⟨G', g1, g2, g3, g4, g5, fun _ => g6, fun z => by omega, fun z => by omega, fun z => by omega⟩
      · have ee : tkE B n k = k + 1 := by unfold tkE; rw [if_neg c, if_neg d, if_neg (fun z => g z.1)]
        rw [if_neg g, ee]
        by_cases s : isS (B k)
        · have es : tkS B n k = B k := by unfold tkS; rw [if_neg c, if_neg d, if_neg g, if_pos s]
          rw [if_pos s, if_neg (nI_ne0 (by omega) (by omega)), es]
          obtain ⟨G', g1, g2, g3, g4, g5, g6⟩ := fin1 2 (B k) 1 (by omega) (by rw [if_pos (by omega)])
          refine ⟨G', g1, g2, g3, ?_, g5, fun _ => g6, fun z => by omega, fun z => by omega, fun z => by omega⟩
          rw [g4]
          unfold mso
          rw [if_neg (by omega), if_neg (by omega), if_neg (by omega), if_neg (by omega), if_neg (by omega)]
          rfl
        · have es : tkS B n k = 24 := by unfold tkS; rw [if_neg c, if_neg d, if_neg g, if_neg s]
          rw [if_neg s, if_pos (show nI 0 = 0 from rfl), es]
          obtain ⟨G', g1, g2, g3, g4, g5, g6⟩ := fin1 5 0 1 (by omega) rfl
          exact ⟨G', g1, g2, g3, g4, g5, fun z => by omega, fun z => by omega, fun z => by omega, fun z => by omega⟩
