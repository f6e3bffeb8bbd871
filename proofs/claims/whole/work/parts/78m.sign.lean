/-! PAIR: read: which word, which sign -/
def wch (q : Nat) : Nat := ((ai_sbyt.getD 0 []).getD q 0).toNatClampNeg
def wlen (i : Nat) : Nat := ([4, 6, 4, 4, 4, 5, 4, 4, 5, 5, 3, 4, 5] : List Nat).getD i 0
def wlv (i : Nat) : Nat := ([223456, 139474849, 453836, 247664, 127274, 4562600, 456399, 50348, 3215233, 7214732, 5878, 464144, 7742498] : List Nat).getD i 0
theorem wch_b : ∀ q, q < 91 → ai_nar 3 (ai_nar 3 ((((ai_sbyt.getD 0 []).getD q 0) &&& (255 : Int32)).toUInt32 % 65536).toInt32) = nI (wch q) ∧ wch q < 256 := by decide +kernel
theorem wch_l : ∀ i, i < 13 → 1 ≤ wlen i ∧ wlen i < 7 ∧ wlv i < 2 ^ 40 ∧ wlv i = vf 27 (fun j => wch (7 * i + j) - 96) (wlen i) ∧ ∀ j, j < 7 → (j < wlen i → 97 ≤ wch (7 * i + j) ∧ wch (7 * i + j) ≤ 122) ∧ (¬ j < wlen i → wch (7 * i + j) = 32) := by decide +kernel
theorem Str_charAt {h : sh_H} (hs : rStr h) {q : Nat} (hq : q < 91) : f_Str_charAt 0 (nI q) h = some (nI (wch q)) := by
  unfold f_Str_charAt f_Str_isLatin1
  rw [if_neg q_10, if_pos rfl, q_nar1, Option.bind_some, if_neg q_10]
  unfold f_Lat_charAt f_Str_checkIndex f_Pre_checkIndex
  rw [if_neg (nI_pos (by omega)), show Int32.ofNat (ai_slen.getD 0 0) = nI 91 from rfl, if_pos (nI_lt hq (by omega)), Option.bind_some, Option.bind_some, show ai_slen.getD 0 0 = 91 from rfl, if_pos (q_in hq (by omega)), Option.bind_some, q_cl (by omega), hs 0 q, (wch_b q hq).1]
theorem Str_length0 (h : sh_H) : f_Str_length 0 h = some (nI 91) := rfl
/-- the letters from s on are the word i -/
def isW (B : Nat → Nat) (s m i : Nat) : Prop := m < 7 ∧ ∀ j, j < 7 → (if j < m then B (s + j) else 32) = wch (7 * i + j)
theorem isW_iff {B : Nat → Nat} {s m i : Nat} (hi : i < 13) (hl : ∀ j, j < m → isL (B (s + j))) (hm : m ≤ 8) : isW B s m i ↔ vf 27 (fun j => B (s + j) - 96) m = wlv i := by
  obtain ⟨w1, w2, -, w3, w4⟩ := wch_l i hi
  constructor
  · rintro ⟨m7, e⟩
    have em : m = wlen i := by
      by_cases c : m < wlen i
      · have a := e m m7
        rw [if_neg (Nat.lt_irrefl _)] at a
        have := ((w4 m m7).1 c).1
        omega
      · by_cases c2 : wlen i < m
        · have a := e (wlen i) w2
          rw [if_pos c2, (w4 (wlen i) w2).2 (Nat.lt_irrefl _)] at a
          have := (hl _ c2).1
          omega
        · omega
    rw [w3, ← em]
    exact vf_cg (fun j hj => by
      have a := e j (by omega)
      rw [if_pos hj] at a
      show B (s + j) - 96 = wch (7 * i + j) - 96
      rw [a])
  · intro e
    rw [w3] at e
    obtain ⟨e1, e2⟩ := vf_inj (by omega) (fun j hj => by have := hl j hj; show 1 ≤ B (s + j) - 96 ∧ B (s + j) - 96 ≤ 26; omega) (fun j hj => by have := (w4 j (by omega)).1 hj; show 1 ≤ wch (7 * i + j) - 96 ∧ wch (7 * i + j) - 96 ≤ 26; omega) e
    refine ⟨by omega, fun j hj => ?_⟩
    by_cases c : j < m
    · rw [if_pos c]
      have a : B (s + j) - 96 = wch (7 * i + j) - 96 := e2 j c
      have b := (hl j c).1
      have d := ((w4 j hj).1 (by omega)).1
      omega
    · rw [if_neg c, (w4 j hj).2 (by omega)]
theorem C_isWord {B : Nat → Nat} {n s m i : Nat} {H : sh_H} (t : TPc B n H) (hs : rStr H) (ha : H.1 10 0 4 = nI (s + m)) (hn : s + m ≤ n) (hi : i < 13) (hl : ∀ j, j < m → isL (B (s + j))) (hm : m ≤ 8) : f_Tokens_isWord NF (nI s) (nI i) H = some (if vf 27 (fun j => B (s + j) - 96) m = wlv i then 1 else 0) := by
  have n2 := t.1
  have iff := isW_iff hi hl hm
  unfold f_Tokens_isWord
  rw [ha, q_sub (by omega), show s + m - s = m by omega, q_nar0]
  by_cases m7 : m < 7
  · have lp : ∀ (q j u : Nat), j + q = 7 → q < u → (∀ x, x < j → (if x < m then B (s + x) else 32) = wch (7 * i + x)) → f_Tokens_isWord_l44 NF u (nI s) (nI (i * 7)) (nI m) (nI j) H = some (if vf 27 (fun j => B (s + j) - 96) m = wlv i then 1 else 0) := by
      intro q
      induction q with
      | zero =>
        intro j u e1 e2 hx
        obtain ⟨u, rfl⟩ : ∃ m, u = m + 1 := ⟨u - 1, by omega⟩
        show f_Tokens_isWord_c44 NF (f_Tokens_isWord_l44 NF u) (nI s) (nI (i * 7)) (nI m) (nI j) H = _
        unfold f_Tokens_isWord_c44
        rw [if_neg (show ¬ nI j < (7 : Int32) from nI_nlt (a := j) (b := 7) (by omega) (by omega)), q_nar1, if_pos (iff.mp ⟨m7, fun x hx7 => hx x (by omega)⟩)]
      | succ q ih =>
        intro j u e1 e2 hx
        obtain ⟨u, rfl⟩ : ∃ m, u = m + 1 := ⟨u - 1, by omega⟩
        have hw := wch_b (7 * i + j) (by omega)
        have st : ∀ b : Nat, b < 256 → (if j < m then B (s + j) else 32) = b → f_Tokens_isWord_b72 NF (f_Tokens_isWord_l44 NF u) (nI s) (nI (i * 7)) (nI m) (nI j) (nI b) H = some (if vf 27 (fun j => B (s + j) - 96) m = wlv i then 1 else 0) := by
          intro b hb eb
          unfold f_Tokens_isWord_b72
          rw [nI_add, show i * 7 + j = 7 * i + j by omega, Str_charAt hs (by omega), Option.bind_some, nI_1, q_nar0]
          by_cases c : b = wch (7 * i + j)
          · rw [if_pos (by rw [c])]
            exact ih (j + 1) u (by omega) (by omega) (fun x hx1 => by
              by_cases z : x < j
              · exact hx x z
              · rw [show x = j by omega, eb, c])
          · rw [if_neg (fun z => c ((nI_eq (by omega) (by have := hw.2; omega)).mp z)), if_neg (fun z => c (by rw [← eb]; exact (iff.mpr z).2 j (by omega)))]
        show f_Tokens_isWord_c44 NF (f_Tokens_isWord_l44 NF u) (nI s) (nI (i * 7)) (nI m) (nI j) H = _
        unfold f_Tokens_isWord_c44
        rw [if_pos (show nI j < (7 : Int32) from nI_lt (b := 7) (by omega) (by omega))]
        by_cases c : j < m
        · rw [if_pos (nI_lt c (by omega)), nI_add, C_byteAt t (by omega), Option.bind_some]
          exact st _ (t.2.1 _ (by omega)) (if_pos c)
        · rw [if_neg (nI_nlt (by omega) (by omega))]
          exact st 32 (by omega) (if_neg c)
    rw [if_pos (show nI m < (7 : Int32) from nI_lt (b := 7) m7 (by omega)), show (7 : Int32) = nI 7 from rfl, q_mul, if_neg (nI_pos (by omega)), Str_length0, Option.bind_some, nI_add, if_neg (nI_nlt (by omega) (by omega))]
    exact lp 7 0 NF rfl (NF_gt (by omega)) (fun x hx => absurd hx (by omega))
  · rw [if_neg (show ¬ nI m < (7 : Int32) from nI_nlt (a := m) (b := 7) (by omega) (by omega)), if_neg (fun z => m7 (iff.mpr z).1)]
/-- the word of a value, from i on; 20: none -/
def wfi (v : Nat) : Nat → Nat → Nat
  | 0, _ => 20
  | q + 1, i => if v = wlv i then i else wfi v q (i + 1)
theorem wfi_le {v : Nat} : ∀ {q i : Nat}, i + q = 13 → wfi v q i = 20 ∨ wfi v q i < 13 := by
  intro q
  induction q with
  | zero => intro i _; exact Or.inl rfl
  | succ q ih =>
    intro i e
    unfold wfi
    split
    · omega
    · exact ih (by omega)
theorem C_word_find {B : Nat → Nat} {n s m : Nat} {H : sh_H} (t : TPc B n H) (hs : rStr H) (ha : H.1 10 0 4 = nI (s + m)) (hn : s + m ≤ n) (hl : ∀ j, j < m → isL (B (s + j))) (hm : m ≤ 8) : ∀ (q i u : Nat), i + q = 13 → q < u → f_Tokens_word_l86 NF u (nI s) (nI i) H = some (nI (wfi (vf 27 (fun j => B (s + j) - 96) m) q i), H) := by
  intro q
  induction q with
  | zero =>
    intro i u e1 e2
    obtain ⟨u, rfl⟩ : ∃ m, u = m + 1 := ⟨u - 1, by omega⟩
    show f_Tokens_word_c86 NF (f_Tokens_word_l86 NF u) (nI s) (nI i) H = _
    unfold f_Tokens_word_c86
    rw [if_neg (show ¬ nI i < (13 : Int32) from nI_nlt (a := i) (b := 13) (by omega) (by omega))]
    rfl
  | succ q ih =>
    intro i u e1 e2
    obtain ⟨u, rfl⟩ : ∃ m, u = m + 1 := ⟨u - 1, by omega⟩
    show f_Tokens_word_c86 NF (f_Tokens_word_l86 NF u) (nI s) (nI i) H = _
    unfold f_Tokens_word_c86 wfi
    rw [if_pos (show nI i < (13 : Int32) from nI_lt (b := 13) (by omega) (by omega)), C_isWord t hs ha hn (by omega) hl hm, Option.bind_some]
    by_cases c : vf 27 (fun j => B (s + j) - 96) m = wlv i
    · rw [if_pos c, if_pos c, if_neg q_10]
    · rw [if_neg c, if_neg c, if_pos rfl, nI_1]
      exact ih (i + 1) u (by omega) (by omega)
theorem M_wordOf {v : Nat} (hv : v < 2 ^ 60) (h : sh_H) : f_M_wordOf (lN v) h = some (if wfi v 13 0 = 20 then -1 else nI (wfi v 13 0)) := by
  have e : ∀ c : Nat, c < 2 ^ 60 → (lg_cmp (lN v) (lN c) = 0) = (v = c) := fun c hc => propext (lc_eq (by omega) (by omega))
  unfold f_M_wordOf
  rw [show (223456 : Int64) = lN 223456 from rfl, show (139474849 : Int64) = lN 139474849 from rfl, show (453836 : Int64) = lN 453836 from rfl, show (247664 : Int64) = lN 247664 from rfl, show (127274 : Int64) = lN 127274 from rfl, show (4562600 : Int64) = lN 4562600 from rfl, show (456399 : Int64) = lN 456399 from rfl, show (50348 : Int64) = lN 50348 from rfl, show (3215233 : Int64) = lN 3215233 from rfl, show (7214732 : Int64) = lN 7214732 from rfl, show (5878 : Int64) = lN 5878 from rfl, show (464144 : Int64) = lN 464144 from rfl, show (7742498 : Int64) = lN 7742498 from rfl]
  simp only [e 223456 (by omega), e 139474849 (by omega), e 453836 (by omega), e 247664 (by omega), e 127274 (by omega), e 4562600 (by omega), e 456399 (by omega), e 50348 (by omega), e 3215233 (by omega), e 7214732 (by omega), e 5878 (by omega), e 464144 (by omega), e 7742498 (by omega)]
  by_cases c0 : v = 223456
  · subst c0; rfl
  by_cases c1 : v = 139474849
  · subst c1; rfl
  by_cases c2 : v = 453836
  · subst c2; rfl
  by_cases c3 : v = 247664
  · subst c3; rfl
  by_cases c4 : v = 127274
  · subst c4; rfl
  by_cases c5 : v = 4562600
  · subst c5; rfl
  by_cases c6 : v = 456399
  · subst c6; rfl
  by_cases c7 : v = 50348
  · subst c7; rfl
  by_cases c8 : v = 3215233
  · subst c8; rfl
  by_cases c9 : v = 7214732
  · subst c9; rfl
  by_cases c10 : v = 5878
  · subst c10; rfl
  by_cases c11 : v = 464144
  · subst c11; rfl
  by_cases c12 : v = 7742498
  · subst c12; rfl
  rw [if_neg c0, if_neg c1, if_neg c2, if_neg c3, if_neg c4, if_neg c5, if_neg c6, if_neg c7, if_neg c8, if_neg c9, if_neg c10, if_neg c11, if_neg c12]
  have w : wfi v 13 0 = 20 := by
    unfold wfi wfi wfi wfi wfi wfi wfi wfi wfi wfi wfi wfi wfi wfi
    rw [if_neg (show ¬ v = wlv 0 from c0), if_neg (show ¬ v = wlv 1 from c1), if_neg (show ¬ v = wlv 2 from c2), if_neg (show ¬ v = wlv 3 from c3), if_neg (show ¬ v = wlv 4 from c4), if_neg (show ¬ v = wlv 5 from c5), if_neg (show ¬ v = wlv 6 from c6), if_neg (show ¬ v = wlv 7 from c7), if_neg (show ¬ v = wlv 8 from c8), if_neg (show ¬ v = wlv 9 from c9), if_neg (show ¬ v = wlv 10 from c10), if_neg (show ¬ v = wlv 11 from c11), if_neg (show ¬ v = wlv 12 from c12)]
  rw [w, if_pos rfl]
/-- signs -/
def sg (j : Nat) : Nat := ([59, 61, 43, 45, 42, 47, 60, 40, 41, 91, 93] : List Nat).getD j 0
abbrev isS (b : Nat) : Prop := b = 59 ∨ b = 61 ∨ b = 43 ∨ b = 45 ∨ b = 42 ∨ b = 47 ∨ b = 60 ∨ b = 40 ∨ b = 41 ∨ b = 91 ∨ b = 93
theorem sg_ex : ∀ b, b < 256 → (isS b ↔ ∃ j, j < 11 ∧ sg j = b) := by decide +kernel
theorem sg_b : ∀ j, j < 11 → ∀ b, b < 256 → ((ai_sbyt.getD 1 []).getD j 0 = (nI b).toInt8.toInt32 ↔ sg j = b) := by decide +kernel
theorem char_b : ∀ b, b < 256 → ((nI b).toUInt32 % 65536).toInt32 = nI b := by decide +kernel
theorem C_sign {b : Nat} (hb : b < 256) {h : sh_H} (hs : rStr h) : f_Tokens_next_b87 NF (nI b) h = some (nI (if isS b then b else 24), h) := by
  have lp : ∀ (q j u : Nat), j + q = 11 → q < u → (∀ x, x < j → ¬ sg x = b) → ∃ r, f_Lat_indexOfChar_l7 NF u 1 (nI 11) (nI b).toInt8.toInt32 (nI j) h = some r ∧ (isS b → ¬ r < 0) ∧ (¬ isS b → r < 0) := by
    intro q
    induction q with
    | zero =>
      intro j u e1 e2 hx
      obtain ⟨u, rfl⟩ : ∃ m, u = m + 1 := ⟨u - 1, by omega⟩
      refine ⟨-1, ?_, fun z => ?_, fun _ => q_n1⟩
      · show f_Lat_indexOfChar_c7 NF (f_Lat_indexOfChar_l7 NF u) 1 (nI 11) (nI b).toInt8.toInt32 (nI j) h = _
        unfold f_Lat_indexOfChar_c7
        rw [if_neg (nI_nlt (by omega) (by omega))]
      · obtain ⟨x, x1, x2⟩ := (sg_ex b hb).mp z
        exact absurd x2 (hx x (by omega))
    | succ q ih =>
      intro j u e1 e2 hx
      obtain ⟨u, rfl⟩ : ∃ m, u = m + 1 := ⟨u - 1, by omega⟩
      have cut : ∀ R, R = f_Lat_indexOfChar_c7 NF (f_Lat_indexOfChar_l7 NF u) 1 (nI 11) (nI b).toInt8.toInt32 (nI j) h → f_Lat_indexOfChar_l7 NF (u + 1) 1 (nI 11) (nI b).toInt8.toInt32 (nI j) h = R := fun R e => e.symm
      rw [cut _ rfl]
      unfold f_Lat_indexOfChar_c7
      rw [if_pos (nI_lt (by omega) (by omega)), show ai_slen.getD 1 0 = 11 from rfl, if_pos (q_in (by omega) (by omega)), q_cl (by omega), hs 1 j, nI_1]
      by_cases c : sg j = b
      · rw [if_pos ((sg_b j (by omega) b hb).mpr c)]
        exact ⟨nI j, rfl, fun _ => nI_pos (by omega), fun z => absurd ((sg_ex b hb).mpr ⟨j, by omega, c⟩) z⟩
      · rw [if_neg (fun z => c ((sg_b j (by omega) b hb).mp z))]
        exact ih (j + 1) u (by omega) (by omega) (fun x hx1 => by
          by_cases z : x < j
          · exact hx x z
          · rw [show x = j by omega]; exact c)
  obtain ⟨r, r1, r2, r3⟩ := lp 11 0 NF rfl (NF_gt (by omega)) (fun x hx => absurd hx (by omega))
  have ix : f_Str_indexOf NF 1 (nI b) h = some r := by
    unfold f_Str_indexOf f_Str_indexOf2 f_Str_isLatin1
    rw [if_neg q_10, if_pos rfl, q_nar1, Option.bind_some, if_neg q_10, show f_Str_length 1 h = some (nI 11) from rfl, Option.bind_some]
    unfold f_Lat_indexOf f_Lat_canEncode
    rw [if_neg (nI_pos (by omega)), if_neg (show ¬ (255 : Int32) < nI b from nI_nlt (a := 255) (by omega) (by omega)), q_nar1, Option.bind_some, if_neg q_10, show f_Math_max 0 0 h = some 0 from rfl, Option.bind_some, show Int32.ofNat (ai_slen.getD 1 0) = nI 11 from rfl, Math_min (by omega) (by omega), Option.bind_some, show min 11 11 = 11 from rfl, if_pos (show (0 : Int32) < nI 11 by decide)]
    unfold f_Lat_indexOfChar
    rw [show f_Lat_indexOfChar_l7 NF NF 1 (nI 11) (nI b).toInt8.toInt32 0 h = some r from r1]
    rfl
  unfold f_Tokens_next_b87
  rw [char_b b hb, ix, Option.bind_some]
  by_cases c : isS b
  · rw [if_neg (r2 c), if_pos c]
  · rw [if_pos (r3 c), if_neg c]
    rfl
theorem M_signAt {B : Nat → Nat} {n k : Nat} {G : sh_H} (t : TPm B n G) (h2 : k < n) : f_M_signAt (nI k) G = some (nI (if B k = 61 then (if bA B n (k + 1) = 61 then 300 else 61) else if isS (B k) then B k else 0)) := by
  have n2 := t.1
  have hb := t.2.1 k h2
  have hb2 := bA_lt (k := k + 1) t
  have e : ∀ c : Nat, c < 256 → (nI (B k) = nI c) = (B k = c) := fun c hc => propext (nI_eq (by omega) (by omega))
  unfold f_M_signAt f_M_signAt_b92 f_M_signAt_b97
  rw [M_byteAt t (by omega), Option.bind_some, bA_in h2, nI_1, M_byteAt t (by omega), Option.bind_some, show (61 : Int32) = nI 61 from rfl, show (59 : Int32) = nI 59 from rfl, show (43 : Int32) = nI 43 from rfl, show (45 : Int32) = nI 45 from rfl, show (42 : Int32) = nI 42 from rfl, show (47 : Int32) = nI 47 from rfl, show (60 : Int32) = nI 60 from rfl, show (40 : Int32) = nI 40 from rfl, show (41 : Int32) = nI 41 from rfl, show (91 : Int32) = nI 91 from rfl, show (93 : Int32) = nI 93 from rfl]
  simp only [e 61 (by omega), e 59 (by omega), e 43 (by omega), e 45 (by omega), e 42 (by omega), e 47 (by omega), e 60 (by omega), e 40 (by omega), e 41 (by omega), e 91 (by omega), e 93 (by omega)]
  by_cases c : B k = 61
  · rw [if_pos c, if_pos c, c]
    by_cases d : bA B n (k + 1) = 61
    · rw [if_pos (by rw [d]), if_pos d]; rfl
    · rw [if_neg (fun z => d ((nI_eq (by omega) (by omega)).mp z)), if_neg d]
  · rw [if_neg c, if_neg c]
    by_cases s : isS (B k)
    · rw [if_pos s]
      rcases s with s | s | s | s | s | s | s | s | s | s | s
      · rw [s]; rfl
      · exact absurd s c
      · rw [s]; rfl
      · rw [s]; rfl
      · rw [s]; rfl
      · rw [s]; rfl
      · rw [s]; rfl
      · rw [s]; rfl
      · rw [s]; rfl
      · rw [s]; rfl
      · rw [s]; rfl
    · rw [if_neg s, if_neg (fun z => s (Or.inl z)), if_neg (fun z => s (by omega)), if_neg (fun z => s (by omega)), if_neg (fun z => s (by omega)), if_neg (fun z => s (by omega)), if_neg (fun z => s (by omega)), if_neg (fun z => s (by omega)), if_neg (fun z => s (by omega)), if_neg (fun z => s (by omega)), if_neg (fun z => s (by omega)), if_pos trivial]
      rfl
