/-! PURE VALUES OF A TEXT: boats, formulas, wants -/
def nv (f : Nat → Int32) (k : Nat) : Nat := (f k).toNatClampNeg
theorem nv_of {f : Nat → Int32} {k n : Nat} (h : f k = nI n) (hn : n < 2 ^ 31) : nv f k = n := by unfold nv; rw [h, q_cl hn]
/-- the first boat from i on, of n -/
def bof (f : Nat → Int32) (p m : Int32) : Nat → Nat → Option Nat
  | 0, _ => none
  | n + 1, i => if f (250 + 5 * i) = p ∧ f (251 + 5 * i) = m then some i else bof f p m n (i + 1)
def oI2 (o : Option Nat) (d : Int32) : Int32 := match o with | some i => nI i | none => d
theorem bof_some {f : Nat → Int32} {p m : Int32} : ∀ {n i r : Nat}, bof f p m n i = some r → i ≤ r ∧ r < i + n ∧ f (250 + 5 * r) = p ∧ f (251 + 5 * r) = m := by
  intro n
  induction n with
  | zero => intro i r h; cases h
  | succ n ih =>
    intro i r h
    unfold bof at h
    by_cases c : f (250 + 5 * i) = p ∧ f (251 + 5 * i) = m
    · rw [if_pos c] at h
      cases h
      exact ⟨Nat.le_refl _, by omega, c.1, c.2⟩
    · rw [if_neg c] at h
      obtain ⟨h1, h2, h3⟩ := ih h
      exact ⟨by omega, by omega, h3⟩
/-- the boat of an island in a month -/
def bt (f : Nat → Int32) (p m : Int32) : Option Nat := bof f p m (nv f 6) 0
theorem C_boatOf_loop {c : Nat} {hc hm : sh_H} (h : St c hc hm) {nb : Nat} (hb : mS hm 6 = nI nb) (hb2 : nb ≤ 12) (p m : Int32) : ∀ (k i n : Nat), i + k = nb → k < n → f_Text_boatOf_l2 NF n hc.2.2.1 p m (nI i) hc = some (oI2 (bof (mS hm) p m k i) (-1)) := by
  have z : hc.1 6 (7 * hc.2.2.1 + 6) 3 = nI nb := (St_z h 6 (by omega)).trans hb
  intro k
  induction k with
  | zero =>
    intro i n e1 e2
    obtain ⟨n, rfl⟩ : ∃ m, n = m + 1 := ⟨n - 1, by omega⟩
    show f_Text_boatOf_c2 NF (f_Text_boatOf_l2 NF n) hc.2.2.1 p m (nI i) hc = _
    unfold f_Text_boatOf_c2 f_Rows_size
    rw [z, Option.bind_some, if_neg (nI_nlt (by omega) (by omega))]
    rfl
  | succ k ih =>
    intro i n e1 e2
    obtain ⟨n, rfl⟩ : ∃ m, n = m + 1 := ⟨n - 1, by omega⟩
    have g0 : f_Rows_get (7 * hc.2.2.1 + 6) (nI i) 0 hc = some (mS hm (250 + 5 * i)) := tx_get h (j := 6) (r := i) (q := 0) (by omega) hb (by omega) (by omega) (by omega) (by decide) (by decide)
    have g1 : f_Rows_get (7 * hc.2.2.1 + 6) (nI i) 1 hc = some (mS hm (251 + 5 * i)) := (tx_get h (j := 6) (r := i) (q := 1) (by omega) hb (by omega) (by omega) (by omega) (by decide) (by decide)).trans (by show some (mS hm (250 + 5 * i + 1)) = _; rw [show 250 + 5 * i + 1 = 251 + 5 * i by omega])
    show f_Text_boatOf_c2 NF (f_Text_boatOf_l2 NF n) hc.2.2.1 p m (nI i) hc = _
    unfold f_Text_boatOf_c2 f_Rows_size f_Text_boatOf_b41 bof
    rw [z, Option.bind_some, if_pos (nI_lt (by omega) (by omega)), g0, Option.bind_some, g1, Option.bind_some, nI_1, ih (i + 1) n (by omega) (by omega)]
    by_cases c1 : mS hm (250 + 5 * i) = p
    · rw [if_pos c1]
      by_cases c2 : mS hm (251 + 5 * i) = m
      · rw [if_pos c2, if_pos ⟨c1, c2⟩]
        rfl
      · rw [if_neg c2, if_neg (fun q => c2 q.2)]
    · rw [if_neg c1, if_neg (fun q => c1 q.1)]
theorem M_boatOf_loop {hm : sh_H} {nb : Nat} (hb : mS hm 6 = nI nb) (hb2 : nb ≤ 12) (p m : Int32) : ∀ (k i n : Nat), i + k = nb → k < n → f_M_boatOf_l2 NF n p m (nI i) hm = some (oI2 (bof (mS hm) p m k i) (-2)) := by
  have i6 : ai_in (6 : Int32) 8000 := q_in (k := 6) (n := 8000) (by omega) (by omega)
  have z : hm.1 13 46 (6 : Int32).toNatClampNeg = nI nb := hb
  intro k
  induction k with
  | zero =>
    intro i n e1 e2
    obtain ⟨n, rfl⟩ : ∃ m, n = m + 1 := ⟨n - 1, by omega⟩
    show f_M_boatOf_c2 NF (f_M_boatOf_l2 NF n) p m (nI i) hm = _
    unfold f_M_boatOf_c2
    rw [if_pos i6, z, if_neg (nI_nlt (by omega) (by omega))]
    rfl
  | succ k ih =>
    intro i n e1 e2
    obtain ⟨n, rfl⟩ : ∃ m, n = m + 1 := ⟨n - 1, by omega⟩
    show f_M_boatOf_c2 NF (f_M_boatOf_l2 NF n) p m (nI i) hm = _
    unfold f_M_boatOf_c2 f_M_boatOf_b49 bof
    rw [if_pos i6, z, if_pos (nI_lt (by omega) (by omega)), nI_1, ih (i + 1) n (by omega) (by omega), show (250 : Int32) + 5 * nI i = nI (250 + 5 * i) by rw [show (250 : Int32) = nI 250 from rfl, show (5 : Int32) = nI 5 from rfl, q_mul, nI_add], nI_1, if_pos (q_in (by omega) (by omega)), if_pos (q_in (by omega) (by omega)), q_cl (by omega), q_cl (by omega), show 250 + 5 * i + 1 = 251 + 5 * i by omega]
    by_cases c1 : mS hm (250 + 5 * i) = p
    · rw [if_pos c1]
      by_cases c2 : mS hm (251 + 5 * i) = m
      · rw [if_pos c2, if_pos ⟨c1, c2⟩]
        rfl
      · rw [if_neg c2, if_neg (fun q => c2 q.2)]
    · rw [if_neg c1, if_neg (fun q => c1 q.1)]
theorem C_boatOf {c : Nat} {hc hm : sh_H} (h : St c hc hm) (p m : Int32) : f_Text_boatOf NF hc.2.2.1 p m hc = some (oI2 (bt (mS hm) p m) (-1)) := by
  obtain ⟨nb, n1, n2, -⟩ := (St_T h).2.2.2.2.2.2
  unfold f_Text_boatOf bt
  rw [nv_of n2 (by omega)]
  exact C_boatOf_loop h n2 n1 p m nb 0 NF (by omega) (NF_gt (by omega))
theorem M_boatOf {hm : sh_H} (h : IT (mS hm)) (p m : Int32) : f_M_boatOf NF p m hm = some (oI2 (bt (mS hm) p m) (-2)) := by
  obtain ⟨nb, n1, n2, -⟩ := h.2.2.2.2.2.2
  unfold f_M_boatOf bt
  rw [nv_of n2 (by omega)]
  exact M_boatOf_loop n2 n1 p m nb 0 NF (by omega) (NF_gt (by omega))
/-! formulas -/
def fop (o : Nat) (x y : Int32) : Int32 := match o with | 2 => x + y | 3 => x - y | 4 => x * y | 5 => x / y | 6 => if x < y then 1 else 0 | _ => if x = y then 1 else 0
def up1 (s : Nat → Int32) (d : Nat) (v : Int32) : Nat → Int32 := fun j => if j = d then v else s j
/-- n steps from step k on, on a stack s of depth d -/
def fgo (f : Nat → Int32) (q : Nat → Int32) : Nat → Nat → (Nat → Int32) → Nat → Int32
  | 0, _, s, _ => s 0
  | n + 1, k, s, d => if nv f (1000 + k) = 0 then fgo f q n (k + 1) (up1 s d (f (1500 + k))) (d + 1) else if nv f (1000 + k) = 1 then fgo f q n (k + 1) (up1 s d (q (nv f (1500 + k)))) (d + 1) else if nv f (1000 + k) = 5 ∧ s (d - 1) = 0 then 0 else fgo f q n (k + 1) (up1 s (d - 2) (fop (nv f (1000 + k)) (s (d - 2)) (s (d - 1)))) (d - 1)
def fq (m a w z : Int32) : Nat → Int32 := fun i => match i with | 0 => m | 1 => a | 2 => w | _ => z
/-- the formula whose ends are told in cells c and c + 1 -/
def fval (f : Nat → Int32) (q : Nat → Int32) (c : Nat) : Int32 := fgo f q (nv f (c + 1) - nv f c) (nv f c) (fun _ => 0) 0
theorem l13_s : ∀ t, t < 2 → sh_l13 (9 * t + 8) = 32 ∧ sh_l13 (9 * t + 7) = 400 := by decide +kernel
theorem C_push {h : sh_H} {t e : Nat} (ht : t < 2) (v : Int32) (he : h.1 2 t 3 = nI e) (h32 : e < 32) : f_Formulas_push t v h = some (sh_pI (sh_pI h 13 (9 * t + 8) e v) 2 t 3 (nI (e + 1))) := by
  unfold f_Formulas_push
  simp only [sh_let, pI_1, he, (l13_s t ht).1, q_len, nI_1, if_neg (nI_pos (n := e) (by omega)), if_pos (nI_lt (a := e) (b := 32) (by omega) (by omega)), if_pos (q_in (k := e) (n := 32) (by omega) (by omega)), q_cl (n := e) (by omega)]
  rw [if_neg (by omega), nI_1]
theorem C_pop {h : sh_H} {t e : Nat} (ht : t < 2) (he : h.1 2 t 3 = nI (e + 1)) (h32 : e < 32) : f_Formulas_pop t h = some (h.1 13 (9 * t + 8) e, sh_pI h 2 t 3 (nI e)) := by
  unfold f_Formulas_pop
  rw [he, (l13_s t ht).1, q_len, if_pos (show (0 : Int32) < nI (e + 1) from nI_lt (a := 0) (by omega) (by omega)), if_neg (nI_nlt (by omega) (by omega)), nI_pred]
  simp only [sh_let]
  rw [pI_at, if_pos (q_in (by omega) (by omega)), q_cl (by omega)]
  rfl
def fsg (o : Nat) : Nat := match o with | 2 => 43 | 3 => 45 | 4 => 42 | 5 => 47 | 6 => 60 | _ => 22
theorem C_join {h : sh_H} {t o : Nat} (h2 : 2 ≤ o) (h8 : o < 8) (x y : Int32) : f_Formulas_joined t (nI (fsg o)) x y h = if o = 5 ∧ y = 0 then some (0, sh_pI h 2 t 4 1) else some (fop o x y, h) := by
  unfold f_Formulas_joined
  rcases (show o = 2 ∨ o = 3 ∨ o = 4 ∨ o = 5 ∨ o = 6 ∨ o = 7 by omega) with rfl | rfl | rfl | rfl | rfl | rfl
  · rfl
  · rfl
  · rfl
  · show (if y = 0 then some ((0 : Int32), sh_pI h 2 t 4 1) else if ¬ y = 0 then some (x / y, h) else none) = if 5 = 5 ∧ y = 0 then some (0, sh_pI h 2 t 4 1) else some (x / y, h)
    by_cases c : y = 0
    · rw [if_pos c, if_pos ⟨rfl, c⟩]
    · rw [if_neg c, if_pos c, if_neg (fun q => c q.2)]
  · show (if x < y then some ((1 : Int32), h) else some (0, h)) = if 6 = 5 ∧ y = 0 then some (0, sh_pI h 2 t 4 1) else some (if x < y then 1 else 0, h)
    rw [if_neg (c := 6 = 5 ∧ y = 0) (fun q => absurd q.1 (by omega))]
    split <;> rfl
  · show (if x = y then some ((1 : Int32), h) else some (0, h)) = if 7 = 5 ∧ y = 0 then some (0, sh_pI h 2 t 4 1) else some (if x = y then 1 else 0, h)
    rw [if_neg (c := 7 = 5 ∧ y = 0) (fun q => absurd q.1 (by omega))]
    split <;> rfl
theorem M_join {h : sh_H} {o : Nat} (h2 : 2 ≤ o) (h8 : o < 8) (x y : Int32) (c : ¬ (o = 5 ∧ y = 0)) : f_M_joined (nI o) x y h = some (fop o x y) := by
  unfold f_M_joined
  rcases (show o = 2 ∨ o = 3 ∨ o = 4 ∨ o = 5 ∨ o = 6 ∨ o = 7 by omega) with rfl | rfl | rfl | rfl | rfl | rfl
  · rfl
  · rfl
  · rfl
  · have c : ¬ y = 0 := fun q => c ⟨rfl, q⟩
    show (if ¬ y = 0 then some (x / y) else none) = _
    rw [if_pos c]
    rfl
  · show (if x < y then f_M_joined_b55 h else f_M_joined_b59 h) = some (if x < y then 1 else 0)
    split <;> rfl
  · show (if x = y then f_M_joined_b55 h else f_M_joined_b59 h) = some (if x = y then 1 else 0)
    split <;> rfl
theorem cst_lo {v : Nat} (hv : v ≤ 9999) : nI (cst 0 v) >>> ((16 : Int32) &&& 31) = 0 ∧ nI (cst 0 v) &&& 65535 = nI v := by
  show nI v >>> ((16 : Int32) &&& 31) = 0 ∧ nI v &&& 65535 = nI v
  rw [pk_shrN (by omega) _ 16 (by decide), pk_andN (by omega) 16 (by decide), Nat.div_eq_of_lt (by omega), Nat.mod_eq_of_lt (by omega)]
  exact ⟨rfl, rfl⟩
theorem cst_var : ∀ v, v < 4 → nI (cst 1 v) >>> ((16 : Int32) &&& 31) = nI (v + 1) := by decide +kernel
theorem cst_op : ∀ o, o < 8 → 2 ≤ o → nI (cst o 0) >>> ((16 : Int32) &&& 31) = nI (fsg o) := by decide +kernel
theorem cst_ov {o v : Nat} (h2 : 2 ≤ o) : cst o v = cst o 0 := by
  match o, h2 with
  | 2, _ => rfl
  | 3, _ => rfl
  | 4, _ => rfl
  | 5, _ => rfl
  | 6, _ => rfl
  | o + 7, _ => rfl
