/-! THE RELATION: an abstract heap and a machine's heap -/
def ai_cv (vz : Value) (ad : Nat → Nat → Nat) (v : ai_V) : Value := match v with | .inl x => .int x | .inr (.inl x) => .long x | .inr (.inr (k, a)) => cond (Nat.beq k 20) vz (.ref (ad k a))
def ai_kn (n : String) : Nat := if n = RX0 then 0 else if n = RX1 then 1 else if n = RX2 then 2 else if n = RX3 then 3 else if n = RX4 then 4 else if n = RX5 then 5 else if n = RX6 then 6 else if n = RX7 then 7 else if n = RX8 then 8 else if n = RX9 then 9 else if n = RX10 then 10 else if n = RX11 then 11 else if n = RX12 then 12 else 99
def ai_kd (t : FieldType) : Nat := match t with | .array .int => 13 | .array .long => 14 | .array .byte => 15 | .array .boolean => 16 | .object n => ai_kn n | _ => 99
def ai_ty (c : Nat) : Nat → FieldType := match c with | 0 => tyX0 | 1 => tyX1 | 2 => tyX2 | 3 => tyX3 | 4 => tyX4 | 5 => tyX5 | 6 => tyX6 | 7 => tyX7 | 8 => tyX8 | 9 => tyX9 | 10 => tyX10 | 11 => tyX11 | _ => tyX12
def ai_rv (ad : Nat → Nat → Nat) (k : Nat) (r : Nat) : Value := match r with | 0 => .null | b + 1 => .ref (ad k b)
def ai_fv (ad : Nat → Nat → Nat) (h : ai_H) (c i j : Nat) : Value := match ai_ty c j with | .long => .long (h.2.1 c i j) | .object n => ai_rv ad (ai_kd (.object n)) (h.2.2.1 c i j) | .array t => ai_rv ad (ai_kd (.array t)) (h.2.2.1 c i j) | _ => .int (h.1 c i j)
def ai_tx0 : String := "kind   island want   lost   flow   house  wear   boat   fails  month  has    worn   noise  "
def ai_tx1 : String := ";=+-*/<()[]"
def ai_slen : List Nat := [91, 11]
def ai_sbyt : List (List Int32) := [[107, 105, 110, 100, 32, 32, 32, 105, 115, 108, 97, 110, 100, 32, 119, 97, 110, 116, 32, 32, 32, 108, 111, 115, 116, 32, 32, 32, 102, 108, 111, 119, 32, 32, 32, 104, 111, 117, 115, 101, 32, 32, 119, 101, 97, 114, 32, 32, 32, 98, 111, 97, 116, 32, 32, 32, 102, 97, 105, 108, 115, 32, 32, 109, 111, 110, 116, 104, 32, 32, 104, 97, 115, 32, 32, 32, 32, 119, 111, 114, 110, 32, 32, 32, 110, 111, 105, 115, 101, 32, 32], [59, 61, 43, 45, 42, 47, 60, 40, 41, 91, 93]]
/-- what a kind's instance is in the machine's heap -/
def ai_cell (D : va_G) (cA : Nat → ClassId) (ad : Nat → Nat → Nat) (h : ai_H) (c i : Nat) (H : Heap) : Prop :=
  (∀ r : vw_C, vwCl[c]? = some r → t_OB (ad c i) (D.1 c) r.2.2 (D.2 c) H (ai_fv ad h c i)) ∧
  (c = 14 → H[ad c i]? = some (arrV (cA c) (h.2.2.2.2 c i) (fun j => .long (h.2.1 c i j)))) ∧
  (c = 13 ∨ c = 15 ∨ c = 16 → H[ad c i]? = some (arrV (cA c) (h.2.2.2.2 c i) (fun j => .int (h.1 c i j))))
/-- what is never written: the script, the texts, what their kinds hold -/
def ai_hc (L : Nat) (xs : Nat → Int32) (h : ai_H) : Prop := (∀ j, h.1 17 0 j = xs j) ∧ h.2.2.2.2 17 0 = L ∧ (∀ i, i < 2 → h.2.2.2.2 19 i = ai_slen.getD i 0 ∧ ∀ j, h.1 19 i j = (ai_sbyt.getD i []).getD j 0) ∧ h.2.2.2.1 17 = 1 ∧ h.2.2.2.1 18 = 2 ∧ h.2.2.2.1 19 = 2 ∧ h.2.2.2.1 20 = 1
def ai_cl (h : ai_H) : Prop := ∀ c i j b, c < 13 → i < h.2.2.2.1 c → h.2.2.1 c i j = b + 1 → (∃ n, ai_ty c j = .object n) ∨ (∃ t, ai_ty c j = .array t) → b < h.2.2.2.1 (ai_kd (ai_ty c j))
/-- the heap's part -/
def ai_HP (D : va_G) (cA : Nat → ClassId) (n0 L : Nat) (xs : Nat → Int32) (ad : Nat → Nat → Nat) (h : ai_H) (H : Heap) : Prop :=
  (∀ c i, c < 17 → i < h.2.2.2.1 c → ai_cell D cA ad h c i H ∧ n0 ≤ ad c i ∧ ad c i < H.size) ∧
  (∀ c i c' i', c < 17 → i < h.2.2.2.1 c → c' < 17 → i' < h.2.2.2.1 c' → ad c i = ad c' i' → c = c' ∧ i = i') ∧
  ai_cl h ∧ ai_hc L xs h ∧ n0 ≤ H.size
abbrev ai_tys (cA : Nat → ClassId) : List (ClassId × FieldType) := [(cA 13, .int), (cA 14, .long), (cA 15, .byte), (cA 16, .boolean)]
/-- links of nest mates -/
def ai_nfl : List (String × Nat × String × String × String × String) := [("CoinBoats$Calendar", 45, "CoinBoats$State", "time", "I", "CoinBoats"), ("CoinBoats", 153, "CoinBoats$State", "time", "I", "CoinBoats"), ("CoinBoats$Calendar", 158, "CoinBoats$State", "spentHarm", "J", "CoinBoats"), ("CoinBoats", 186, "CoinBoats$State", "spentHarm", "J", "CoinBoats"), ("CoinBoats$Calendar", 85, "CoinBoats$State", "spentBoats", "J", "CoinBoats"), ("CoinBoats", 189, "CoinBoats$State", "spentBoats", "J", "CoinBoats"), ("CoinBoats", 143, "CoinBoats$State", "spentNew", "J", "CoinBoats"), ("CoinBoats", 324, "CoinBoats$State", "isHeld", "Z", "CoinBoats")]
def ai_nml : List (String × Nat × MethodName × String) := [("CoinBoats$Tokens", 29, ⟨"CoinBoats", "limit", "(II)I"⟩, "CoinBoats"), ("CoinBoats$Text", 65, ⟨"CoinBoats", "limit", "(II)I"⟩, "CoinBoats"), ("CoinBoats$Pieces", 37, ⟨"CoinBoats", "limit", "(II)I"⟩, "CoinBoats"), ("CoinBoats$Calendar", 121, ⟨"CoinBoats", "limit", "(II)I"⟩, "CoinBoats")]
def ai_nw (U : State) : Prop := (∀ q ∈ ai_nfl, va_Nw (.fieldLinkNest q.1 q.2.1 q.2.2.1 q.2.2.2.1 q.2.2.2.2.1 q.2.2.2.2.2) U) ∧ ∀ q ∈ ai_nml, va_Nw (.methodLinkNest q.1 q.2.1 q.2.2.1 q.2.2.2) U
/-- the part that nobody writes, at a state of the machine -/
def ai_KC (D : va_G) (cA : Nat → ClassId) (n0 L : Nat) (xs : Nat → Int32) (vz : Value) (ad : Nat → Nat → Nat) (U : State) (H : Heap) : Prop :=
  va_K D vwCl (ai_tys cA) U ∧ (va_X (ad 17 0) L xs U H ∧ ad 17 0 < n0) ∧ (vk_S 2 ai_slen ai_sbyt (ad 18) (ad 19) (fun q => n0 ≤ q) U H) ∧
  va_Z "java/lang/String" "COMPACT_STRINGS" "Z" (.int 1) (fun q => n0 ≤ q) U H ∧ va_Z "jdk/internal/util/Preconditions" "SIOOBE_FORMATTER" "Ljava/util/function/BiFunction;" vz (fun q => n0 ≤ q) U H ∧
  vk_R "CoinBoats$Tokens" 80 ai_tx0 (ad 18 0) U ∧ (vk_R "CoinBoats$Tokens" 68 ai_tx1 (ad 18 1) U ∧ ai_nw U) ∧ n0 ≤ H.size ∧ (vz = .null ∨ ∃ t, vz = .ref t)

/-! valid values, places -/
def ai_ok (cnt : Nat → Nat) (v : ai_V) : Prop := match v with | .inr (.inr (k, a)) => a < cnt k | _ => True
def ai_oks (cnt : Nat → Nat) (st : List ai_V) : Prop := ∀ v ∈ st, ai_ok cnt v
def ai_okl (cnt : Nat → Nat) (lo : ai_L) : Prop := ∀ i v, ai_lg lo i = some v → ai_ok cnt v
def ai_lv (vz : Value) (ad : Nat → Nat → Nat) (nL : Nat) (lo : ai_L) : List (Nat × Value) := (List.range nL).filterMap (fun j => match ai_lg lo j with | some v => some (j, ai_cv vz ad v) | none => none)
theorem ai_lv_mem {vz : Value} {ad : Nat → Nat → Nat} {nL : Nat} {lo : ai_L} {q : Nat × Value} : q ∈ ai_lv vz ad nL lo ↔ q.1 < nL ∧ ∃ v, ai_lg lo q.1 = some v ∧ q.2 = ai_cv vz ad v := by
  unfold ai_lv
  rw [List.mem_filterMap]
  constructor
  · rintro ⟨j, hj, e⟩
    cases hv : ai_lg lo j with
    | none => rw [hv] at e; cases e
    | some v => rw [hv] at e; cases e; exact ⟨List.mem_range.mp hj, v, hv, rfl⟩
  · rintro ⟨h1, v, hv, e⟩
    refine ⟨q.1, List.mem_range.mpr h1, ?_⟩
    rw [hv]
    show some (q.1, ai_cv vz ad v) = some q
    rw [← e]
theorem ai_lv_get {vz : Value} {ad : Nat → Nat → Nat} {nL : Nat} {lo : ai_L} {ls : Array Slot} (h : lv_has ls nL (ai_lv vz ad nL lo)) {i : Nat} {v : ai_V} (hv : ai_lg lo i = some v) (hi : i < nL) : ls[i]? = some (.val (ai_cv vz ad v)) :=
  h.2.2 (i, ai_cv vz ad v) (ai_lv_mem.mpr ⟨hi, v, hv, rfl⟩)
theorem ai_lv_sub {ls : Array Slot} {nL : Nat} {l l' : List (Nat × Value)} (h : lv_has ls nL l) (hs : ∀ q ∈ l', q ∈ l) : lv_has ls nL l' := ⟨h.1, h.2.1, fun q hq => h.2.2 q (hs q hq)⟩
theorem ai_cat_cv (vz : Value) (ad : Nat → Nat → Nat) (hz : vz = .null ∨ ∃ t, vz = .ref t) (v : ai_V) : (ai_cv vz ad v).category = ai_cat v := by
  rcases v with x | x | ⟨k, a⟩
  · rfl
  · rfl
  · show (cond (Nat.beq k 20) vz (.ref (ad k a))).category = 1
    cases Nat.beq k 20
    · rfl
    · rcases hz with rfl | ⟨t, rfl⟩ <;> rfl
theorem ai_cats_cv (vz : Value) (ad : Nat → Nat → Nat) (hz : vz = .null ∨ ∃ t, vz = .ref t) (st : ai_S) : ((st.map (ai_cv vz ad)).map fun v => v.category).sum = ai_cats st := by
  induction st with
  | nil => rfl
  | cons v r ih =>
    show (ai_cv vz ad v).category + ((r.map (ai_cv vz ad)).map fun v => v.category).sum = ai_cat v + ai_cats r
    rw [ih, ai_cat_cv vz ad hz]
theorem ai_st1_clr {lo : ai_L} {i : Nat} {v w : ai_V} {j : Nat} (h : ai_lg (ai_ls (ai_ls lo i none) (i + 1) (some v)) j = some w) : (j = i + 1 ∧ w = v) ∨ (j ≠ i + 1 ∧ ai_lg lo j = some w ∧ ¬ (j + 1 = i + 1 ∧ ai_cat w = 2)) := by
  simp only [ai_lg_ls] at h
  by_cases hj : j = i + 1
  · rw [if_pos hj] at h; cases h; exact Or.inl ⟨hj, rfl⟩
  · rw [if_neg hj] at h
    by_cases hi : j = i
    · rw [if_pos hi] at h; cases h
    · rw [if_neg hi] at h
      exact Or.inr ⟨hj, h, fun q => by omega⟩
theorem ai_st1_kp {lo : ai_L} {i : Nat} {v w x : ai_V} {j : Nat} (hx : ai_lg lo i = some x) (hc : ai_cat x = 1) (h : ai_lg (ai_ls lo (i + 1) (some v)) j = some w) : (j = i + 1 ∧ w = v) ∨ (j ≠ i + 1 ∧ ai_lg lo j = some w ∧ ¬ (j + 1 = i + 1 ∧ ai_cat w = 2)) := by
  simp only [ai_lg_ls] at h
  by_cases hj : j = i + 1
  · rw [if_pos hj] at h; cases h; exact Or.inl ⟨hj, rfl⟩
  · rw [if_neg hj] at h
    refine Or.inr ⟨hj, h, fun q => ?_⟩
    have e : j = i := by omega
    subst e
    rw [hx] at h
    cases h
    omega
theorem ai_st1_lg {c : Bool} {lo : ai_L} {i : Nat} {v w : ai_V} {j : Nat} (h : ai_lg (ai_st1 c lo i v) j = some w) : (j = i ∧ w = v) ∨ (j ≠ i ∧ ai_lg lo j = some w ∧ ¬ (j + 1 = i ∧ ai_cat w = 2)) := by
  cases i with
  | zero =>
    replace h : ai_lg (ai_ls lo 0 (some v)) j = some w := h
    simp only [ai_lg_ls] at h
    by_cases hj : j = 0
    · rw [if_pos hj] at h; cases h; exact Or.inl ⟨hj, rfl⟩
    · rw [if_neg hj] at h; exact Or.inr ⟨hj, h, fun q => by omega⟩
  | succ i =>
    cases c with
    | true => exact ai_st1_clr h
    | false =>
      replace h : ai_lg (match ai_lg lo i with | some (.inl x) => ai_ls lo (i + 1) (some v) | some (.inr (.inr y)) => ai_ls lo (i + 1) (some v) | _ => ai_ls (ai_ls lo i none) (i + 1) (some v)) j = some w := h
      split at h
      · rename_i x hx; exact ai_st1_kp hx rfl h
      · rename_i x hx; exact ai_st1_kp hx rfl h
      · exact ai_st1_clr h
theorem ai_okl_st1 {c : Bool} {cnt : Nat → Nat} {lo : ai_L} {i : Nat} {v : ai_V} (h : ai_okl cnt lo) (hv : ai_ok cnt v) : ai_okl cnt (ai_st1 c lo i v) := by
  intro j w hw
  rcases ai_st1_lg hw with ⟨-, rfl⟩ | ⟨-, h2, -⟩
  · exact hv
  · exact h j w h2
/-- behind a store of one word -/
theorem ai_lv_st1 {c : Bool} {vz : Value} {ad : Nat → Nat → Nat} (hz : vz = .null ∨ ∃ t, vz = .ref t) {nL : Nat} {lo : ai_L} {ls : Array Slot} {i : Nat} {v : ai_V} (h : lv_has ls nL ((i, ai_cv vz ad v) :: (ai_lv vz ad nL lo).filter (fun q => !(q.1 == i) && !(q.1 + 1 == i && q.2.category == 2)))) : lv_has ls nL (ai_lv vz ad nL (ai_st1 c lo i v)) := by
  refine ai_lv_sub h fun q hq => ?_
  obtain ⟨hq1, w, hw, e⟩ := ai_lv_mem.mp hq
  rcases ai_st1_lg hw with ⟨h1, rfl⟩ | ⟨h1, h2, h3⟩
  · have : q = (i, ai_cv vz ad w) := Prod.ext h1 e
    rw [this]; exact List.mem_cons_self
  · refine List.mem_cons_of_mem _ (List.mem_filter.mpr ⟨ai_lv_mem.mpr ⟨hq1, w, h2, e⟩, ?_⟩)
    rw [e, ai_cat_cv vz ad hz]
    simp only [Bool.and_eq_true, Bool.not_eq_true', beq_eq_false_iff_ne, Bool.and_eq_false_iff, ne_eq]
    refine ⟨h1, ?_⟩
    by_cases hj : q.1 + 1 = i
    · exact Or.inr fun c2 => h3 ⟨hj, c2⟩
    · exact Or.inl hj
theorem ai_lv_st2 {c : Bool} {vz : Value} {ad : Nat → Nat → Nat} (hz : vz = .null ∨ ∃ t, vz = .ref t) {nL : Nat} {lo : ai_L} {ls : Array Slot} {i : Nat} {v : ai_V} (h : lv_has ls nL ((i, ai_cv vz ad v) :: (ai_lv vz ad nL lo).filter (fun q => !(q.1 == i) && (!(q.1 == i + 1) && !(q.1 + 1 == i && q.2.category == 2))))) : lv_has ls nL (ai_lv vz ad nL (ai_ls (ai_st1 c lo i v) (i + 1) none)) := by
  refine ai_lv_sub h fun q hq => ?_
  obtain ⟨hq1, w, hw, e⟩ := ai_lv_mem.mp hq
  rw [ai_lg_ls] at hw
  by_cases hi : q.1 = i + 1
  · rw [if_pos hi] at hw; cases hw
  rw [if_neg hi] at hw
  rcases ai_st1_lg hw with ⟨h1, rfl⟩ | ⟨h1, h2, h3⟩
  · have : q = (i, ai_cv vz ad w) := Prod.ext h1 e
    rw [this]; exact List.mem_cons_self
  · refine List.mem_cons_of_mem _ (List.mem_filter.mpr ⟨ai_lv_mem.mpr ⟨hq1, w, h2, e⟩, ?_⟩)
    rw [e, ai_cat_cv vz ad hz]
    simp only [Bool.and_eq_true, Bool.not_eq_true', beq_eq_false_iff_ne, Bool.and_eq_false_iff, ne_eq]
    refine ⟨h1, hi, ?_⟩
    by_cases hj : q.1 + 1 = i
    · exact Or.inr fun c2 => h3 ⟨hj, c2⟩
    · exact Or.inl hj
theorem ai_okl_st2 {c : Bool} {cnt : Nat → Nat} {lo : ai_L} {i : Nat} {v : ai_V} (h : ai_okl cnt lo) (hv : ai_ok cnt v) : ai_okl cnt (ai_ls (ai_st1 c lo i v) (i + 1) none) := by
  intro j w hw
  rw [ai_lg_ls] at hw
  by_cases hi : j = i + 1
  · rw [if_pos hi] at hw; cases hw
  · rw [if_neg hi] at hw; exact ai_okl_st1 h hv j w hw
