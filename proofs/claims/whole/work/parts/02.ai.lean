/-- the tables' words that keep -/
def ai_tb : List Cond := lw_tbl.filter goodWord
/-! THE ABSTRACT MACHINE: values, heap by kinds and instances, operations as predicate transformers, least fixpoint, calls by depth -/
abbrev ai_V : Type := Int32 ⊕ (Int64 ⊕ (Nat × Nat))
abbrev aI (x : Int32) : ai_V := Sum.inl x
abbrev aL (x : Int64) : ai_V := Sum.inr (Sum.inl x)
abbrev aR (k i : Nat) : ai_V := Sum.inr (Sum.inr (k, i))
/-- ints, longs, references (0: null, r + 1: instance r), how many of a kind, lengths -/
abbrev ai_H : Type := (Nat → Nat → Nat → Int32) × (Nat → Nat → Nat → Int64) × (Nat → Nat → Nat → Nat) × (Nat → Nat) × (Nat → Nat → Nat)
abbrev ai_L : Type := List (Option ai_V)
abbrev ai_S : Type := List ai_V
abbrev ai_Q : Type := Option ai_V → ai_H → Prop
abbrev ai_C : Type := Nat → List ai_V → ai_H → ai_Q → Prop
abbrev ai_P : Type := Nat → Nat → Nat → ai_L → ai_S → ai_H → Prop
abbrev ai_Op : Type := ai_C → ai_Q → ai_P → Nat → Nat → ai_L → ai_S → ai_H → Prop
def ai_lg (l : ai_L) (n : Nat) : Option ai_V := Nat.rec (motive := fun _ => ai_L → Option ai_V) (fun l => match l with | [] => none | a :: _ => a) (fun _ ih l => match l with | [] => none | _ :: t => ih t) n l
def ai_ls (l : ai_L) (n : Nat) (v : Option ai_V) : ai_L := Nat.rec (motive := fun _ => ai_L → ai_L) (fun l => match l with | [] => [v] | _ :: t => v :: t) (fun _ ih l => match l with | [] => none :: ih [] | a :: t => a :: ih t) n l
theorem ai_lg_ls (n : Nat) : ∀ (l : ai_L) (v : Option ai_V) (j : Nat), ai_lg (ai_ls l n v) j = if j = n then v else ai_lg l j := by
  induction n with
  | zero =>
    intro l v j
    cases l with
    | nil =>
      cases j with
      | zero => rfl
      | succ j => cases j <;> rfl
    | cons a t => cases j <;> rfl
  | succ n ih =>
    intro l v j
    cases l with
    | nil =>
      cases j with
      | zero => rfl
      | succ j =>
        have h := ih [] v j
        have e : ai_lg ([] : ai_L) j = none := by cases j <;> rfl
        have e2 : ai_lg (ai_ls ([] : ai_L) (n + 1) v) (j + 1) = ai_lg (ai_ls [] n v) j := rfl
        rw [e2, h, e]
        by_cases hj : j = n
        · simp [hj]
        · have : ai_lg ([] : ai_L) (j + 1) = none := rfl
          simp [hj, this]
    | cons a t =>
      cases j with
      | zero => rfl
      | succ j =>
        have e2 : ai_lg (ai_ls (a :: t) (n + 1) v) (j + 1) = ai_lg (ai_ls t n v) j := rfl
        have e3 : ai_lg (a :: t) (j + 1) = ai_lg t j := rfl
        rw [e2, e3, ih t v j]
        by_cases hj : j = n
        · simp [hj]
        · simp [hj]
def ai_up3 {α : Type} (f : Nat → Nat → Nat → α) (c i j : Nat) (v : α) : Nat → Nat → Nat → α := fun c' i' j' => if c' = c ∧ i' = i ∧ j' = j then v else f c' i' j'
abbrev ai_in (x : Int32) (n : Nat) : Prop := ¬ (x < 0 ∨ n ≤ x.toNatClampNeg)
def ai_cat (v : ai_V) : Nat := match v with | .inr (.inl _) => 2 | _ => 1
def ai_cats (st : ai_S) : Nat := match st with | [] => 0 | v :: r => ai_cat v + ai_cats r
/-- 0: as it is, 1: boolean, 2: byte, 3: char -/
def ai_nar (t : Nat) (x : Int32) : Int32 := match t with | 1 => x &&& 1 | 2 => x.toInt8.toInt32 | 3 => x.toUInt32.toUInt16.toUInt32.toInt32 | _ => x
/-- a boolean field takes 0 and 1 alone -/
def ai_pk (t : Nat) (x : Int32) : Prop := match t with | 0 => True | _ => x = 0 ∨ x = 1
def ai_swp (P : Nat → Prop) (x : Int32) (l : List (Int32 × Nat)) (d : Nat) : Prop := match l with | [] => P d | q :: r => (x = q.1 → P q.2) ∧ (¬ x = q.1 → ai_swp P x r d)
/-! operations (nx: the pc behind) -/
def op_iload (i nx : Nat) : ai_Op := fun _ _ P u w lo st h => match ai_lg lo i with | some (.inl x) => P u w nx lo (aI x :: st) h | _ => False
def op_lload (i nx : Nat) : ai_Op := fun _ _ P u w lo st h => match ai_lg lo i with | some (.inr (.inl x)) => P u w nx lo (aL x :: st) h | _ => False
def op_aload (i nx : Nat) : ai_Op := fun _ _ P u w lo st h => match ai_lg lo i with | some (.inr (.inr (k, a))) => cond (Nat.blt k 20) (P u w nx lo (aR k a :: st) h) False | _ => False
/-- what a store leaves: the place, the one ahead if a long may stand there -/
def ai_st1 (c : Bool) (lo : ai_L) (i : Nat) (v : ai_V) : ai_L := match i with | 0 => ai_ls lo 0 (some v) | j + 1 => cond c (ai_ls (ai_ls lo j none) (j + 1) (some v)) (match ai_lg lo j with | some (.inl x) => ai_ls lo (j + 1) (some v) | some (.inr (.inr y)) => ai_ls lo (j + 1) (some v) | _ => ai_ls (ai_ls lo j none) (j + 1) (some v))
def op_istore (c : Bool) (i nx : Nat) : ai_Op := fun _ _ P u w lo st h => match st with | .inl x :: r => P u w nx (ai_st1 c lo i (aI x)) r h | _ => False
def op_lstore (c : Bool) (i nx : Nat) : ai_Op := fun _ _ P u w lo st h => match st with | .inr (.inl x) :: r => P u w nx (ai_ls (ai_st1 c lo i (aL x)) (i + 1) none) r h | _ => False
def op_astore (c : Bool) (i nx : Nat) : ai_Op := fun _ _ P u w lo st h => match st with | .inr (.inr (k, a)) :: r => cond (Nat.blt k 20) (P u w nx (ai_st1 c lo i (aR k a)) r h) False | _ => False
def op_iinc (c : Bool) (i : Nat) (v : Int32) (nx : Nat) : ai_Op := fun _ _ P u w lo st h => match ai_lg lo i with | some (.inl x) => P u w nx (ai_st1 c lo i (aI (x + v))) st h | _ => False
def op_ic (v : Int32) (nx : Nat) : ai_Op := fun _ _ P u w lo st h => P u w nx lo (aI v :: st) h
def op_lc (v : Int64) (nx : Nat) : ai_Op := fun _ _ P u w lo st h => P u w nx lo (aL v :: st) h
def op_rc (k a nx : Nat) : ai_Op := fun _ _ P u w lo st h => P u w nx lo (aR k a :: st) h
def op_i2 (f : Int32 → Int32 → Int32) (nx : Nat) : ai_Op := fun _ _ P u w lo st h => match st with | .inl y :: .inl x :: r => P u w nx lo (aI (f x y) :: r) h | _ => False
def op_i1 (f : Int32 → Int32) (nx : Nat) : ai_Op := fun _ _ P u w lo st h => match st with | .inl x :: r => P u w nx lo (aI (f x) :: r) h | _ => False
def op_idiv (nx : Nat) : ai_Op := fun _ _ P u w lo st h => match st with | .inl y :: .inl x :: r => (¬ y = 0) ∧ P u w nx lo (aI (x / y) :: r) h | _ => False
def op_irem (nx : Nat) : ai_Op := fun _ _ P u w lo st h => match st with | .inl y :: .inl x :: r => (¬ y = 0) ∧ P u w nx lo (aI (x - x / y * y) :: r) h | _ => False
def op_l2 (f : Int64 → Int64 → Int64) (nx : Nat) : ai_Op := fun _ _ P u w lo st h => match st with | .inr (.inl y) :: .inr (.inl x) :: r => P u w nx lo (aL (f x y) :: r) h | _ => False
def op_ldiv (nx : Nat) : ai_Op := fun _ _ P u w lo st h => match st with | .inr (.inl y) :: .inr (.inl x) :: r => (¬ y = 0) ∧ P u w nx lo (aL (x / y) :: r) h | _ => False
def op_lrem (nx : Nat) : ai_Op := fun _ _ P u w lo st h => match st with | .inr (.inl y) :: .inr (.inl x) :: r => (¬ y = 0) ∧ P u w nx lo (aL (x - x / y * y) :: r) h | _ => False
def op_lshl (nx : Nat) : ai_Op := fun _ _ P u w lo st h => match st with | .inl y :: .inr (.inl x) :: r => P u w nx lo (aL (x <<< (y.toInt64 &&& 63)) :: r) h | _ => False
def op_lcmp (nx : Nat) : ai_Op := fun _ _ P u w lo st h => match st with | .inr (.inl y) :: .inr (.inl x) :: r => P u w nx lo (aI (lg_cmp x y) :: r) h | _ => False
def op_i2l (nx : Nat) : ai_Op := fun _ _ P u w lo st h => match st with | .inl x :: r => P u w nx lo (aL x.toInt64 :: r) h | _ => False
def op_l2i (nx : Nat) : ai_Op := fun _ _ P u w lo st h => match st with | .inr (.inl x) :: r => P u w nx lo (aI x.toInt32 :: r) h | _ => False
def op_lt2 (a b : Nat) : ai_Op := fun _ _ P u w lo st h => match st with | .inl y :: .inl x :: r => (x < y → P u w a lo r h) ∧ (¬ x < y → P u w b lo r h) | _ => False
def op_gt2 (a b : Nat) : ai_Op := fun _ _ P u w lo st h => match st with | .inl y :: .inl x :: r => (y < x → P u w a lo r h) ∧ (¬ y < x → P u w b lo r h) | _ => False
def op_eq2 (a b : Nat) : ai_Op := fun _ _ P u w lo st h => match st with | .inl y :: .inl x :: r => (x = y → P u w a lo r h) ∧ (¬ x = y → P u w b lo r h) | _ => False
def op_lt0 (a b : Nat) : ai_Op := fun _ _ P u w lo st h => match st with | .inl x :: r => (x < 0 → P u w a lo r h) ∧ (¬ x < 0 → P u w b lo r h) | _ => False
def op_gt0 (a b : Nat) : ai_Op := fun _ _ P u w lo st h => match st with | .inl x :: r => (0 < x → P u w a lo r h) ∧ (¬ 0 < x → P u w b lo r h) | _ => False
def op_eq0 (a b : Nat) : ai_Op := fun _ _ P u w lo st h => match st with | .inl x :: r => (x = 0 → P u w a lo r h) ∧ (¬ x = 0 → P u w b lo r h) | _ => False
def op_sw (l : List (Int32 × Nat)) (d : Nat) : ai_Op := fun _ _ P u w lo st h => match st with | .inl x :: r => ai_swp (fun pc => P u w pc lo r h) x l d | _ => False
def op_goto (nx : Nat) : ai_Op := fun _ _ P u w lo st h => P u w nx lo st h
def op_dup (nx : Nat) : ai_Op := fun _ _ P u w lo st h => match st with | .inl x :: r => P u w nx lo (aI x :: aI x :: r) h | .inr (.inr (k, a)) :: r => P u w nx lo (aR k a :: aR k a :: r) h | _ => False
def op_dup2 (nx : Nat) : ai_Op := fun _ _ P u w lo st h => match st with | .inl x :: .inl y :: r => P u w nx lo (aI x :: aI y :: aI x :: aI y :: r) h | .inl x :: .inr (.inr (k, a)) :: r => P u w nx lo (aI x :: aR k a :: aI x :: aR k a :: r) h | .inr (.inl x) :: r => P u w nx lo (aL x :: aL x :: r) h | _ => False
def op_pop (nx : Nat) : ai_Op := fun _ _ P u w lo st h => match st with | .inl _ :: r => P u w nx lo r h | .inr (.inr _) :: r => P u w nx lo r h | _ => False
/-- fields: of kind c, slot j; of a reference: the kind k of what it points to -/
def op_getI (c j nx : Nat) : ai_Op := fun _ _ P u w lo st h => match st with | .inr (.inr (k, a)) :: r => cond (Nat.beq k c) (P u w nx lo (aI (h.1 k a j) :: r) h) False | _ => False
def op_getL (c j nx : Nat) : ai_Op := fun _ _ P u w lo st h => match st with | .inr (.inr (k, a)) :: r => cond (Nat.beq k c) (P u w nx lo (aL (h.2.1 k a j) :: r) h) False | _ => False
def op_getR (c j t nx : Nat) : ai_Op := fun _ _ P u w lo st h => match st with | .inr (.inr (k, a)) :: r => cond (Nat.beq k c) (match h.2.2.1 k a j with | 0 => False | b + 1 => P u w nx lo (aR t b :: r) h) False | _ => False
def op_putI (t c j nx : Nat) : ai_Op := fun _ _ P u w lo st h => match st with | .inl x :: .inr (.inr (k, a)) :: r => cond (Nat.beq k c) (ai_pk t x ∧ P u w nx lo r (ai_up3 h.1 k a j x, h.2)) False | _ => False
def op_putL (c j nx : Nat) : ai_Op := fun _ _ P u w lo st h => match st with | .inr (.inl x) :: .inr (.inr (k, a)) :: r => cond (Nat.beq k c) (P u w nx lo r (h.1, ai_up3 h.2.1 k a j x, h.2.2)) False | _ => False
def op_putR (c j t nx : Nat) : ai_Op := fun _ _ P u w lo st h => match st with | .inr (.inr (kb, b)) :: .inr (.inr (k, a)) :: r => cond (Nat.beq k c && Nat.beq kb t) (P u w nx lo r (h.1, h.2.1, ai_up3 h.2.2.1 k a j (b + 1), h.2.2.2)) False | _ => False
/-- arrays: kinds 13 int, 14 long, 15 byte, 16 boolean; 17 the script, 19 bytes of a text: read only -/
def op_iald (nx : Nat) : ai_Op := fun _ _ P u w lo st h => match st with | .inl x :: .inr (.inr (k, a)) :: r => cond (Nat.beq k 13 || Nat.beq k 17) (ai_in x (h.2.2.2.2 k a) ∧ P u w nx lo (aI (h.1 k a x.toNatClampNeg) :: r) h) False | _ => False
def op_bald (nx : Nat) : ai_Op := fun _ _ P u w lo st h => match st with | .inl x :: .inr (.inr (k, a)) :: r => cond (Nat.beq k 15 || (Nat.beq k 16 || Nat.beq k 19)) (ai_in x (h.2.2.2.2 k a) ∧ P u w nx lo (aI (h.1 k a x.toNatClampNeg) :: r) h) False | _ => False
def op_lald (nx : Nat) : ai_Op := fun _ _ P u w lo st h => match st with | .inl x :: .inr (.inr (k, a)) :: r => cond (Nat.beq k 14) (ai_in x (h.2.2.2.2 k a) ∧ P u w nx lo (aL (h.2.1 k a x.toNatClampNeg) :: r) h) False | _ => False
def op_iast (nx : Nat) : ai_Op := fun _ _ P u w lo st h => match st with | .inl v :: .inl x :: .inr (.inr (k, a)) :: r => cond (Nat.beq k 13) (ai_in x (h.2.2.2.2 k a) ∧ P u w nx lo r (ai_up3 h.1 k a x.toNatClampNeg v, h.2)) False | _ => False
def op_bast (nx : Nat) : ai_Op := fun _ _ P u w lo st h => match st with | .inl v :: .inl x :: .inr (.inr (k, a)) :: r => cond (Nat.beq k 15) (ai_in x (h.2.2.2.2 k a) ∧ P u w nx lo r (ai_up3 h.1 k a x.toNatClampNeg v.toInt8.toInt32, h.2)) (cond (Nat.beq k 16) (ai_in x (h.2.2.2.2 k a) ∧ P u w nx lo r (ai_up3 h.1 k a x.toNatClampNeg (v &&& 1), h.2)) False) | _ => False
def op_last (nx : Nat) : ai_Op := fun _ _ P u w lo st h => match st with | .inr (.inl v) :: .inl x :: .inr (.inr (k, a)) :: r => cond (Nat.beq k 14) (ai_in x (h.2.2.2.2 k a) ∧ P u w nx lo r (h.1, ai_up3 h.2.1 k a x.toNatClampNeg v, h.2.2)) False | _ => False
def op_alen (nx : Nat) : ai_Op := fun _ _ P u w lo st h => match st with | .inr (.inr (k, a)) :: r => cond (Nat.ble 13 k && (Nat.ble k 17 || Nat.beq k 19)) (P u w nx lo (aI (Int32.ofNat (h.2.2.2.2 k a)) :: r) h) False | _ => False
/-- a new object's place: the kind's next instance, zeros in it -/
def ai_z3 {α : Type} (f : Nat → Nat → Nat → α) (c i : Nat) (v : α) : Nat → Nat → Nat → α := fun c' i' j' => if c' = c ∧ i' = i then v else f c' i' j'
def ai_u1 (f : Nat → Nat) (c v : Nat) : Nat → Nat := fun c' => if c' = c then v else f c'
def ai_u2 (f : Nat → Nat → Nat) (c i v : Nat) : Nat → Nat → Nat := fun c' i' => if c' = c ∧ i' = i then v else f c' i'
def ai_new (h : ai_H) (c n : Nat) : ai_H := (ai_z3 h.1 c (h.2.2.2.1 c) 0, ai_z3 h.2.1 c (h.2.2.2.1 c) 0, ai_z3 h.2.2.1 c (h.2.2.2.1 c) 0, ai_u1 h.2.2.2.1 c (h.2.2.2.1 c + 1), ai_u2 h.2.2.2.2 c (h.2.2.2.1 c) n)
/-- the method's own bounds of cells and slots: mc, ms; a class of n fields -/
def op_new (mc ms c n nx : Nat) : ai_Op := fun _ _ P u w lo st h => (u + 1 ≤ mc ∧ w + n ≤ ms) ∧ P (u + 1) (w + n) nx lo (aR c (h.2.2.2.1 c) :: st) (ai_new h c 0)
def op_newa (mc ms k nx : Nat) : ai_Op := fun _ _ P u w lo st h => match st with | .inl x :: r => ((¬ x < 0) ∧ x.toNatClampNeg ≤ 60000 ∧ u + 1 ≤ mc ∧ w + x.toNatClampNeg ≤ ms) ∧ P (u + 1) (w + x.toNatClampNeg) nx lo (aR k (h.2.2.2.1 k) :: r) (ai_new h k x.toNatClampNeg) | _ => False
def op_objinit (nx : Nat) : ai_Op := fun _ _ P u w lo st h => match st with | .inr (.inr (k, a)) :: r => cond (Nat.blt k 13) (ai_cats r ≤ 8 ∧ P u w nx lo r h) False | _ => False
/-- calls: method m of n arguments (the receiver counted), the receiver's kind; no cell is made -/
def ai_tk (n : Nat) (st : ai_S) (acc : List ai_V) : Option (List ai_V × ai_S) := Nat.rec (motive := fun _ => ai_S → List ai_V → Option (List ai_V × ai_S)) (fun st acc => some (acc, st)) (fun _ ih st acc => match st with | [] => none | v :: r => ih r (v :: acc)) n st acc
def ai_push (v : Option ai_V) (r : ai_S) : ai_S := match v with | some v => v :: r | none => r
def op_callv (m n kr nx : Nat) : ai_Op := fun C _ P u w lo st h => match ai_tk n st [] with | some (.inr (.inr (k, a)) :: as, r) => cond (Nat.beq k kr) (ai_cats r ≤ 8 ∧ C m (aR k a :: as) h (fun v h' => P u w nx lo (ai_push v r) h')) False | _ => False
def op_calls (m n nx : Nat) : ai_Op := fun C _ P u w lo st h => match ai_tk n st [] with | some (as, r) => ai_cats r ≤ 8 ∧ C m as h (fun v h' => P u w nx lo (ai_push v r) h') | _ => False
/-- constructors: of at most cm cells, cs slots -/
def op_calli (mc ms m n kr cm cs nx : Nat) : ai_Op := fun C _ P u w lo st h => match ai_tk n st [] with | some (.inr (.inr (k, a)) :: as, r) => cond (Nat.beq k kr) ((ai_cats r ≤ 8 ∧ u + cm ≤ mc ∧ w + cs ≤ ms) ∧ C m (aR k a :: as) h (fun v h' => v = none ∧ P (u + cm) (w + cs) nx lo r h')) False | _ => False
/-- a text's coder, its bytes -/
def op_sc (nx : Nat) : ai_Op := fun _ _ P u w lo st h => match st with | .inr (.inr (k, _)) :: r => cond (Nat.beq k 18) (P u w nx lo (aI 0 :: r) h) False | _ => False
def op_sv (nx : Nat) : ai_Op := fun _ _ P u w lo st h => match st with | .inr (.inr (k, a)) :: r => cond (Nat.beq k 18) (P u w nx lo (aR 19 a :: r) h) False | _ => False
def op_iret (t : Nat) : ai_Op := fun _ Q _ _ _ _ st h => match st with | [.inl x] => Q (some (aI (ai_nar t x))) h | _ => False
def op_lret : ai_Op := fun _ Q _ _ _ _ st h => match st with | [.inr (.inl x)] => Q (some (aL x)) h | _ => False
def op_ret : ai_Op := fun _ Q _ _ _ _ st h => match st with | [] => Q none h | _ => False
/-! monotone -/
def ai_CM (C : ai_C) : Prop := ∀ m as h (Q Q' : ai_Q), (∀ v h, Q v h → Q' v h) → C m as h Q → C m as h Q'
def ai_M (op : ai_Op) : Prop := ∀ C, ai_CM C → ∀ (Q Q' : ai_Q) (P P' : ai_P), (∀ v h, Q v h → Q' v h) → (∀ u w pc lo st h, P u w pc lo st h → P' u w pc lo st h) → ∀ u w lo st h, op C Q P u w lo st h → op C Q' P' u w lo st h
def ai_step (code : Nat → Option ai_Op) (C : ai_C) (Q : ai_Q) (P : ai_P) : ai_P := fun u w pc lo st h => match code pc with | some op => op C Q P u w lo st h | none => False
def ai_steps (code : Nat → Option ai_Op) (C : ai_C) (Q : ai_Q) (P : ai_P) (n : Nat) : ai_P := Nat.rec (motive := fun _ => ai_P) P (fun _ ih => ai_step code C Q ih) n
def ai_WP (code : Nat → Option ai_Op) (C : ai_C) (Q : ai_Q) : ai_P := fun u w pc lo st h => ∀ P : ai_P, (∀ u w pc lo st h, ai_step code C Q P u w pc lo st h → P u w pc lo st h) → P u w pc lo st h
def ai_MC (code : Nat → Option ai_Op) : Prop := ∀ pc op, code pc = some op → ai_M op
theorem ai_step_mono {code : Nat → Option ai_Op} (hm : ai_MC code) {C : ai_C} (hC : ai_CM C) {Q Q' : ai_Q} {P P' : ai_P} (hQ : ∀ v h, Q v h → Q' v h) (hP : ∀ u w pc lo st h, P u w pc lo st h → P' u w pc lo st h) {u w pc lo st h} (hs : ai_step code C Q P u w pc lo st h) : ai_step code C Q' P' u w pc lo st h := by
  unfold ai_step at hs ⊢
  cases hc : code pc with
  | none => rw [hc] at hs; exact hs.elim
  | some op => rw [hc] at hs; exact hm pc op hc C hC Q Q' P P' hQ hP _ _ _ _ _ hs
theorem ai_WP_step {code : Nat → Option ai_Op} (hm : ai_MC code) {C : ai_C} (hC : ai_CM C) {Q : ai_Q} {u w pc lo st h} (hs : ai_step code C Q (ai_WP code C Q) u w pc lo st h) : ai_WP code C Q u w pc lo st h :=
  fun P hP => hP _ _ _ _ _ _ (ai_step_mono hm hC (fun _ _ x => x) (fun _ _ _ _ _ _ x => x P hP) hs)
theorem ai_WP_steps {code : Nat → Option ai_Op} (hm : ai_MC code) {C : ai_C} (hC : ai_CM C) {Q : ai_Q} (n : Nat) : ∀ {u w pc lo st h}, ai_steps code C Q (ai_WP code C Q) n u w pc lo st h → ai_WP code C Q u w pc lo st h := by
  induction n with
  | zero => intro u w pc lo st h x; exact x
  | succ n ih =>
    intro u w pc lo st h x
    exact ai_WP_step hm hC (ai_step_mono hm hC (fun _ _ x => x) (fun _ _ _ _ _ _ x => ih x) x)
theorem ai_WP_mono {code : Nat → Option ai_Op} (hm : ai_MC code) {C : ai_C} (hC : ai_CM C) {Q Q' : ai_Q} (hQ : ∀ v h, Q v h → Q' v h) {u w pc lo st h} (x : ai_WP code C Q u w pc lo st h) : ai_WP code C Q' u w pc lo st h :=
  fun P hP => x P (fun _ _ _ _ _ _ y => hP _ _ _ _ _ _ (ai_step_mono hm hC hQ (fun _ _ _ _ _ _ z => z) y))
theorem ai_and_intro {a b : Prop} (x : a) (y : b) : a ∧ b := ⟨x, y⟩
/-- what a method does at its entry: its places -/
def ai_args (as : List ai_V) : ai_L := match as with | [] => [] | v :: r => match v with | .inr (.inl x) => some (aL x) :: none :: ai_args r | v => some v :: ai_args r
def ai_pad (n : Nat) (l : ai_L) : ai_L := Nat.rec (motive := fun _ => ai_L → ai_L) (fun l => l) (fun _ ih l => match l with | [] => none :: ih [] | a :: t => a :: ih t) n l
/-- calls by depth: T gives each method's code and how many places it has -/
def ai_Ex (T : Nat → (Nat → Option ai_Op) × Nat) (d : Nat) : ai_C := Nat.rec (motive := fun _ => ai_C) (fun _ _ _ _ => False) (fun _ ih m as h Q => ai_cats as ≤ (T m).2 ∧ ai_WP (T m).1 ih Q 0 0 0 (ai_pad (T m).2 (ai_args as)) [] h) d
theorem ai_Ex_CM {T : Nat → (Nat → Option ai_Op) × Nat} (hT : ∀ m, ai_MC (T m).1) (d : Nat) : ai_CM (ai_Ex T d) := by
  induction d with
  | zero => intro m as h Q Q' hQ x; exact x
  | succ d ih => intro m as h Q Q' hQ x; exact ⟨x.1, ai_WP_mono (hT m) ih hQ x.2⟩
theorem ai_cond_mono {b : Bool} {a a' : Prop} (f : a → a') (x : cond b a False) : cond b a' False := by
  cases b
  · exact x
  · exact f x
theorem ai_cond_mono2 {b : Bool} {a a' c c' : Prop} (f : a → a') (g : c → c') (x : cond b a c) : cond b a' c' := by
  cases b
  · exact g x
  · exact f x
theorem ai_swp_mono {P P' : Nat → Prop} (hP : ∀ n, P n → P' n) {x : Int32} (l : List (Int32 × Nat)) (d : Nat) : ai_swp P x l d → ai_swp P' x l d := by
  induction l with
  | nil => exact hP d
  | cons q r ih => exact fun y => ⟨fun e => hP _ (y.1 e), fun e => ih (y.2 e)⟩
theorem m_sw (l : List (Int32 × Nat)) (d : Nat) : ai_M (op_sw l d) := by
  intro C hC Q Q' P P' hQ hP u w lo st h x
  unfold op_sw at x ⊢
  split at x
  · exact ai_swp_mono (fun n y => hP _ _ _ _ _ _ y) l d x
  · exact x.elim
theorem m_iload (i nx : Nat) : ai_M (op_iload i nx) := by
  intro C hC Q Q' P P' hQ hP u w lo st h x
  unfold op_iload at x ⊢
  first
    | (first | exact hP _ _ _ _ _ _ x | exact hQ _ _ x | exact ⟨fun q => hP _ _ _ _ _ _ (x.1 q), fun q => hP _ _ _ _ _ _ (x.2 q)⟩ | exact ⟨x.1, hP _ _ _ _ _ _ x.2⟩ | exact ⟨x.1, hC _ _ _ _ _ (fun v h y => hP _ _ _ _ _ _ y) x.2⟩ | exact ai_cond_mono (fun x => hP _ _ _ _ _ _ x) x | exact ai_cond_mono (fun x => ⟨x.1, hP _ _ _ _ _ _ x.2⟩) x | exact ai_cond_mono (fun x => ⟨x.1, hC _ _ _ _ _ (fun v h y => hP _ _ _ _ _ _ y) x.2⟩) x | exact ai_cond_mono (fun x => ⟨x.1, hC _ _ _ _ _ (fun v h y => ⟨y.1, hP _ _ _ _ _ _ y.2⟩) x.2⟩) x | exact ai_cond_mono2 (fun x => ⟨x.1, hP _ _ _ _ _ _ x.2⟩) (ai_cond_mono (fun x => ⟨x.1, hP _ _ _ _ _ _ x.2⟩)) x | exact x.elim)
    | (split at x <;> (first | exact hP _ _ _ _ _ _ x | exact hQ _ _ x | exact ⟨fun q => hP _ _ _ _ _ _ (x.1 q), fun q => hP _ _ _ _ _ _ (x.2 q)⟩ | exact ⟨x.1, hP _ _ _ _ _ _ x.2⟩ | exact ⟨x.1, hC _ _ _ _ _ (fun v h y => hP _ _ _ _ _ _ y) x.2⟩ | exact ai_cond_mono (fun x => hP _ _ _ _ _ _ x) x | exact ai_cond_mono (fun x => ⟨x.1, hP _ _ _ _ _ _ x.2⟩) x | exact ai_cond_mono (fun x => ⟨x.1, hC _ _ _ _ _ (fun v h y => hP _ _ _ _ _ _ y) x.2⟩) x | exact ai_cond_mono (fun x => ⟨x.1, hC _ _ _ _ _ (fun v h y => ⟨y.1, hP _ _ _ _ _ _ y.2⟩) x.2⟩) x | exact ai_cond_mono2 (fun x => ⟨x.1, hP _ _ _ _ _ _ x.2⟩) (ai_cond_mono (fun x => ⟨x.1, hP _ _ _ _ _ _ x.2⟩)) x | exact x.elim))
theorem m_lload (i nx : Nat) : ai_M (op_lload i nx) := by
  intro C hC Q Q' P P' hQ hP u w lo st h x
  unfold op_lload at x ⊢
  first
    | (first | exact hP _ _ _ _ _ _ x | exact hQ _ _ x | exact ⟨fun q => hP _ _ _ _ _ _ (x.1 q), fun q => hP _ _ _ _ _ _ (x.2 q)⟩ | exact ⟨x.1, hP _ _ _ _ _ _ x.2⟩ | exact ⟨x.1, hC _ _ _ _ _ (fun v h y => hP _ _ _ _ _ _ y) x.2⟩ | exact ai_cond_mono (fun x => hP _ _ _ _ _ _ x) x | exact ai_cond_mono (fun x => ⟨x.1, hP _ _ _ _ _ _ x.2⟩) x | exact ai_cond_mono (fun x => ⟨x.1, hC _ _ _ _ _ (fun v h y => hP _ _ _ _ _ _ y) x.2⟩) x | exact ai_cond_mono (fun x => ⟨x.1, hC _ _ _ _ _ (fun v h y => ⟨y.1, hP _ _ _ _ _ _ y.2⟩) x.2⟩) x | exact ai_cond_mono2 (fun x => ⟨x.1, hP _ _ _ _ _ _ x.2⟩) (ai_cond_mono (fun x => ⟨x.1, hP _ _ _ _ _ _ x.2⟩)) x | exact x.elim)
    | (split at x <;> (first | exact hP _ _ _ _ _ _ x | exact hQ _ _ x | exact ⟨fun q => hP _ _ _ _ _ _ (x.1 q), fun q => hP _ _ _ _ _ _ (x.2 q)⟩ | exact ⟨x.1, hP _ _ _ _ _ _ x.2⟩ | exact ⟨x.1, hC _ _ _ _ _ (fun v h y => hP _ _ _ _ _ _ y) x.2⟩ | exact ai_cond_mono (fun x => hP _ _ _ _ _ _ x) x | exact ai_cond_mono (fun x => ⟨x.1, hP _ _ _ _ _ _ x.2⟩) x | exact ai_cond_mono (fun x => ⟨x.1, hC _ _ _ _ _ (fun v h y => hP _ _ _ _ _ _ y) x.2⟩) x | exact ai_cond_mono (fun x => ⟨x.1, hC _ _ _ _ _ (fun v h y => ⟨y.1, hP _ _ _ _ _ _ y.2⟩) x.2⟩) x | exact ai_cond_mono2 (fun x => ⟨x.1, hP _ _ _ _ _ _ x.2⟩) (ai_cond_mono (fun x => ⟨x.1, hP _ _ _ _ _ _ x.2⟩)) x | exact x.elim))
theorem m_aload (i nx : Nat) : ai_M (op_aload i nx) := by
  intro C hC Q Q' P P' hQ hP u w lo st h x
  unfold op_aload at x ⊢
  first
    | (first | exact hP _ _ _ _ _ _ x | exact hQ _ _ x | exact ⟨fun q => hP _ _ _ _ _ _ (x.1 q), fun q => hP _ _ _ _ _ _ (x.2 q)⟩ | exact ⟨x.1, hP _ _ _ _ _ _ x.2⟩ | exact ⟨x.1, hC _ _ _ _ _ (fun v h y => hP _ _ _ _ _ _ y) x.2⟩ | exact ai_cond_mono (fun x => hP _ _ _ _ _ _ x) x | exact ai_cond_mono (fun x => ⟨x.1, hP _ _ _ _ _ _ x.2⟩) x | exact ai_cond_mono (fun x => ⟨x.1, hC _ _ _ _ _ (fun v h y => hP _ _ _ _ _ _ y) x.2⟩) x | exact ai_cond_mono (fun x => ⟨x.1, hC _ _ _ _ _ (fun v h y => ⟨y.1, hP _ _ _ _ _ _ y.2⟩) x.2⟩) x | exact ai_cond_mono2 (fun x => ⟨x.1, hP _ _ _ _ _ _ x.2⟩) (ai_cond_mono (fun x => ⟨x.1, hP _ _ _ _ _ _ x.2⟩)) x | exact x.elim)
    | (split at x <;> (first | exact hP _ _ _ _ _ _ x | exact hQ _ _ x | exact ⟨fun q => hP _ _ _ _ _ _ (x.1 q), fun q => hP _ _ _ _ _ _ (x.2 q)⟩ | exact ⟨x.1, hP _ _ _ _ _ _ x.2⟩ | exact ⟨x.1, hC _ _ _ _ _ (fun v h y => hP _ _ _ _ _ _ y) x.2⟩ | exact ai_cond_mono (fun x => hP _ _ _ _ _ _ x) x | exact ai_cond_mono (fun x => ⟨x.1, hP _ _ _ _ _ _ x.2⟩) x | exact ai_cond_mono (fun x => ⟨x.1, hC _ _ _ _ _ (fun v h y => hP _ _ _ _ _ _ y) x.2⟩) x | exact ai_cond_mono (fun x => ⟨x.1, hC _ _ _ _ _ (fun v h y => ⟨y.1, hP _ _ _ _ _ _ y.2⟩) x.2⟩) x | exact ai_cond_mono2 (fun x => ⟨x.1, hP _ _ _ _ _ _ x.2⟩) (ai_cond_mono (fun x => ⟨x.1, hP _ _ _ _ _ _ x.2⟩)) x | exact x.elim))
theorem m_istore (c : Bool) (i nx : Nat) : ai_M (op_istore c i nx) := by
  intro C hC Q Q' P P' hQ hP u w lo st h x
  unfold op_istore at x ⊢
  first
    | (first | exact hP _ _ _ _ _ _ x | exact hQ _ _ x | exact ⟨fun q => hP _ _ _ _ _ _ (x.1 q), fun q => hP _ _ _ _ _ _ (x.2 q)⟩ | exact ⟨x.1, hP _ _ _ _ _ _ x.2⟩ | exact ⟨x.1, hC _ _ _ _ _ (fun v h y => hP _ _ _ _ _ _ y) x.2⟩ | exact ai_cond_mono (fun x => hP _ _ _ _ _ _ x) x | exact ai_cond_mono (fun x => ⟨x.1, hP _ _ _ _ _ _ x.2⟩) x | exact ai_cond_mono (fun x => ⟨x.1, hC _ _ _ _ _ (fun v h y => hP _ _ _ _ _ _ y) x.2⟩) x | exact ai_cond_mono (fun x => ⟨x.1, hC _ _ _ _ _ (fun v h y => ⟨y.1, hP _ _ _ _ _ _ y.2⟩) x.2⟩) x | exact ai_cond_mono2 (fun x => ⟨x.1, hP _ _ _ _ _ _ x.2⟩) (ai_cond_mono (fun x => ⟨x.1, hP _ _ _ _ _ _ x.2⟩)) x | exact x.elim)
    | (split at x <;> (first | exact hP _ _ _ _ _ _ x | exact hQ _ _ x | exact ⟨fun q => hP _ _ _ _ _ _ (x.1 q), fun q => hP _ _ _ _ _ _ (x.2 q)⟩ | exact ⟨x.1, hP _ _ _ _ _ _ x.2⟩ | exact ⟨x.1, hC _ _ _ _ _ (fun v h y => hP _ _ _ _ _ _ y) x.2⟩ | exact ai_cond_mono (fun x => hP _ _ _ _ _ _ x) x | exact ai_cond_mono (fun x => ⟨x.1, hP _ _ _ _ _ _ x.2⟩) x | exact ai_cond_mono (fun x => ⟨x.1, hC _ _ _ _ _ (fun v h y => hP _ _ _ _ _ _ y) x.2⟩) x | exact ai_cond_mono (fun x => ⟨x.1, hC _ _ _ _ _ (fun v h y => ⟨y.1, hP _ _ _ _ _ _ y.2⟩) x.2⟩) x | exact ai_cond_mono2 (fun x => ⟨x.1, hP _ _ _ _ _ _ x.2⟩) (ai_cond_mono (fun x => ⟨x.1, hP _ _ _ _ _ _ x.2⟩)) x | exact x.elim))
theorem m_lstore (c : Bool) (i nx : Nat) : ai_M (op_lstore c i nx) := by
  intro C hC Q Q' P P' hQ hP u w lo st h x
  unfold op_lstore at x ⊢
  first
    | (first | exact hP _ _ _ _ _ _ x | exact hQ _ _ x | exact ⟨fun q => hP _ _ _ _ _ _ (x.1 q), fun q => hP _ _ _ _ _ _ (x.2 q)⟩ | exact ⟨x.1, hP _ _ _ _ _ _ x.2⟩ | exact ⟨x.1, hC _ _ _ _ _ (fun v h y => hP _ _ _ _ _ _ y) x.2⟩ | exact ai_cond_mono (fun x => hP _ _ _ _ _ _ x) x | exact ai_cond_mono (fun x => ⟨x.1, hP _ _ _ _ _ _ x.2⟩) x | exact ai_cond_mono (fun x => ⟨x.1, hC _ _ _ _ _ (fun v h y => hP _ _ _ _ _ _ y) x.2⟩) x | exact ai_cond_mono (fun x => ⟨x.1, hC _ _ _ _ _ (fun v h y => ⟨y.1, hP _ _ _ _ _ _ y.2⟩) x.2⟩) x | exact ai_cond_mono2 (fun x => ⟨x.1, hP _ _ _ _ _ _ x.2⟩) (ai_cond_mono (fun x => ⟨x.1, hP _ _ _ _ _ _ x.2⟩)) x | exact x.elim)
    | (split at x <;> (first | exact hP _ _ _ _ _ _ x | exact hQ _ _ x | exact ⟨fun q => hP _ _ _ _ _ _ (x.1 q), fun q => hP _ _ _ _ _ _ (x.2 q)⟩ | exact ⟨x.1, hP _ _ _ _ _ _ x.2⟩ | exact ⟨x.1, hC _ _ _ _ _ (fun v h y => hP _ _ _ _ _ _ y) x.2⟩ | exact ai_cond_mono (fun x => hP _ _ _ _ _ _ x) x | exact ai_cond_mono (fun x => ⟨x.1, hP _ _ _ _ _ _ x.2⟩) x | exact ai_cond_mono (fun x => ⟨x.1, hC _ _ _ _ _ (fun v h y => hP _ _ _ _ _ _ y) x.2⟩) x | exact ai_cond_mono (fun x => ⟨x.1, hC _ _ _ _ _ (fun v h y => ⟨y.1, hP _ _ _ _ _ _ y.2⟩) x.2⟩) x | exact ai_cond_mono2 (fun x => ⟨x.1, hP _ _ _ _ _ _ x.2⟩) (ai_cond_mono (fun x => ⟨x.1, hP _ _ _ _ _ _ x.2⟩)) x | exact x.elim))
theorem m_astore (c : Bool) (i nx : Nat) : ai_M (op_astore c i nx) := by
  intro C hC Q Q' P P' hQ hP u w lo st h x
  unfold op_astore at x ⊢
  first
    | (first | exact hP _ _ _ _ _ _ x | exact hQ _ _ x | exact ⟨fun q => hP _ _ _ _ _ _ (x.1 q), fun q => hP _ _ _ _ _ _ (x.2 q)⟩ | exact ⟨x.1, hP _ _ _ _ _ _ x.2⟩ | exact ⟨x.1, hC _ _ _ _ _ (fun v h y => hP _ _ _ _ _ _ y) x.2⟩ | exact ai_cond_mono (fun x => hP _ _ _ _ _ _ x) x | exact ai_cond_mono (fun x => ⟨x.1, hP _ _ _ _ _ _ x.2⟩) x | exact ai_cond_mono (fun x => ⟨x.1, hC _ _ _ _ _ (fun v h y => hP _ _ _ _ _ _ y) x.2⟩) x | exact ai_cond_mono (fun x => ⟨x.1, hC _ _ _ _ _ (fun v h y => ⟨y.1, hP _ _ _ _ _ _ y.2⟩) x.2⟩) x | exact ai_cond_mono2 (fun x => ⟨x.1, hP _ _ _ _ _ _ x.2⟩) (ai_cond_mono (fun x => ⟨x.1, hP _ _ _ _ _ _ x.2⟩)) x | exact x.elim)
    | (split at x <;> (first | exact hP _ _ _ _ _ _ x | exact hQ _ _ x | exact ⟨fun q => hP _ _ _ _ _ _ (x.1 q), fun q => hP _ _ _ _ _ _ (x.2 q)⟩ | exact ⟨x.1, hP _ _ _ _ _ _ x.2⟩ | exact ⟨x.1, hC _ _ _ _ _ (fun v h y => hP _ _ _ _ _ _ y) x.2⟩ | exact ai_cond_mono (fun x => hP _ _ _ _ _ _ x) x | exact ai_cond_mono (fun x => ⟨x.1, hP _ _ _ _ _ _ x.2⟩) x | exact ai_cond_mono (fun x => ⟨x.1, hC _ _ _ _ _ (fun v h y => hP _ _ _ _ _ _ y) x.2⟩) x | exact ai_cond_mono (fun x => ⟨x.1, hC _ _ _ _ _ (fun v h y => ⟨y.1, hP _ _ _ _ _ _ y.2⟩) x.2⟩) x | exact ai_cond_mono2 (fun x => ⟨x.1, hP _ _ _ _ _ _ x.2⟩) (ai_cond_mono (fun x => ⟨x.1, hP _ _ _ _ _ _ x.2⟩)) x | exact x.elim))
theorem m_iinc (c : Bool) (i : Nat) (v : Int32) (nx : Nat) : ai_M (op_iinc c i v nx) := by
  intro C hC Q Q' P P' hQ hP u w lo st h x
  unfold op_iinc at x ⊢
  first
    | (first | exact hP _ _ _ _ _ _ x | exact hQ _ _ x | exact ⟨fun q => hP _ _ _ _ _ _ (x.1 q), fun q => hP _ _ _ _ _ _ (x.2 q)⟩ | exact ⟨x.1, hP _ _ _ _ _ _ x.2⟩ | exact ⟨x.1, hC _ _ _ _ _ (fun v h y => hP _ _ _ _ _ _ y) x.2⟩ | exact ai_cond_mono (fun x => hP _ _ _ _ _ _ x) x | exact ai_cond_mono (fun x => ⟨x.1, hP _ _ _ _ _ _ x.2⟩) x | exact ai_cond_mono (fun x => ⟨x.1, hC _ _ _ _ _ (fun v h y => hP _ _ _ _ _ _ y) x.2⟩) x | exact ai_cond_mono (fun x => ⟨x.1, hC _ _ _ _ _ (fun v h y => ⟨y.1, hP _ _ _ _ _ _ y.2⟩) x.2⟩) x | exact ai_cond_mono2 (fun x => ⟨x.1, hP _ _ _ _ _ _ x.2⟩) (ai_cond_mono (fun x => ⟨x.1, hP _ _ _ _ _ _ x.2⟩)) x | exact x.elim)
    | (split at x <;> (first | exact hP _ _ _ _ _ _ x | exact hQ _ _ x | exact ⟨fun q => hP _ _ _ _ _ _ (x.1 q), fun q => hP _ _ _ _ _ _ (x.2 q)⟩ | exact ⟨x.1, hP _ _ _ _ _ _ x.2⟩ | exact ⟨x.1, hC _ _ _ _ _ (fun v h y => hP _ _ _ _ _ _ y) x.2⟩ | exact ai_cond_mono (fun x => hP _ _ _ _ _ _ x) x | exact ai_cond_mono (fun x => ⟨x.1, hP _ _ _ _ _ _ x.2⟩) x | exact ai_cond_mono (fun x => ⟨x.1, hC _ _ _ _ _ (fun v h y => hP _ _ _ _ _ _ y) x.2⟩) x | exact ai_cond_mono (fun x => ⟨x.1, hC _ _ _ _ _ (fun v h y => ⟨y.1, hP _ _ _ _ _ _ y.2⟩) x.2⟩) x | exact ai_cond_mono2 (fun x => ⟨x.1, hP _ _ _ _ _ _ x.2⟩) (ai_cond_mono (fun x => ⟨x.1, hP _ _ _ _ _ _ x.2⟩)) x | exact x.elim))
theorem m_ic (v : Int32) (nx : Nat) : ai_M (op_ic v nx) := by
  intro C hC Q Q' P P' hQ hP u w lo st h x
  unfold op_ic at x ⊢
  first
    | (first | exact hP _ _ _ _ _ _ x | exact hQ _ _ x | exact ⟨fun q => hP _ _ _ _ _ _ (x.1 q), fun q => hP _ _ _ _ _ _ (x.2 q)⟩ | exact ⟨x.1, hP _ _ _ _ _ _ x.2⟩ | exact ⟨x.1, hC _ _ _ _ _ (fun v h y => hP _ _ _ _ _ _ y) x.2⟩ | exact ai_cond_mono (fun x => hP _ _ _ _ _ _ x) x | exact ai_cond_mono (fun x => ⟨x.1, hP _ _ _ _ _ _ x.2⟩) x | exact ai_cond_mono (fun x => ⟨x.1, hC _ _ _ _ _ (fun v h y => hP _ _ _ _ _ _ y) x.2⟩) x | exact ai_cond_mono (fun x => ⟨x.1, hC _ _ _ _ _ (fun v h y => ⟨y.1, hP _ _ _ _ _ _ y.2⟩) x.2⟩) x | exact ai_cond_mono2 (fun x => ⟨x.1, hP _ _ _ _ _ _ x.2⟩) (ai_cond_mono (fun x => ⟨x.1, hP _ _ _ _ _ _ x.2⟩)) x | exact x.elim)
    | (split at x <;> (first | exact hP _ _ _ _ _ _ x | exact hQ _ _ x | exact ⟨fun q => hP _ _ _ _ _ _ (x.1 q), fun q => hP _ _ _ _ _ _ (x.2 q)⟩ | exact ⟨x.1, hP _ _ _ _ _ _ x.2⟩ | exact ⟨x.1, hC _ _ _ _ _ (fun v h y => hP _ _ _ _ _ _ y) x.2⟩ | exact ai_cond_mono (fun x => hP _ _ _ _ _ _ x) x | exact ai_cond_mono (fun x => ⟨x.1, hP _ _ _ _ _ _ x.2⟩) x | exact ai_cond_mono (fun x => ⟨x.1, hC _ _ _ _ _ (fun v h y => hP _ _ _ _ _ _ y) x.2⟩) x | exact ai_cond_mono (fun x => ⟨x.1, hC _ _ _ _ _ (fun v h y => ⟨y.1, hP _ _ _ _ _ _ y.2⟩) x.2⟩) x | exact ai_cond_mono2 (fun x => ⟨x.1, hP _ _ _ _ _ _ x.2⟩) (ai_cond_mono (fun x => ⟨x.1, hP _ _ _ _ _ _ x.2⟩)) x | exact x.elim))
theorem m_lc (v : Int64) (nx : Nat) : ai_M (op_lc v nx) := by
  intro C hC Q Q' P P' hQ hP u w lo st h x
  unfold op_lc at x ⊢
  first
    | (first | exact hP _ _ _ _ _ _ x | exact hQ _ _ x | exact ⟨fun q => hP _ _ _ _ _ _ (x.1 q), fun q => hP _ _ _ _ _ _ (x.2 q)⟩ | exact ⟨x.1, hP _ _ _ _ _ _ x.2⟩ | exact ⟨x.1, hC _ _ _ _ _ (fun v h y => hP _ _ _ _ _ _ y) x.2⟩ | exact ai_cond_mono (fun x => hP _ _ _ _ _ _ x) x | exact ai_cond_mono (fun x => ⟨x.1, hP _ _ _ _ _ _ x.2⟩) x | exact ai_cond_mono (fun x => ⟨x.1, hC _ _ _ _ _ (fun v h y => hP _ _ _ _ _ _ y) x.2⟩) x | exact ai_cond_mono (fun x => ⟨x.1, hC _ _ _ _ _ (fun v h y => ⟨y.1, hP _ _ _ _ _ _ y.2⟩) x.2⟩) x | exact ai_cond_mono2 (fun x => ⟨x.1, hP _ _ _ _ _ _ x.2⟩) (ai_cond_mono (fun x => ⟨x.1, hP _ _ _ _ _ _ x.2⟩)) x | exact x.elim)
    | (split at x <;> (first | exact hP _ _ _ _ _ _ x | exact hQ _ _ x | exact ⟨fun q => hP _ _ _ _ _ _ (x.1 q), fun q => hP _ _ _ _ _ _ (x.2 q)⟩ | exact ⟨x.1, hP _ _ _ _ _ _ x.2⟩ | exact ⟨x.1, hC _ _ _ _ _ (fun v h y => hP _ _ _ _ _ _ y) x.2⟩ | exact ai_cond_mono (fun x => hP _ _ _ _ _ _ x) x | exact ai_cond_mono (fun x => ⟨x.1, hP _ _ _ _ _ _ x.2⟩) x | exact ai_cond_mono (fun x => ⟨x.1, hC _ _ _ _ _ (fun v h y => hP _ _ _ _ _ _ y) x.2⟩) x | exact ai_cond_mono (fun x => ⟨x.1, hC _ _ _ _ _ (fun v h y => ⟨y.1, hP _ _ _ _ _ _ y.2⟩) x.2⟩) x | exact ai_cond_mono2 (fun x => ⟨x.1, hP _ _ _ _ _ _ x.2⟩) (ai_cond_mono (fun x => ⟨x.1, hP _ _ _ _ _ _ x.2⟩)) x | exact x.elim))
theorem m_rc (k a nx : Nat) : ai_M (op_rc k a nx) := by
  intro C hC Q Q' P P' hQ hP u w lo st h x
  unfold op_rc at x ⊢
  first
    | (first | exact hP _ _ _ _ _ _ x | exact hQ _ _ x | exact ⟨fun q => hP _ _ _ _ _ _ (x.1 q), fun q => hP _ _ _ _ _ _ (x.2 q)⟩ | exact ⟨x.1, hP _ _ _ _ _ _ x.2⟩ | exact ⟨x.1, hC _ _ _ _ _ (fun v h y => hP _ _ _ _ _ _ y) x.2⟩ | exact ai_cond_mono (fun x => hP _ _ _ _ _ _ x) x | exact ai_cond_mono (fun x => ⟨x.1, hP _ _ _ _ _ _ x.2⟩) x | exact ai_cond_mono (fun x => ⟨x.1, hC _ _ _ _ _ (fun v h y => hP _ _ _ _ _ _ y) x.2⟩) x | exact ai_cond_mono (fun x => ⟨x.1, hC _ _ _ _ _ (fun v h y => ⟨y.1, hP _ _ _ _ _ _ y.2⟩) x.2⟩) x | exact ai_cond_mono2 (fun x => ⟨x.1, hP _ _ _ _ _ _ x.2⟩) (ai_cond_mono (fun x => ⟨x.1, hP _ _ _ _ _ _ x.2⟩)) x | exact x.elim)
    | (split at x <;> (first | exact hP _ _ _ _ _ _ x | exact hQ _ _ x | exact ⟨fun q => hP _ _ _ _ _ _ (x.1 q), fun q => hP _ _ _ _ _ _ (x.2 q)⟩ | exact ⟨x.1, hP _ _ _ _ _ _ x.2⟩ | exact ⟨x.1, hC _ _ _ _ _ (fun v h y => hP _ _ _ _ _ _ y) x.2⟩ | exact ai_cond_mono (fun x => hP _ _ _ _ _ _ x) x | exact ai_cond_mono (fun x => ⟨x.1, hP _ _ _ _ _ _ x.2⟩) x | exact ai_cond_mono (fun x => ⟨x.1, hC _ _ _ _ _ (fun v h y => hP _ _ _ _ _ _ y) x.2⟩) x | exact ai_cond_mono (fun x => ⟨x.1, hC _ _ _ _ _ (fun v h y => ⟨y.1, hP _ _ _ _ _ _ y.2⟩) x.2⟩) x | exact ai_cond_mono2 (fun x => ⟨x.1, hP _ _ _ _ _ _ x.2⟩) (ai_cond_mono (fun x => ⟨x.1, hP _ _ _ _ _ _ x.2⟩)) x | exact x.elim))
theorem m_i2 (f : Int32 → Int32 → Int32) (nx : Nat) : ai_M (op_i2 f nx) := by
  intro C hC Q Q' P P' hQ hP u w lo st h x
  unfold op_i2 at x ⊢
  first
    | (first | exact hP _ _ _ _ _ _ x | exact hQ _ _ x | exact ⟨fun q => hP _ _ _ _ _ _ (x.1 q), fun q => hP _ _ _ _ _ _ (x.2 q)⟩ | exact ⟨x.1, hP _ _ _ _ _ _ x.2⟩ | exact ⟨x.1, hC _ _ _ _ _ (fun v h y => hP _ _ _ _ _ _ y) x.2⟩ | exact ai_cond_mono (fun x => hP _ _ _ _ _ _ x) x | exact ai_cond_mono (fun x => ⟨x.1, hP _ _ _ _ _ _ x.2⟩) x | exact ai_cond_mono (fun x => ⟨x.1, hC _ _ _ _ _ (fun v h y => hP _ _ _ _ _ _ y) x.2⟩) x | exact ai_cond_mono (fun x => ⟨x.1, hC _ _ _ _ _ (fun v h y => ⟨y.1, hP _ _ _ _ _ _ y.2⟩) x.2⟩) x | exact ai_cond_mono2 (fun x => ⟨x.1, hP _ _ _ _ _ _ x.2⟩) (ai_cond_mono (fun x => ⟨x.1, hP _ _ _ _ _ _ x.2⟩)) x | exact x.elim)
    | (split at x <;> (first | exact hP _ _ _ _ _ _ x | exact hQ _ _ x | exact ⟨fun q => hP _ _ _ _ _ _ (x.1 q), fun q => hP _ _ _ _ _ _ (x.2 q)⟩ | exact ⟨x.1, hP _ _ _ _ _ _ x.2⟩ | exact ⟨x.1, hC _ _ _ _ _ (fun v h y => hP _ _ _ _ _ _ y) x.2⟩ | exact ai_cond_mono (fun x => hP _ _ _ _ _ _ x) x | exact ai_cond_mono (fun x => ⟨x.1, hP _ _ _ _ _ _ x.2⟩) x | exact ai_cond_mono (fun x => ⟨x.1, hC _ _ _ _ _ (fun v h y => hP _ _ _ _ _ _ y) x.2⟩) x | exact ai_cond_mono (fun x => ⟨x.1, hC _ _ _ _ _ (fun v h y => ⟨y.1, hP _ _ _ _ _ _ y.2⟩) x.2⟩) x | exact ai_cond_mono2 (fun x => ⟨x.1, hP _ _ _ _ _ _ x.2⟩) (ai_cond_mono (fun x => ⟨x.1, hP _ _ _ _ _ _ x.2⟩)) x | exact x.elim))
theorem m_i1 (f : Int32 → Int32) (nx : Nat) : ai_M (op_i1 f nx) := by
  intro C hC Q Q' P P' hQ hP u w lo st h x
  unfold op_i1 at x ⊢
  first
    | (first | exact hP _ _ _ _ _ _ x | exact hQ _ _ x | exact ⟨fun q => hP _ _ _ _ _ _ (x.1 q), fun q => hP _ _ _ _ _ _ (x.2 q)⟩ | exact ⟨x.1, hP _ _ _ _ _ _ x.2⟩ | exact ⟨x.1, hC _ _ _ _ _ (fun v h y => hP _ _ _ _ _ _ y) x.2⟩ | exact ai_cond_mono (fun x => hP _ _ _ _ _ _ x) x | exact ai_cond_mono (fun x => ⟨x.1, hP _ _ _ _ _ _ x.2⟩) x | exact ai_cond_mono (fun x => ⟨x.1, hC _ _ _ _ _ (fun v h y => hP _ _ _ _ _ _ y) x.2⟩) x | exact ai_cond_mono (fun x => ⟨x.1, hC _ _ _ _ _ (fun v h y => ⟨y.1, hP _ _ _ _ _ _ y.2⟩) x.2⟩) x | exact ai_cond_mono2 (fun x => ⟨x.1, hP _ _ _ _ _ _ x.2⟩) (ai_cond_mono (fun x => ⟨x.1, hP _ _ _ _ _ _ x.2⟩)) x | exact x.elim)
    | (split at x <;> (first | exact hP _ _ _ _ _ _ x | exact hQ _ _ x | exact ⟨fun q => hP _ _ _ _ _ _ (x.1 q), fun q => hP _ _ _ _ _ _ (x.2 q)⟩ | exact ⟨x.1, hP _ _ _ _ _ _ x.2⟩ | exact ⟨x.1, hC _ _ _ _ _ (fun v h y => hP _ _ _ _ _ _ y) x.2⟩ | exact ai_cond_mono (fun x => hP _ _ _ _ _ _ x) x | exact ai_cond_mono (fun x => ⟨x.1, hP _ _ _ _ _ _ x.2⟩) x | exact ai_cond_mono (fun x => ⟨x.1, hC _ _ _ _ _ (fun v h y => hP _ _ _ _ _ _ y) x.2⟩) x | exact ai_cond_mono (fun x => ⟨x.1, hC _ _ _ _ _ (fun v h y => ⟨y.1, hP _ _ _ _ _ _ y.2⟩) x.2⟩) x | exact ai_cond_mono2 (fun x => ⟨x.1, hP _ _ _ _ _ _ x.2⟩) (ai_cond_mono (fun x => ⟨x.1, hP _ _ _ _ _ _ x.2⟩)) x | exact x.elim))
theorem m_idiv (nx : Nat) : ai_M (op_idiv nx) := by
  intro C hC Q Q' P P' hQ hP u w lo st h x
  unfold op_idiv at x ⊢
  first
    | (first | exact hP _ _ _ _ _ _ x | exact hQ _ _ x | exact ⟨fun q => hP _ _ _ _ _ _ (x.1 q), fun q => hP _ _ _ _ _ _ (x.2 q)⟩ | exact ⟨x.1, hP _ _ _ _ _ _ x.2⟩ | exact ⟨x.1, hC _ _ _ _ _ (fun v h y => hP _ _ _ _ _ _ y) x.2⟩ | exact ai_cond_mono (fun x => hP _ _ _ _ _ _ x) x | exact ai_cond_mono (fun x => ⟨x.1, hP _ _ _ _ _ _ x.2⟩) x | exact ai_cond_mono (fun x => ⟨x.1, hC _ _ _ _ _ (fun v h y => hP _ _ _ _ _ _ y) x.2⟩) x | exact ai_cond_mono (fun x => ⟨x.1, hC _ _ _ _ _ (fun v h y => ⟨y.1, hP _ _ _ _ _ _ y.2⟩) x.2⟩) x | exact ai_cond_mono2 (fun x => ⟨x.1, hP _ _ _ _ _ _ x.2⟩) (ai_cond_mono (fun x => ⟨x.1, hP _ _ _ _ _ _ x.2⟩)) x | exact x.elim)
    | (split at x <;> (first | exact hP _ _ _ _ _ _ x | exact hQ _ _ x | exact ⟨fun q => hP _ _ _ _ _ _ (x.1 q), fun q => hP _ _ _ _ _ _ (x.2 q)⟩ | exact ⟨x.1, hP _ _ _ _ _ _ x.2⟩ | exact ⟨x.1, hC _ _ _ _ _ (fun v h y => hP _ _ _ _ _ _ y) x.2⟩ | exact ai_cond_mono (fun x => hP _ _ _ _ _ _ x) x | exact ai_cond_mono (fun x => ⟨x.1, hP _ _ _ _ _ _ x.2⟩) x | exact ai_cond_mono (fun x => ⟨x.1, hC _ _ _ _ _ (fun v h y => hP _ _ _ _ _ _ y) x.2⟩) x | exact ai_cond_mono (fun x => ⟨x.1, hC _ _ _ _ _ (fun v h y => ⟨y.1, hP _ _ _ _ _ _ y.2⟩) x.2⟩) x | exact ai_cond_mono2 (fun x => ⟨x.1, hP _ _ _ _ _ _ x.2⟩) (ai_cond_mono (fun x => ⟨x.1, hP _ _ _ _ _ _ x.2⟩)) x | exact x.elim))
theorem m_irem (nx : Nat) : ai_M (op_irem nx) := by
  intro C hC Q Q' P P' hQ hP u w lo st h x
  unfold op_irem at x ⊢
  first
    | (first | exact hP _ _ _ _ _ _ x | exact hQ _ _ x | exact ⟨fun q => hP _ _ _ _ _ _ (x.1 q), fun q => hP _ _ _ _ _ _ (x.2 q)⟩ | exact ⟨x.1, hP _ _ _ _ _ _ x.2⟩ | exact ⟨x.1, hC _ _ _ _ _ (fun v h y => hP _ _ _ _ _ _ y) x.2⟩ | exact ai_cond_mono (fun x => hP _ _ _ _ _ _ x) x | exact ai_cond_mono (fun x => ⟨x.1, hP _ _ _ _ _ _ x.2⟩) x | exact ai_cond_mono (fun x => ⟨x.1, hC _ _ _ _ _ (fun v h y => hP _ _ _ _ _ _ y) x.2⟩) x | exact ai_cond_mono (fun x => ⟨x.1, hC _ _ _ _ _ (fun v h y => ⟨y.1, hP _ _ _ _ _ _ y.2⟩) x.2⟩) x | exact ai_cond_mono2 (fun x => ⟨x.1, hP _ _ _ _ _ _ x.2⟩) (ai_cond_mono (fun x => ⟨x.1, hP _ _ _ _ _ _ x.2⟩)) x | exact x.elim)
    | (split at x <;> (first | exact hP _ _ _ _ _ _ x | exact hQ _ _ x | exact ⟨fun q => hP _ _ _ _ _ _ (x.1 q), fun q => hP _ _ _ _ _ _ (x.2 q)⟩ | exact ⟨x.1, hP _ _ _ _ _ _ x.2⟩ | exact ⟨x.1, hC _ _ _ _ _ (fun v h y => hP _ _ _ _ _ _ y) x.2⟩ | exact ai_cond_mono (fun x => hP _ _ _ _ _ _ x) x | exact ai_cond_mono (fun x => ⟨x.1, hP _ _ _ _ _ _ x.2⟩) x | exact ai_cond_mono (fun x => ⟨x.1, hC _ _ _ _ _ (fun v h y => hP _ _ _ _ _ _ y) x.2⟩) x | exact ai_cond_mono (fun x => ⟨x.1, hC _ _ _ _ _ (fun v h y => ⟨y.1, hP _ _ _ _ _ _ y.2⟩) x.2⟩) x | exact ai_cond_mono2 (fun x => ⟨x.1, hP _ _ _ _ _ _ x.2⟩) (ai_cond_mono (fun x => ⟨x.1, hP _ _ _ _ _ _ x.2⟩)) x | exact x.elim))
theorem m_l2 (f : Int64 → Int64 → Int64) (nx : Nat) : ai_M (op_l2 f nx) := by
  intro C hC Q Q' P P' hQ hP u w lo st h x
  unfold op_l2 at x ⊢
  first
    | (first | exact hP _ _ _ _ _ _ x | exact hQ _ _ x | exact ⟨fun q => hP _ _ _ _ _ _ (x.1 q), fun q => hP _ _ _ _ _ _ (x.2 q)⟩ | exact ⟨x.1, hP _ _ _ _ _ _ x.2⟩ | exact ⟨x.1, hC _ _ _ _ _ (fun v h y => hP _ _ _ _ _ _ y) x.2⟩ | exact ai_cond_mono (fun x => hP _ _ _ _ _ _ x) x | exact ai_cond_mono (fun x => ⟨x.1, hP _ _ _ _ _ _ x.2⟩) x | exact ai_cond_mono (fun x => ⟨x.1, hC _ _ _ _ _ (fun v h y => hP _ _ _ _ _ _ y) x.2⟩) x | exact ai_cond_mono (fun x => ⟨x.1, hC _ _ _ _ _ (fun v h y => ⟨y.1, hP _ _ _ _ _ _ y.2⟩) x.2⟩) x | exact ai_cond_mono2 (fun x => ⟨x.1, hP _ _ _ _ _ _ x.2⟩) (ai_cond_mono (fun x => ⟨x.1, hP _ _ _ _ _ _ x.2⟩)) x | exact x.elim)
    | (split at x <;> (first | exact hP _ _ _ _ _ _ x | exact hQ _ _ x | exact ⟨fun q => hP _ _ _ _ _ _ (x.1 q), fun q => hP _ _ _ _ _ _ (x.2 q)⟩ | exact ⟨x.1, hP _ _ _ _ _ _ x.2⟩ | exact ⟨x.1, hC _ _ _ _ _ (fun v h y => hP _ _ _ _ _ _ y) x.2⟩ | exact ai_cond_mono (fun x => hP _ _ _ _ _ _ x) x | exact ai_cond_mono (fun x => ⟨x.1, hP _ _ _ _ _ _ x.2⟩) x | exact ai_cond_mono (fun x => ⟨x.1, hC _ _ _ _ _ (fun v h y => hP _ _ _ _ _ _ y) x.2⟩) x | exact ai_cond_mono (fun x => ⟨x.1, hC _ _ _ _ _ (fun v h y => ⟨y.1, hP _ _ _ _ _ _ y.2⟩) x.2⟩) x | exact ai_cond_mono2 (fun x => ⟨x.1, hP _ _ _ _ _ _ x.2⟩) (ai_cond_mono (fun x => ⟨x.1, hP _ _ _ _ _ _ x.2⟩)) x | exact x.elim))
theorem m_ldiv (nx : Nat) : ai_M (op_ldiv nx) := by
  intro C hC Q Q' P P' hQ hP u w lo st h x
  unfold op_ldiv at x ⊢
  first
    | (first | exact hP _ _ _ _ _ _ x | exact hQ _ _ x | exact ⟨fun q => hP _ _ _ _ _ _ (x.1 q), fun q => hP _ _ _ _ _ _ (x.2 q)⟩ | exact ⟨x.1, hP _ _ _ _ _ _ x.2⟩ | exact ⟨x.1, hC _ _ _ _ _ (fun v h y => hP _ _ _ _ _ _ y) x.2⟩ | exact ai_cond_mono (fun x => hP _ _ _ _ _ _ x) x | exact ai_cond_mono (fun x => ⟨x.1, hP _ _ _ _ _ _ x.2⟩) x | exact ai_cond_mono (fun x => ⟨x.1, hC _ _ _ _ _ (fun v h y => hP _ _ _ _ _ _ y) x.2⟩) x | exact ai_cond_mono (fun x => ⟨x.1, hC _ _ _ _ _ (fun v h y => ⟨y.1, hP _ _ _ _ _ _ y.2⟩) x.2⟩) x | exact ai_cond_mono2 (fun x => ⟨x.1, hP _ _ _ _ _ _ x.2⟩) (ai_cond_mono (fun x => ⟨x.1, hP _ _ _ _ _ _ x.2⟩)) x | exact x.elim)
    | (split at x <;> (first | exact hP _ _ _ _ _ _ x | exact hQ _ _ x | exact ⟨fun q => hP _ _ _ _ _ _ (x.1 q), fun q => hP _ _ _ _ _ _ (x.2 q)⟩ | exact ⟨x.1, hP _ _ _ _ _ _ x.2⟩ | exact ⟨x.1, hC _ _ _ _ _ (fun v h y => hP _ _ _ _ _ _ y) x.2⟩ | exact ai_cond_mono (fun x => hP _ _ _ _ _ _ x) x | exact ai_cond_mono (fun x => ⟨x.1, hP _ _ _ _ _ _ x.2⟩) x | exact ai_cond_mono (fun x => ⟨x.1, hC _ _ _ _ _ (fun v h y => hP _ _ _ _ _ _ y) x.2⟩) x | exact ai_cond_mono (fun x => ⟨x.1, hC _ _ _ _ _ (fun v h y => ⟨y.1, hP _ _ _ _ _ _ y.2⟩) x.2⟩) x | exact ai_cond_mono2 (fun x => ⟨x.1, hP _ _ _ _ _ _ x.2⟩) (ai_cond_mono (fun x => ⟨x.1, hP _ _ _ _ _ _ x.2⟩)) x | exact x.elim))
theorem m_lrem (nx : Nat) : ai_M (op_lrem nx) := by
  intro C hC Q Q' P P' hQ hP u w lo st h x
  unfold op_lrem at x ⊢
  first
    | (first | exact hP _ _ _ _ _ _ x | exact hQ _ _ x | exact ⟨fun q => hP _ _ _ _ _ _ (x.1 q), fun q => hP _ _ _ _ _ _ (x.2 q)⟩ | exact ⟨x.1, hP _ _ _ _ _ _ x.2⟩ | exact ⟨x.1, hC _ _ _ _ _ (fun v h y => hP _ _ _ _ _ _ y) x.2⟩ | exact ai_cond_mono (fun x => hP _ _ _ _ _ _ x) x | exact ai_cond_mono (fun x => ⟨x.1, hP _ _ _ _ _ _ x.2⟩) x | exact ai_cond_mono (fun x => ⟨x.1, hC _ _ _ _ _ (fun v h y => hP _ _ _ _ _ _ y) x.2⟩) x | exact ai_cond_mono (fun x => ⟨x.1, hC _ _ _ _ _ (fun v h y => ⟨y.1, hP _ _ _ _ _ _ y.2⟩) x.2⟩) x | exact ai_cond_mono2 (fun x => ⟨x.1, hP _ _ _ _ _ _ x.2⟩) (ai_cond_mono (fun x => ⟨x.1, hP _ _ _ _ _ _ x.2⟩)) x | exact x.elim)
    | (split at x <;> (first | exact hP _ _ _ _ _ _ x | exact hQ _ _ x | exact ⟨fun q => hP _ _ _ _ _ _ (x.1 q), fun q => hP _ _ _ _ _ _ (x.2 q)⟩ | exact ⟨x.1, hP _ _ _ _ _ _ x.2⟩ | exact ⟨x.1, hC _ _ _ _ _ (fun v h y => hP _ _ _ _ _ _ y) x.2⟩ | exact ai_cond_mono (fun x => hP _ _ _ _ _ _ x) x | exact ai_cond_mono (fun x => ⟨x.1, hP _ _ _ _ _ _ x.2⟩) x | exact ai_cond_mono (fun x => ⟨x.1, hC _ _ _ _ _ (fun v h y => hP _ _ _ _ _ _ y) x.2⟩) x | exact ai_cond_mono (fun x => ⟨x.1, hC _ _ _ _ _ (fun v h y => ⟨y.1, hP _ _ _ _ _ _ y.2⟩) x.2⟩) x | exact ai_cond_mono2 (fun x => ⟨x.1, hP _ _ _ _ _ _ x.2⟩) (ai_cond_mono (fun x => ⟨x.1, hP _ _ _ _ _ _ x.2⟩)) x | exact x.elim))
theorem m_lshl (nx : Nat) : ai_M (op_lshl nx) := by
  intro C hC Q Q' P P' hQ hP u w lo st h x
  unfold op_lshl at x ⊢
  first
    | (first | exact hP _ _ _ _ _ _ x | exact hQ _ _ x | exact ⟨fun q => hP _ _ _ _ _ _ (x.1 q), fun q => hP _ _ _ _ _ _ (x.2 q)⟩ | exact ⟨x.1, hP _ _ _ _ _ _ x.2⟩ | exact ⟨x.1, hC _ _ _ _ _ (fun v h y => hP _ _ _ _ _ _ y) x.2⟩ | exact ai_cond_mono (fun x => hP _ _ _ _ _ _ x) x | exact ai_cond_mono (fun x => ⟨x.1, hP _ _ _ _ _ _ x.2⟩) x | exact ai_cond_mono (fun x => ⟨x.1, hC _ _ _ _ _ (fun v h y => hP _ _ _ _ _ _ y) x.2⟩) x | exact ai_cond_mono (fun x => ⟨x.1, hC _ _ _ _ _ (fun v h y => ⟨y.1, hP _ _ _ _ _ _ y.2⟩) x.2⟩) x | exact ai_cond_mono2 (fun x => ⟨x.1, hP _ _ _ _ _ _ x.2⟩) (ai_cond_mono (fun x => ⟨x.1, hP _ _ _ _ _ _ x.2⟩)) x | exact x.elim)
    | (split at x <;> (first | exact hP _ _ _ _ _ _ x | exact hQ _ _ x | exact ⟨fun q => hP _ _ _ _ _ _ (x.1 q), fun q => hP _ _ _ _ _ _ (x.2 q)⟩ | exact ⟨x.1, hP _ _ _ _ _ _ x.2⟩ | exact ⟨x.1, hC _ _ _ _ _ (fun v h y => hP _ _ _ _ _ _ y) x.2⟩ | exact ai_cond_mono (fun x => hP _ _ _ _ _ _ x) x | exact ai_cond_mono (fun x => ⟨x.1, hP _ _ _ _ _ _ x.2⟩) x | exact ai_cond_mono (fun x => ⟨x.1, hC _ _ _ _ _ (fun v h y => hP _ _ _ _ _ _ y) x.2⟩) x | exact ai_cond_mono (fun x => ⟨x.1, hC _ _ _ _ _ (fun v h y => ⟨y.1, hP _ _ _ _ _ _ y.2⟩) x.2⟩) x | exact ai_cond_mono2 (fun x => ⟨x.1, hP _ _ _ _ _ _ x.2⟩) (ai_cond_mono (fun x => ⟨x.1, hP _ _ _ _ _ _ x.2⟩)) x | exact x.elim))
theorem m_lcmp (nx : Nat) : ai_M (op_lcmp nx) := by
  intro C hC Q Q' P P' hQ hP u w lo st h x
  unfold op_lcmp at x ⊢
  first
    | (first | exact hP _ _ _ _ _ _ x | exact hQ _ _ x | exact ⟨fun q => hP _ _ _ _ _ _ (x.1 q), fun q => hP _ _ _ _ _ _ (x.2 q)⟩ | exact ⟨x.1, hP _ _ _ _ _ _ x.2⟩ | exact ⟨x.1, hC _ _ _ _ _ (fun v h y => hP _ _ _ _ _ _ y) x.2⟩ | exact ai_cond_mono (fun x => hP _ _ _ _ _ _ x) x | exact ai_cond_mono (fun x => ⟨x.1, hP _ _ _ _ _ _ x.2⟩) x | exact ai_cond_mono (fun x => ⟨x.1, hC _ _ _ _ _ (fun v h y => hP _ _ _ _ _ _ y) x.2⟩) x | exact ai_cond_mono (fun x => ⟨x.1, hC _ _ _ _ _ (fun v h y => ⟨y.1, hP _ _ _ _ _ _ y.2⟩) x.2⟩) x | exact ai_cond_mono2 (fun x => ⟨x.1, hP _ _ _ _ _ _ x.2⟩) (ai_cond_mono (fun x => ⟨x.1, hP _ _ _ _ _ _ x.2⟩)) x | exact x.elim)
    | (split at x <;> (first | exact hP _ _ _ _ _ _ x | exact hQ _ _ x | exact ⟨fun q => hP _ _ _ _ _ _ (x.1 q), fun q => hP _ _ _ _ _ _ (x.2 q)⟩ | exact ⟨x.1, hP _ _ _ _ _ _ x.2⟩ | exact ⟨x.1, hC _ _ _ _ _ (fun v h y => hP _ _ _ _ _ _ y) x.2⟩ | exact ai_cond_mono (fun x => hP _ _ _ _ _ _ x) x | exact ai_cond_mono (fun x => ⟨x.1, hP _ _ _ _ _ _ x.2⟩) x | exact ai_cond_mono (fun x => ⟨x.1, hC _ _ _ _ _ (fun v h y => hP _ _ _ _ _ _ y) x.2⟩) x | exact ai_cond_mono (fun x => ⟨x.1, hC _ _ _ _ _ (fun v h y => ⟨y.1, hP _ _ _ _ _ _ y.2⟩) x.2⟩) x | exact ai_cond_mono2 (fun x => ⟨x.1, hP _ _ _ _ _ _ x.2⟩) (ai_cond_mono (fun x => ⟨x.1, hP _ _ _ _ _ _ x.2⟩)) x | exact x.elim))
theorem m_i2l (nx : Nat) : ai_M (op_i2l nx) := by
  intro C hC Q Q' P P' hQ hP u w lo st h x
  unfold op_i2l at x ⊢
  first
    | (first | exact hP _ _ _ _ _ _ x | exact hQ _ _ x | exact ⟨fun q => hP _ _ _ _ _ _ (x.1 q), fun q => hP _ _ _ _ _ _ (x.2 q)⟩ | exact ⟨x.1, hP _ _ _ _ _ _ x.2⟩ | exact ⟨x.1, hC _ _ _ _ _ (fun v h y => hP _ _ _ _ _ _ y) x.2⟩ | exact ai_cond_mono (fun x => hP _ _ _ _ _ _ x) x | exact ai_cond_mono (fun x => ⟨x.1, hP _ _ _ _ _ _ x.2⟩) x | exact ai_cond_mono (fun x => ⟨x.1, hC _ _ _ _ _ (fun v h y => hP _ _ _ _ _ _ y) x.2⟩) x | exact ai_cond_mono (fun x => ⟨x.1, hC _ _ _ _ _ (fun v h y => ⟨y.1, hP _ _ _ _ _ _ y.2⟩) x.2⟩) x | exact ai_cond_mono2 (fun x => ⟨x.1, hP _ _ _ _ _ _ x.2⟩) (ai_cond_mono (fun x => ⟨x.1, hP _ _ _ _ _ _ x.2⟩)) x | exact x.elim)
    | (split at x <;> (first | exact hP _ _ _ _ _ _ x | exact hQ _ _ x | exact ⟨fun q => hP _ _ _ _ _ _ (x.1 q), fun q => hP _ _ _ _ _ _ (x.2 q)⟩ | exact ⟨x.1, hP _ _ _ _ _ _ x.2⟩ | exact ⟨x.1, hC _ _ _ _ _ (fun v h y => hP _ _ _ _ _ _ y) x.2⟩ | exact ai_cond_mono (fun x => hP _ _ _ _ _ _ x) x | exact ai_cond_mono (fun x => ⟨x.1, hP _ _ _ _ _ _ x.2⟩) x | exact ai_cond_mono (fun x => ⟨x.1, hC _ _ _ _ _ (fun v h y => hP _ _ _ _ _ _ y) x.2⟩) x | exact ai_cond_mono (fun x => ⟨x.1, hC _ _ _ _ _ (fun v h y => ⟨y.1, hP _ _ _ _ _ _ y.2⟩) x.2⟩) x | exact ai_cond_mono2 (fun x => ⟨x.1, hP _ _ _ _ _ _ x.2⟩) (ai_cond_mono (fun x => ⟨x.1, hP _ _ _ _ _ _ x.2⟩)) x | exact x.elim))
theorem m_l2i (nx : Nat) : ai_M (op_l2i nx) := by
  intro C hC Q Q' P P' hQ hP u w lo st h x
  unfold op_l2i at x ⊢
  first
    | (first | exact hP _ _ _ _ _ _ x | exact hQ _ _ x | exact ⟨fun q => hP _ _ _ _ _ _ (x.1 q), fun q => hP _ _ _ _ _ _ (x.2 q)⟩ | exact ⟨x.1, hP _ _ _ _ _ _ x.2⟩ | exact ⟨x.1, hC _ _ _ _ _ (fun v h y => hP _ _ _ _ _ _ y) x.2⟩ | exact ai_cond_mono (fun x => hP _ _ _ _ _ _ x) x | exact ai_cond_mono (fun x => ⟨x.1, hP _ _ _ _ _ _ x.2⟩) x | exact ai_cond_mono (fun x => ⟨x.1, hC _ _ _ _ _ (fun v h y => hP _ _ _ _ _ _ y) x.2⟩) x | exact ai_cond_mono (fun x => ⟨x.1, hC _ _ _ _ _ (fun v h y => ⟨y.1, hP _ _ _ _ _ _ y.2⟩) x.2⟩) x | exact ai_cond_mono2 (fun x => ⟨x.1, hP _ _ _ _ _ _ x.2⟩) (ai_cond_mono (fun x => ⟨x.1, hP _ _ _ _ _ _ x.2⟩)) x | exact x.elim)
    | (split at x <;> (first | exact hP _ _ _ _ _ _ x | exact hQ _ _ x | exact ⟨fun q => hP _ _ _ _ _ _ (x.1 q), fun q => hP _ _ _ _ _ _ (x.2 q)⟩ | exact ⟨x.1, hP _ _ _ _ _ _ x.2⟩ | exact ⟨x.1, hC _ _ _ _ _ (fun v h y => hP _ _ _ _ _ _ y) x.2⟩ | exact ai_cond_mono (fun x => hP _ _ _ _ _ _ x) x | exact ai_cond_mono (fun x => ⟨x.1, hP _ _ _ _ _ _ x.2⟩) x | exact ai_cond_mono (fun x => ⟨x.1, hC _ _ _ _ _ (fun v h y => hP _ _ _ _ _ _ y) x.2⟩) x | exact ai_cond_mono (fun x => ⟨x.1, hC _ _ _ _ _ (fun v h y => ⟨y.1, hP _ _ _ _ _ _ y.2⟩) x.2⟩) x | exact ai_cond_mono2 (fun x => ⟨x.1, hP _ _ _ _ _ _ x.2⟩) (ai_cond_mono (fun x => ⟨x.1, hP _ _ _ _ _ _ x.2⟩)) x | exact x.elim))
theorem m_lt2 (a b : Nat) : ai_M (op_lt2 a b) := by
  intro C hC Q Q' P P' hQ hP u w lo st h x
  unfold op_lt2 at x ⊢
  first
    | (first | exact hP _ _ _ _ _ _ x | exact hQ _ _ x | exact ⟨fun q => hP _ _ _ _ _ _ (x.1 q), fun q => hP _ _ _ _ _ _ (x.2 q)⟩ | exact ⟨x.1, hP _ _ _ _ _ _ x.2⟩ | exact ⟨x.1, hC _ _ _ _ _ (fun v h y => hP _ _ _ _ _ _ y) x.2⟩ | exact ai_cond_mono (fun x => hP _ _ _ _ _ _ x) x | exact ai_cond_mono (fun x => ⟨x.1, hP _ _ _ _ _ _ x.2⟩) x | exact ai_cond_mono (fun x => ⟨x.1, hC _ _ _ _ _ (fun v h y => hP _ _ _ _ _ _ y) x.2⟩) x | exact ai_cond_mono (fun x => ⟨x.1, hC _ _ _ _ _ (fun v h y => ⟨y.1, hP _ _ _ _ _ _ y.2⟩) x.2⟩) x | exact ai_cond_mono2 (fun x => ⟨x.1, hP _ _ _ _ _ _ x.2⟩) (ai_cond_mono (fun x => ⟨x.1, hP _ _ _ _ _ _ x.2⟩)) x | exact x.elim)
    | (split at x <;> (first | exact hP _ _ _ _ _ _ x | exact hQ _ _ x | exact ⟨fun q => hP _ _ _ _ _ _ (x.1 q), fun q => hP _ _ _ _ _ _ (x.2 q)⟩ | exact ⟨x.1, hP _ _ _ _ _ _ x.2⟩ | exact ⟨x.1, hC _ _ _ _ _ (fun v h y => hP _ _ _ _ _ _ y) x.2⟩ | exact ai_cond_mono (fun x => hP _ _ _ _ _ _ x) x | exact ai_cond_mono (fun x => ⟨x.1, hP _ _ _ _ _ _ x.2⟩) x | exact ai_cond_mono (fun x => ⟨x.1, hC _ _ _ _ _ (fun v h y => hP _ _ _ _ _ _ y) x.2⟩) x | exact ai_cond_mono (fun x => ⟨x.1, hC _ _ _ _ _ (fun v h y => ⟨y.1, hP _ _ _ _ _ _ y.2⟩) x.2⟩) x | exact ai_cond_mono2 (fun x => ⟨x.1, hP _ _ _ _ _ _ x.2⟩) (ai_cond_mono (fun x => ⟨x.1, hP _ _ _ _ _ _ x.2⟩)) x | exact x.elim))
theorem m_gt2 (a b : Nat) : ai_M (op_gt2 a b) := by
  intro C hC Q Q' P P' hQ hP u w lo st h x
  unfold op_gt2 at x ⊢
  first
    | (first | exact hP _ _ _ _ _ _ x | exact hQ _ _ x | exact ⟨fun q => hP _ _ _ _ _ _ (x.1 q), fun q => hP _ _ _ _ _ _ (x.2 q)⟩ | exact ⟨x.1, hP _ _ _ _ _ _ x.2⟩ | exact ⟨x.1, hC _ _ _ _ _ (fun v h y => hP _ _ _ _ _ _ y) x.2⟩ | exact ai_cond_mono (fun x => hP _ _ _ _ _ _ x) x | exact ai_cond_mono (fun x => ⟨x.1, hP _ _ _ _ _ _ x.2⟩) x | exact ai_cond_mono (fun x => ⟨x.1, hC _ _ _ _ _ (fun v h y => hP _ _ _ _ _ _ y) x.2⟩) x | exact ai_cond_mono (fun x => ⟨x.1, hC _ _ _ _ _ (fun v h y => ⟨y.1, hP _ _ _ _ _ _ y.2⟩) x.2⟩) x | exact ai_cond_mono2 (fun x => ⟨x.1, hP _ _ _ _ _ _ x.2⟩) (ai_cond_mono (fun x => ⟨x.1, hP _ _ _ _ _ _ x.2⟩)) x | exact x.elim)
    | (split at x <;> (first | exact hP _ _ _ _ _ _ x | exact hQ _ _ x | exact ⟨fun q => hP _ _ _ _ _ _ (x.1 q), fun q => hP _ _ _ _ _ _ (x.2 q)⟩ | exact ⟨x.1, hP _ _ _ _ _ _ x.2⟩ | exact ⟨x.1, hC _ _ _ _ _ (fun v h y => hP _ _ _ _ _ _ y) x.2⟩ | exact ai_cond_mono (fun x => hP _ _ _ _ _ _ x) x | exact ai_cond_mono (fun x => ⟨x.1, hP _ _ _ _ _ _ x.2⟩) x | exact ai_cond_mono (fun x => ⟨x.1, hC _ _ _ _ _ (fun v h y => hP _ _ _ _ _ _ y) x.2⟩) x | exact ai_cond_mono (fun x => ⟨x.1, hC _ _ _ _ _ (fun v h y => ⟨y.1, hP _ _ _ _ _ _ y.2⟩) x.2⟩) x | exact ai_cond_mono2 (fun x => ⟨x.1, hP _ _ _ _ _ _ x.2⟩) (ai_cond_mono (fun x => ⟨x.1, hP _ _ _ _ _ _ x.2⟩)) x | exact x.elim))
theorem m_eq2 (a b : Nat) : ai_M (op_eq2 a b) := by
  intro C hC Q Q' P P' hQ hP u w lo st h x
  unfold op_eq2 at x ⊢
  first
    | (first | exact hP _ _ _ _ _ _ x | exact hQ _ _ x | exact ⟨fun q => hP _ _ _ _ _ _ (x.1 q), fun q => hP _ _ _ _ _ _ (x.2 q)⟩ | exact ⟨x.1, hP _ _ _ _ _ _ x.2⟩ | exact ⟨x.1, hC _ _ _ _ _ (fun v h y => hP _ _ _ _ _ _ y) x.2⟩ | exact ai_cond_mono (fun x => hP _ _ _ _ _ _ x) x | exact ai_cond_mono (fun x => ⟨x.1, hP _ _ _ _ _ _ x.2⟩) x | exact ai_cond_mono (fun x => ⟨x.1, hC _ _ _ _ _ (fun v h y => hP _ _ _ _ _ _ y) x.2⟩) x | exact ai_cond_mono (fun x => ⟨x.1, hC _ _ _ _ _ (fun v h y => ⟨y.1, hP _ _ _ _ _ _ y.2⟩) x.2⟩) x | exact ai_cond_mono2 (fun x => ⟨x.1, hP _ _ _ _ _ _ x.2⟩) (ai_cond_mono (fun x => ⟨x.1, hP _ _ _ _ _ _ x.2⟩)) x | exact x.elim)
    | (split at x <;> (first | exact hP _ _ _ _ _ _ x | exact hQ _ _ x | exact ⟨fun q => hP _ _ _ _ _ _ (x.1 q), fun q => hP _ _ _ _ _ _ (x.2 q)⟩ | exact ⟨x.1, hP _ _ _ _ _ _ x.2⟩ | exact ⟨x.1, hC _ _ _ _ _ (fun v h y => hP _ _ _ _ _ _ y) x.2⟩ | exact ai_cond_mono (fun x => hP _ _ _ _ _ _ x) x | exact ai_cond_mono (fun x => ⟨x.1, hP _ _ _ _ _ _ x.2⟩) x | exact ai_cond_mono (fun x => ⟨x.1, hC _ _ _ _ _ (fun v h y => hP _ _ _ _ _ _ y) x.2⟩) x | exact ai_cond_mono (fun x => ⟨x.1, hC _ _ _ _ _ (fun v h y => ⟨y.1, hP _ _ _ _ _ _ y.2⟩) x.2⟩) x | exact ai_cond_mono2 (fun x => ⟨x.1, hP _ _ _ _ _ _ x.2⟩) (ai_cond_mono (fun x => ⟨x.1, hP _ _ _ _ _ _ x.2⟩)) x | exact x.elim))
theorem m_lt0 (a b : Nat) : ai_M (op_lt0 a b) := by
  intro C hC Q Q' P P' hQ hP u w lo st h x
  unfold op_lt0 at x ⊢
  first
    | (first | exact hP _ _ _ _ _ _ x | exact hQ _ _ x | exact ⟨fun q => hP _ _ _ _ _ _ (x.1 q), fun q => hP _ _ _ _ _ _ (x.2 q)⟩ | exact ⟨x.1, hP _ _ _ _ _ _ x.2⟩ | exact ⟨x.1, hC _ _ _ _ _ (fun v h y => hP _ _ _ _ _ _ y) x.2⟩ | exact ai_cond_mono (fun x => hP _ _ _ _ _ _ x) x | exact ai_cond_mono (fun x => ⟨x.1, hP _ _ _ _ _ _ x.2⟩) x | exact ai_cond_mono (fun x => ⟨x.1, hC _ _ _ _ _ (fun v h y => hP _ _ _ _ _ _ y) x.2⟩) x | exact ai_cond_mono (fun x => ⟨x.1, hC _ _ _ _ _ (fun v h y => ⟨y.1, hP _ _ _ _ _ _ y.2⟩) x.2⟩) x | exact ai_cond_mono2 (fun x => ⟨x.1, hP _ _ _ _ _ _ x.2⟩) (ai_cond_mono (fun x => ⟨x.1, hP _ _ _ _ _ _ x.2⟩)) x | exact x.elim)
    | (split at x <;> (first | exact hP _ _ _ _ _ _ x | exact hQ _ _ x | exact ⟨fun q => hP _ _ _ _ _ _ (x.1 q), fun q => hP _ _ _ _ _ _ (x.2 q)⟩ | exact ⟨x.1, hP _ _ _ _ _ _ x.2⟩ | exact ⟨x.1, hC _ _ _ _ _ (fun v h y => hP _ _ _ _ _ _ y) x.2⟩ | exact ai_cond_mono (fun x => hP _ _ _ _ _ _ x) x | exact ai_cond_mono (fun x => ⟨x.1, hP _ _ _ _ _ _ x.2⟩) x | exact ai_cond_mono (fun x => ⟨x.1, hC _ _ _ _ _ (fun v h y => hP _ _ _ _ _ _ y) x.2⟩) x | exact ai_cond_mono (fun x => ⟨x.1, hC _ _ _ _ _ (fun v h y => ⟨y.1, hP _ _ _ _ _ _ y.2⟩) x.2⟩) x | exact ai_cond_mono2 (fun x => ⟨x.1, hP _ _ _ _ _ _ x.2⟩) (ai_cond_mono (fun x => ⟨x.1, hP _ _ _ _ _ _ x.2⟩)) x | exact x.elim))
theorem m_gt0 (a b : Nat) : ai_M (op_gt0 a b) := by
  intro C hC Q Q' P P' hQ hP u w lo st h x
  unfold op_gt0 at x ⊢
  first
    | (first | exact hP _ _ _ _ _ _ x | exact hQ _ _ x | exact ⟨fun q => hP _ _ _ _ _ _ (x.1 q), fun q => hP _ _ _ _ _ _ (x.2 q)⟩ | exact ⟨x.1, hP _ _ _ _ _ _ x.2⟩ | exact ⟨x.1, hC _ _ _ _ _ (fun v h y => hP _ _ _ _ _ _ y) x.2⟩ | exact ai_cond_mono (fun x => hP _ _ _ _ _ _ x) x | exact ai_cond_mono (fun x => ⟨x.1, hP _ _ _ _ _ _ x.2⟩) x | exact ai_cond_mono (fun x => ⟨x.1, hC _ _ _ _ _ (fun v h y => hP _ _ _ _ _ _ y) x.2⟩) x | exact ai_cond_mono (fun x => ⟨x.1, hC _ _ _ _ _ (fun v h y => ⟨y.1, hP _ _ _ _ _ _ y.2⟩) x.2⟩) x | exact ai_cond_mono2 (fun x => ⟨x.1, hP _ _ _ _ _ _ x.2⟩) (ai_cond_mono (fun x => ⟨x.1, hP _ _ _ _ _ _ x.2⟩)) x | exact x.elim)
    | (split at x <;> (first | exact hP _ _ _ _ _ _ x | exact hQ _ _ x | exact ⟨fun q => hP _ _ _ _ _ _ (x.1 q), fun q => hP _ _ _ _ _ _ (x.2 q)⟩ | exact ⟨x.1, hP _ _ _ _ _ _ x.2⟩ | exact ⟨x.1, hC _ _ _ _ _ (fun v h y => hP _ _ _ _ _ _ y) x.2⟩ | exact ai_cond_mono (fun x => hP _ _ _ _ _ _ x) x | exact ai_cond_mono (fun x => ⟨x.1, hP _ _ _ _ _ _ x.2⟩) x | exact ai_cond_mono (fun x => ⟨x.1, hC _ _ _ _ _ (fun v h y => hP _ _ _ _ _ _ y) x.2⟩) x | exact ai_cond_mono (fun x => ⟨x.1, hC _ _ _ _ _ (fun v h y => ⟨y.1, hP _ _ _ _ _ _ y.2⟩) x.2⟩) x | exact ai_cond_mono2 (fun x => ⟨x.1, hP _ _ _ _ _ _ x.2⟩) (ai_cond_mono (fun x => ⟨x.1, hP _ _ _ _ _ _ x.2⟩)) x | exact x.elim))
theorem m_eq0 (a b : Nat) : ai_M (op_eq0 a b) := by
  intro C hC Q Q' P P' hQ hP u w lo st h x
  unfold op_eq0 at x ⊢
  first
    | (first | exact hP _ _ _ _ _ _ x | exact hQ _ _ x | exact ⟨fun q => hP _ _ _ _ _ _ (x.1 q), fun q => hP _ _ _ _ _ _ (x.2 q)⟩ | exact ⟨x.1, hP _ _ _ _ _ _ x.2⟩ | exact ⟨x.1, hC _ _ _ _ _ (fun v h y => hP _ _ _ _ _ _ y) x.2⟩ | exact ai_cond_mono (fun x => hP _ _ _ _ _ _ x) x | exact ai_cond_mono (fun x => ⟨x.1, hP _ _ _ _ _ _ x.2⟩) x | exact ai_cond_mono (fun x => ⟨x.1, hC _ _ _ _ _ (fun v h y => hP _ _ _ _ _ _ y) x.2⟩) x | exact ai_cond_mono (fun x => ⟨x.1, hC _ _ _ _ _ (fun v h y => ⟨y.1, hP _ _ _ _ _ _ y.2⟩) x.2⟩) x | exact ai_cond_mono2 (fun x => ⟨x.1, hP _ _ _ _ _ _ x.2⟩) (ai_cond_mono (fun x => ⟨x.1, hP _ _ _ _ _ _ x.2⟩)) x | exact x.elim)
    | (split at x <;> (first | exact hP _ _ _ _ _ _ x | exact hQ _ _ x | exact ⟨fun q => hP _ _ _ _ _ _ (x.1 q), fun q => hP _ _ _ _ _ _ (x.2 q)⟩ | exact ⟨x.1, hP _ _ _ _ _ _ x.2⟩ | exact ⟨x.1, hC _ _ _ _ _ (fun v h y => hP _ _ _ _ _ _ y) x.2⟩ | exact ai_cond_mono (fun x => hP _ _ _ _ _ _ x) x | exact ai_cond_mono (fun x => ⟨x.1, hP _ _ _ _ _ _ x.2⟩) x | exact ai_cond_mono (fun x => ⟨x.1, hC _ _ _ _ _ (fun v h y => hP _ _ _ _ _ _ y) x.2⟩) x | exact ai_cond_mono (fun x => ⟨x.1, hC _ _ _ _ _ (fun v h y => ⟨y.1, hP _ _ _ _ _ _ y.2⟩) x.2⟩) x | exact ai_cond_mono2 (fun x => ⟨x.1, hP _ _ _ _ _ _ x.2⟩) (ai_cond_mono (fun x => ⟨x.1, hP _ _ _ _ _ _ x.2⟩)) x | exact x.elim))
theorem m_goto (nx : Nat) : ai_M (op_goto nx) := by
  intro C hC Q Q' P P' hQ hP u w lo st h x
  unfold op_goto at x ⊢
  first
    | (first | exact hP _ _ _ _ _ _ x | exact hQ _ _ x | exact ⟨fun q => hP _ _ _ _ _ _ (x.1 q), fun q => hP _ _ _ _ _ _ (x.2 q)⟩ | exact ⟨x.1, hP _ _ _ _ _ _ x.2⟩ | exact ⟨x.1, hC _ _ _ _ _ (fun v h y => hP _ _ _ _ _ _ y) x.2⟩ | exact ai_cond_mono (fun x => hP _ _ _ _ _ _ x) x | exact ai_cond_mono (fun x => ⟨x.1, hP _ _ _ _ _ _ x.2⟩) x | exact ai_cond_mono (fun x => ⟨x.1, hC _ _ _ _ _ (fun v h y => hP _ _ _ _ _ _ y) x.2⟩) x | exact ai_cond_mono (fun x => ⟨x.1, hC _ _ _ _ _ (fun v h y => ⟨y.1, hP _ _ _ _ _ _ y.2⟩) x.2⟩) x | exact ai_cond_mono2 (fun x => ⟨x.1, hP _ _ _ _ _ _ x.2⟩) (ai_cond_mono (fun x => ⟨x.1, hP _ _ _ _ _ _ x.2⟩)) x | exact x.elim)
    | (split at x <;> (first | exact hP _ _ _ _ _ _ x | exact hQ _ _ x | exact ⟨fun q => hP _ _ _ _ _ _ (x.1 q), fun q => hP _ _ _ _ _ _ (x.2 q)⟩ | exact ⟨x.1, hP _ _ _ _ _ _ x.2⟩ | exact ⟨x.1, hC _ _ _ _ _ (fun v h y => hP _ _ _ _ _ _ y) x.2⟩ | exact ai_cond_mono (fun x => hP _ _ _ _ _ _ x) x | exact ai_cond_mono (fun x => ⟨x.1, hP _ _ _ _ _ _ x.2⟩) x | exact ai_cond_mono (fun x => ⟨x.1, hC _ _ _ _ _ (fun v h y => hP _ _ _ _ _ _ y) x.2⟩) x | exact ai_cond_mono (fun x => ⟨x.1, hC _ _ _ _ _ (fun v h y => ⟨y.1, hP _ _ _ _ _ _ y.2⟩) x.2⟩) x | exact ai_cond_mono2 (fun x => ⟨x.1, hP _ _ _ _ _ _ x.2⟩) (ai_cond_mono (fun x => ⟨x.1, hP _ _ _ _ _ _ x.2⟩)) x | exact x.elim))
theorem m_dup (nx : Nat) : ai_M (op_dup nx) := by
  intro C hC Q Q' P P' hQ hP u w lo st h x
  unfold op_dup at x ⊢
  first
    | (first | exact hP _ _ _ _ _ _ x | exact hQ _ _ x | exact ⟨fun q => hP _ _ _ _ _ _ (x.1 q), fun q => hP _ _ _ _ _ _ (x.2 q)⟩ | exact ⟨x.1, hP _ _ _ _ _ _ x.2⟩ | exact ⟨x.1, hC _ _ _ _ _ (fun v h y => hP _ _ _ _ _ _ y) x.2⟩ | exact ai_cond_mono (fun x => hP _ _ _ _ _ _ x) x | exact ai_cond_mono (fun x => ⟨x.1, hP _ _ _ _ _ _ x.2⟩) x | exact ai_cond_mono (fun x => ⟨x.1, hC _ _ _ _ _ (fun v h y => hP _ _ _ _ _ _ y) x.2⟩) x | exact ai_cond_mono (fun x => ⟨x.1, hC _ _ _ _ _ (fun v h y => ⟨y.1, hP _ _ _ _ _ _ y.2⟩) x.2⟩) x | exact ai_cond_mono2 (fun x => ⟨x.1, hP _ _ _ _ _ _ x.2⟩) (ai_cond_mono (fun x => ⟨x.1, hP _ _ _ _ _ _ x.2⟩)) x | exact x.elim)
    | (split at x <;> (first | exact hP _ _ _ _ _ _ x | exact hQ _ _ x | exact ⟨fun q => hP _ _ _ _ _ _ (x.1 q), fun q => hP _ _ _ _ _ _ (x.2 q)⟩ | exact ⟨x.1, hP _ _ _ _ _ _ x.2⟩ | exact ⟨x.1, hC _ _ _ _ _ (fun v h y => hP _ _ _ _ _ _ y) x.2⟩ | exact ai_cond_mono (fun x => hP _ _ _ _ _ _ x) x | exact ai_cond_mono (fun x => ⟨x.1, hP _ _ _ _ _ _ x.2⟩) x | exact ai_cond_mono (fun x => ⟨x.1, hC _ _ _ _ _ (fun v h y => hP _ _ _ _ _ _ y) x.2⟩) x | exact ai_cond_mono (fun x => ⟨x.1, hC _ _ _ _ _ (fun v h y => ⟨y.1, hP _ _ _ _ _ _ y.2⟩) x.2⟩) x | exact ai_cond_mono2 (fun x => ⟨x.1, hP _ _ _ _ _ _ x.2⟩) (ai_cond_mono (fun x => ⟨x.1, hP _ _ _ _ _ _ x.2⟩)) x | exact x.elim))
theorem m_dup2 (nx : Nat) : ai_M (op_dup2 nx) := by
  intro C hC Q Q' P P' hQ hP u w lo st h x
  unfold op_dup2 at x ⊢
  first
    | (first | exact hP _ _ _ _ _ _ x | exact hQ _ _ x | exact ⟨fun q => hP _ _ _ _ _ _ (x.1 q), fun q => hP _ _ _ _ _ _ (x.2 q)⟩ | exact ⟨x.1, hP _ _ _ _ _ _ x.2⟩ | exact ⟨x.1, hC _ _ _ _ _ (fun v h y => hP _ _ _ _ _ _ y) x.2⟩ | exact ai_cond_mono (fun x => hP _ _ _ _ _ _ x) x | exact ai_cond_mono (fun x => ⟨x.1, hP _ _ _ _ _ _ x.2⟩) x | exact ai_cond_mono (fun x => ⟨x.1, hC _ _ _ _ _ (fun v h y => hP _ _ _ _ _ _ y) x.2⟩) x | exact ai_cond_mono (fun x => ⟨x.1, hC _ _ _ _ _ (fun v h y => ⟨y.1, hP _ _ _ _ _ _ y.2⟩) x.2⟩) x | exact ai_cond_mono2 (fun x => ⟨x.1, hP _ _ _ _ _ _ x.2⟩) (ai_cond_mono (fun x => ⟨x.1, hP _ _ _ _ _ _ x.2⟩)) x | exact x.elim)
    | (split at x <;> (first | exact hP _ _ _ _ _ _ x | exact hQ _ _ x | exact ⟨fun q => hP _ _ _ _ _ _ (x.1 q), fun q => hP _ _ _ _ _ _ (x.2 q)⟩ | exact ⟨x.1, hP _ _ _ _ _ _ x.2⟩ | exact ⟨x.1, hC _ _ _ _ _ (fun v h y => hP _ _ _ _ _ _ y) x.2⟩ | exact ai_cond_mono (fun x => hP _ _ _ _ _ _ x) x | exact ai_cond_mono (fun x => ⟨x.1, hP _ _ _ _ _ _ x.2⟩) x | exact ai_cond_mono (fun x => ⟨x.1, hC _ _ _ _ _ (fun v h y => hP _ _ _ _ _ _ y) x.2⟩) x | exact ai_cond_mono (fun x => ⟨x.1, hC _ _ _ _ _ (fun v h y => ⟨y.1, hP _ _ _ _ _ _ y.2⟩) x.2⟩) x | exact ai_cond_mono2 (fun x => ⟨x.1, hP _ _ _ _ _ _ x.2⟩) (ai_cond_mono (fun x => ⟨x.1, hP _ _ _ _ _ _ x.2⟩)) x | exact x.elim))
theorem m_pop (nx : Nat) : ai_M (op_pop nx) := by
  intro C hC Q Q' P P' hQ hP u w lo st h x
  unfold op_pop at x ⊢
  first
    | (first | exact hP _ _ _ _ _ _ x | exact hQ _ _ x | exact ⟨fun q => hP _ _ _ _ _ _ (x.1 q), fun q => hP _ _ _ _ _ _ (x.2 q)⟩ | exact ⟨x.1, hP _ _ _ _ _ _ x.2⟩ | exact ⟨x.1, hC _ _ _ _ _ (fun v h y => hP _ _ _ _ _ _ y) x.2⟩ | exact ai_cond_mono (fun x => hP _ _ _ _ _ _ x) x | exact ai_cond_mono (fun x => ⟨x.1, hP _ _ _ _ _ _ x.2⟩) x | exact ai_cond_mono (fun x => ⟨x.1, hC _ _ _ _ _ (fun v h y => hP _ _ _ _ _ _ y) x.2⟩) x | exact ai_cond_mono (fun x => ⟨x.1, hC _ _ _ _ _ (fun v h y => ⟨y.1, hP _ _ _ _ _ _ y.2⟩) x.2⟩) x | exact ai_cond_mono2 (fun x => ⟨x.1, hP _ _ _ _ _ _ x.2⟩) (ai_cond_mono (fun x => ⟨x.1, hP _ _ _ _ _ _ x.2⟩)) x | exact x.elim)
    | (split at x <;> (first | exact hP _ _ _ _ _ _ x | exact hQ _ _ x | exact ⟨fun q => hP _ _ _ _ _ _ (x.1 q), fun q => hP _ _ _ _ _ _ (x.2 q)⟩ | exact ⟨x.1, hP _ _ _ _ _ _ x.2⟩ | exact ⟨x.1, hC _ _ _ _ _ (fun v h y => hP _ _ _ _ _ _ y) x.2⟩ | exact ai_cond_mono (fun x => hP _ _ _ _ _ _ x) x | exact ai_cond_mono (fun x => ⟨x.1, hP _ _ _ _ _ _ x.2⟩) x | exact ai_cond_mono (fun x => ⟨x.1, hC _ _ _ _ _ (fun v h y => hP _ _ _ _ _ _ y) x.2⟩) x | exact ai_cond_mono (fun x => ⟨x.1, hC _ _ _ _ _ (fun v h y => ⟨y.1, hP _ _ _ _ _ _ y.2⟩) x.2⟩) x | exact ai_cond_mono2 (fun x => ⟨x.1, hP _ _ _ _ _ _ x.2⟩) (ai_cond_mono (fun x => ⟨x.1, hP _ _ _ _ _ _ x.2⟩)) x | exact x.elim))
theorem m_getI (c j nx : Nat) : ai_M (op_getI c j nx) := by
  intro C hC Q Q' P P' hQ hP u w lo st h x
  unfold op_getI at x ⊢
  first
    | (first | exact hP _ _ _ _ _ _ x | exact hQ _ _ x | exact ⟨fun q => hP _ _ _ _ _ _ (x.1 q), fun q => hP _ _ _ _ _ _ (x.2 q)⟩ | exact ⟨x.1, hP _ _ _ _ _ _ x.2⟩ | exact ⟨x.1, hC _ _ _ _ _ (fun v h y => hP _ _ _ _ _ _ y) x.2⟩ | exact ai_cond_mono (fun x => hP _ _ _ _ _ _ x) x | exact ai_cond_mono (fun x => ⟨x.1, hP _ _ _ _ _ _ x.2⟩) x | exact ai_cond_mono (fun x => ⟨x.1, hC _ _ _ _ _ (fun v h y => hP _ _ _ _ _ _ y) x.2⟩) x | exact ai_cond_mono (fun x => ⟨x.1, hC _ _ _ _ _ (fun v h y => ⟨y.1, hP _ _ _ _ _ _ y.2⟩) x.2⟩) x | exact ai_cond_mono2 (fun x => ⟨x.1, hP _ _ _ _ _ _ x.2⟩) (ai_cond_mono (fun x => ⟨x.1, hP _ _ _ _ _ _ x.2⟩)) x | exact x.elim)
    | (split at x <;> (first | exact hP _ _ _ _ _ _ x | exact hQ _ _ x | exact ⟨fun q => hP _ _ _ _ _ _ (x.1 q), fun q => hP _ _ _ _ _ _ (x.2 q)⟩ | exact ⟨x.1, hP _ _ _ _ _ _ x.2⟩ | exact ⟨x.1, hC _ _ _ _ _ (fun v h y => hP _ _ _ _ _ _ y) x.2⟩ | exact ai_cond_mono (fun x => hP _ _ _ _ _ _ x) x | exact ai_cond_mono (fun x => ⟨x.1, hP _ _ _ _ _ _ x.2⟩) x | exact ai_cond_mono (fun x => ⟨x.1, hC _ _ _ _ _ (fun v h y => hP _ _ _ _ _ _ y) x.2⟩) x | exact ai_cond_mono (fun x => ⟨x.1, hC _ _ _ _ _ (fun v h y => ⟨y.1, hP _ _ _ _ _ _ y.2⟩) x.2⟩) x | exact ai_cond_mono2 (fun x => ⟨x.1, hP _ _ _ _ _ _ x.2⟩) (ai_cond_mono (fun x => ⟨x.1, hP _ _ _ _ _ _ x.2⟩)) x | exact x.elim))
theorem m_getL (c j nx : Nat) : ai_M (op_getL c j nx) := by
  intro C hC Q Q' P P' hQ hP u w lo st h x
  unfold op_getL at x ⊢
  first
    | (first | exact hP _ _ _ _ _ _ x | exact hQ _ _ x | exact ⟨fun q => hP _ _ _ _ _ _ (x.1 q), fun q => hP _ _ _ _ _ _ (x.2 q)⟩ | exact ⟨x.1, hP _ _ _ _ _ _ x.2⟩ | exact ⟨x.1, hC _ _ _ _ _ (fun v h y => hP _ _ _ _ _ _ y) x.2⟩ | exact ai_cond_mono (fun x => hP _ _ _ _ _ _ x) x | exact ai_cond_mono (fun x => ⟨x.1, hP _ _ _ _ _ _ x.2⟩) x | exact ai_cond_mono (fun x => ⟨x.1, hC _ _ _ _ _ (fun v h y => hP _ _ _ _ _ _ y) x.2⟩) x | exact ai_cond_mono (fun x => ⟨x.1, hC _ _ _ _ _ (fun v h y => ⟨y.1, hP _ _ _ _ _ _ y.2⟩) x.2⟩) x | exact ai_cond_mono2 (fun x => ⟨x.1, hP _ _ _ _ _ _ x.2⟩) (ai_cond_mono (fun x => ⟨x.1, hP _ _ _ _ _ _ x.2⟩)) x | exact x.elim)
    | (split at x <;> (first | exact hP _ _ _ _ _ _ x | exact hQ _ _ x | exact ⟨fun q => hP _ _ _ _ _ _ (x.1 q), fun q => hP _ _ _ _ _ _ (x.2 q)⟩ | exact ⟨x.1, hP _ _ _ _ _ _ x.2⟩ | exact ⟨x.1, hC _ _ _ _ _ (fun v h y => hP _ _ _ _ _ _ y) x.2⟩ | exact ai_cond_mono (fun x => hP _ _ _ _ _ _ x) x | exact ai_cond_mono (fun x => ⟨x.1, hP _ _ _ _ _ _ x.2⟩) x | exact ai_cond_mono (fun x => ⟨x.1, hC _ _ _ _ _ (fun v h y => hP _ _ _ _ _ _ y) x.2⟩) x | exact ai_cond_mono (fun x => ⟨x.1, hC _ _ _ _ _ (fun v h y => ⟨y.1, hP _ _ _ _ _ _ y.2⟩) x.2⟩) x | exact ai_cond_mono2 (fun x => ⟨x.1, hP _ _ _ _ _ _ x.2⟩) (ai_cond_mono (fun x => ⟨x.1, hP _ _ _ _ _ _ x.2⟩)) x | exact x.elim))
theorem m_getR (c j t nx : Nat) : ai_M (op_getR c j t nx) := by
  intro C hC Q Q' P P' hQ hP u w lo st h x
  unfold op_getR at x ⊢
  split at x
  · refine ai_cond_mono (fun x => ?_) x
    split at x
    · exact x.elim
    · exact hP _ _ _ _ _ _ x
  · exact x.elim
theorem m_putI (t c j nx : Nat) : ai_M (op_putI t c j nx) := by
  intro C hC Q Q' P P' hQ hP u w lo st h x
  unfold op_putI at x ⊢
  first
    | (first | exact hP _ _ _ _ _ _ x | exact hQ _ _ x | exact ⟨fun q => hP _ _ _ _ _ _ (x.1 q), fun q => hP _ _ _ _ _ _ (x.2 q)⟩ | exact ⟨x.1, hP _ _ _ _ _ _ x.2⟩ | exact ⟨x.1, hC _ _ _ _ _ (fun v h y => hP _ _ _ _ _ _ y) x.2⟩ | exact ai_cond_mono (fun x => hP _ _ _ _ _ _ x) x | exact ai_cond_mono (fun x => ⟨x.1, hP _ _ _ _ _ _ x.2⟩) x | exact ai_cond_mono (fun x => ⟨x.1, hC _ _ _ _ _ (fun v h y => hP _ _ _ _ _ _ y) x.2⟩) x | exact ai_cond_mono (fun x => ⟨x.1, hC _ _ _ _ _ (fun v h y => ⟨y.1, hP _ _ _ _ _ _ y.2⟩) x.2⟩) x | exact ai_cond_mono2 (fun x => ⟨x.1, hP _ _ _ _ _ _ x.2⟩) (ai_cond_mono (fun x => ⟨x.1, hP _ _ _ _ _ _ x.2⟩)) x | exact x.elim)
    | (split at x <;> (first | exact hP _ _ _ _ _ _ x | exact hQ _ _ x | exact ⟨fun q => hP _ _ _ _ _ _ (x.1 q), fun q => hP _ _ _ _ _ _ (x.2 q)⟩ | exact ⟨x.1, hP _ _ _ _ _ _ x.2⟩ | exact ⟨x.1, hC _ _ _ _ _ (fun v h y => hP _ _ _ _ _ _ y) x.2⟩ | exact ai_cond_mono (fun x => hP _ _ _ _ _ _ x) x | exact ai_cond_mono (fun x => ⟨x.1, hP _ _ _ _ _ _ x.2⟩) x | exact ai_cond_mono (fun x => ⟨x.1, hC _ _ _ _ _ (fun v h y => hP _ _ _ _ _ _ y) x.2⟩) x | exact ai_cond_mono (fun x => ⟨x.1, hC _ _ _ _ _ (fun v h y => ⟨y.1, hP _ _ _ _ _ _ y.2⟩) x.2⟩) x | exact ai_cond_mono2 (fun x => ⟨x.1, hP _ _ _ _ _ _ x.2⟩) (ai_cond_mono (fun x => ⟨x.1, hP _ _ _ _ _ _ x.2⟩)) x | exact x.elim))
theorem m_putL (c j nx : Nat) : ai_M (op_putL c j nx) := by
  intro C hC Q Q' P P' hQ hP u w lo st h x
  unfold op_putL at x ⊢
  first
    | (first | exact hP _ _ _ _ _ _ x | exact hQ _ _ x | exact ⟨fun q => hP _ _ _ _ _ _ (x.1 q), fun q => hP _ _ _ _ _ _ (x.2 q)⟩ | exact ⟨x.1, hP _ _ _ _ _ _ x.2⟩ | exact ⟨x.1, hC _ _ _ _ _ (fun v h y => hP _ _ _ _ _ _ y) x.2⟩ | exact ai_cond_mono (fun x => hP _ _ _ _ _ _ x) x | exact ai_cond_mono (fun x => ⟨x.1, hP _ _ _ _ _ _ x.2⟩) x | exact ai_cond_mono (fun x => ⟨x.1, hC _ _ _ _ _ (fun v h y => hP _ _ _ _ _ _ y) x.2⟩) x | exact ai_cond_mono (fun x => ⟨x.1, hC _ _ _ _ _ (fun v h y => ⟨y.1, hP _ _ _ _ _ _ y.2⟩) x.2⟩) x | exact ai_cond_mono2 (fun x => ⟨x.1, hP _ _ _ _ _ _ x.2⟩) (ai_cond_mono (fun x => ⟨x.1, hP _ _ _ _ _ _ x.2⟩)) x | exact x.elim)
    | (split at x <;> (first | exact hP _ _ _ _ _ _ x | exact hQ _ _ x | exact ⟨fun q => hP _ _ _ _ _ _ (x.1 q), fun q => hP _ _ _ _ _ _ (x.2 q)⟩ | exact ⟨x.1, hP _ _ _ _ _ _ x.2⟩ | exact ⟨x.1, hC _ _ _ _ _ (fun v h y => hP _ _ _ _ _ _ y) x.2⟩ | exact ai_cond_mono (fun x => hP _ _ _ _ _ _ x) x | exact ai_cond_mono (fun x => ⟨x.1, hP _ _ _ _ _ _ x.2⟩) x | exact ai_cond_mono (fun x => ⟨x.1, hC _ _ _ _ _ (fun v h y => hP _ _ _ _ _ _ y) x.2⟩) x | exact ai_cond_mono (fun x => ⟨x.1, hC _ _ _ _ _ (fun v h y => ⟨y.1, hP _ _ _ _ _ _ y.2⟩) x.2⟩) x | exact ai_cond_mono2 (fun x => ⟨x.1, hP _ _ _ _ _ _ x.2⟩) (ai_cond_mono (fun x => ⟨x.1, hP _ _ _ _ _ _ x.2⟩)) x | exact x.elim))
theorem m_putR (c j t nx : Nat) : ai_M (op_putR c j t nx) := by
  intro C hC Q Q' P P' hQ hP u w lo st h x
  unfold op_putR at x ⊢
  first
    | (first | exact hP _ _ _ _ _ _ x | exact hQ _ _ x | exact ⟨fun q => hP _ _ _ _ _ _ (x.1 q), fun q => hP _ _ _ _ _ _ (x.2 q)⟩ | exact ⟨x.1, hP _ _ _ _ _ _ x.2⟩ | exact ⟨x.1, hC _ _ _ _ _ (fun v h y => hP _ _ _ _ _ _ y) x.2⟩ | exact ai_cond_mono (fun x => hP _ _ _ _ _ _ x) x | exact ai_cond_mono (fun x => ⟨x.1, hP _ _ _ _ _ _ x.2⟩) x | exact ai_cond_mono (fun x => ⟨x.1, hC _ _ _ _ _ (fun v h y => hP _ _ _ _ _ _ y) x.2⟩) x | exact ai_cond_mono (fun x => ⟨x.1, hC _ _ _ _ _ (fun v h y => ⟨y.1, hP _ _ _ _ _ _ y.2⟩) x.2⟩) x | exact ai_cond_mono2 (fun x => ⟨x.1, hP _ _ _ _ _ _ x.2⟩) (ai_cond_mono (fun x => ⟨x.1, hP _ _ _ _ _ _ x.2⟩)) x | exact x.elim)
    | (split at x <;> (first | exact hP _ _ _ _ _ _ x | exact hQ _ _ x | exact ⟨fun q => hP _ _ _ _ _ _ (x.1 q), fun q => hP _ _ _ _ _ _ (x.2 q)⟩ | exact ⟨x.1, hP _ _ _ _ _ _ x.2⟩ | exact ⟨x.1, hC _ _ _ _ _ (fun v h y => hP _ _ _ _ _ _ y) x.2⟩ | exact ai_cond_mono (fun x => hP _ _ _ _ _ _ x) x | exact ai_cond_mono (fun x => ⟨x.1, hP _ _ _ _ _ _ x.2⟩) x | exact ai_cond_mono (fun x => ⟨x.1, hC _ _ _ _ _ (fun v h y => hP _ _ _ _ _ _ y) x.2⟩) x | exact ai_cond_mono (fun x => ⟨x.1, hC _ _ _ _ _ (fun v h y => ⟨y.1, hP _ _ _ _ _ _ y.2⟩) x.2⟩) x | exact ai_cond_mono2 (fun x => ⟨x.1, hP _ _ _ _ _ _ x.2⟩) (ai_cond_mono (fun x => ⟨x.1, hP _ _ _ _ _ _ x.2⟩)) x | exact x.elim))
theorem m_iald (nx : Nat) : ai_M (op_iald nx) := by
  intro C hC Q Q' P P' hQ hP u w lo st h x
  unfold op_iald at x ⊢
  first
    | (first | exact hP _ _ _ _ _ _ x | exact hQ _ _ x | exact ⟨fun q => hP _ _ _ _ _ _ (x.1 q), fun q => hP _ _ _ _ _ _ (x.2 q)⟩ | exact ⟨x.1, hP _ _ _ _ _ _ x.2⟩ | exact ⟨x.1, hC _ _ _ _ _ (fun v h y => hP _ _ _ _ _ _ y) x.2⟩ | exact ai_cond_mono (fun x => hP _ _ _ _ _ _ x) x | exact ai_cond_mono (fun x => ⟨x.1, hP _ _ _ _ _ _ x.2⟩) x | exact ai_cond_mono (fun x => ⟨x.1, hC _ _ _ _ _ (fun v h y => hP _ _ _ _ _ _ y) x.2⟩) x | exact ai_cond_mono (fun x => ⟨x.1, hC _ _ _ _ _ (fun v h y => ⟨y.1, hP _ _ _ _ _ _ y.2⟩) x.2⟩) x | exact ai_cond_mono2 (fun x => ⟨x.1, hP _ _ _ _ _ _ x.2⟩) (ai_cond_mono (fun x => ⟨x.1, hP _ _ _ _ _ _ x.2⟩)) x | exact x.elim)
    | (split at x <;> (first | exact hP _ _ _ _ _ _ x | exact hQ _ _ x | exact ⟨fun q => hP _ _ _ _ _ _ (x.1 q), fun q => hP _ _ _ _ _ _ (x.2 q)⟩ | exact ⟨x.1, hP _ _ _ _ _ _ x.2⟩ | exact ⟨x.1, hC _ _ _ _ _ (fun v h y => hP _ _ _ _ _ _ y) x.2⟩ | exact ai_cond_mono (fun x => hP _ _ _ _ _ _ x) x | exact ai_cond_mono (fun x => ⟨x.1, hP _ _ _ _ _ _ x.2⟩) x | exact ai_cond_mono (fun x => ⟨x.1, hC _ _ _ _ _ (fun v h y => hP _ _ _ _ _ _ y) x.2⟩) x | exact ai_cond_mono (fun x => ⟨x.1, hC _ _ _ _ _ (fun v h y => ⟨y.1, hP _ _ _ _ _ _ y.2⟩) x.2⟩) x | exact ai_cond_mono2 (fun x => ⟨x.1, hP _ _ _ _ _ _ x.2⟩) (ai_cond_mono (fun x => ⟨x.1, hP _ _ _ _ _ _ x.2⟩)) x | exact x.elim))
theorem m_bald (nx : Nat) : ai_M (op_bald nx) := by
  intro C hC Q Q' P P' hQ hP u w lo st h x
  unfold op_bald at x ⊢
  first
    | (first | exact hP _ _ _ _ _ _ x | exact hQ _ _ x | exact ⟨fun q => hP _ _ _ _ _ _ (x.1 q), fun q => hP _ _ _ _ _ _ (x.2 q)⟩ | exact ⟨x.1, hP _ _ _ _ _ _ x.2⟩ | exact ⟨x.1, hC _ _ _ _ _ (fun v h y => hP _ _ _ _ _ _ y) x.2⟩ | exact ai_cond_mono (fun x => hP _ _ _ _ _ _ x) x | exact ai_cond_mono (fun x => ⟨x.1, hP _ _ _ _ _ _ x.2⟩) x | exact ai_cond_mono (fun x => ⟨x.1, hC _ _ _ _ _ (fun v h y => hP _ _ _ _ _ _ y) x.2⟩) x | exact ai_cond_mono (fun x => ⟨x.1, hC _ _ _ _ _ (fun v h y => ⟨y.1, hP _ _ _ _ _ _ y.2⟩) x.2⟩) x | exact ai_cond_mono2 (fun x => ⟨x.1, hP _ _ _ _ _ _ x.2⟩) (ai_cond_mono (fun x => ⟨x.1, hP _ _ _ _ _ _ x.2⟩)) x | exact x.elim)
    | (split at x <;> (first | exact hP _ _ _ _ _ _ x | exact hQ _ _ x | exact ⟨fun q => hP _ _ _ _ _ _ (x.1 q), fun q => hP _ _ _ _ _ _ (x.2 q)⟩ | exact ⟨x.1, hP _ _ _ _ _ _ x.2⟩ | exact ⟨x.1, hC _ _ _ _ _ (fun v h y => hP _ _ _ _ _ _ y) x.2⟩ | exact ai_cond_mono (fun x => hP _ _ _ _ _ _ x) x | exact ai_cond_mono (fun x => ⟨x.1, hP _ _ _ _ _ _ x.2⟩) x | exact ai_cond_mono (fun x => ⟨x.1, hC _ _ _ _ _ (fun v h y => hP _ _ _ _ _ _ y) x.2⟩) x | exact ai_cond_mono (fun x => ⟨x.1, hC _ _ _ _ _ (fun v h y => ⟨y.1, hP _ _ _ _ _ _ y.2⟩) x.2⟩) x | exact ai_cond_mono2 (fun x => ⟨x.1, hP _ _ _ _ _ _ x.2⟩) (ai_cond_mono (fun x => ⟨x.1, hP _ _ _ _ _ _ x.2⟩)) x | exact x.elim))
theorem m_lald (nx : Nat) : ai_M (op_lald nx) := by
  intro C hC Q Q' P P' hQ hP u w lo st h x
  unfold op_lald at x ⊢
  first
    | (first | exact hP _ _ _ _ _ _ x | exact hQ _ _ x | exact ⟨fun q => hP _ _ _ _ _ _ (x.1 q), fun q => hP _ _ _ _ _ _ (x.2 q)⟩ | exact ⟨x.1, hP _ _ _ _ _ _ x.2⟩ | exact ⟨x.1, hC _ _ _ _ _ (fun v h y => hP _ _ _ _ _ _ y) x.2⟩ | exact ai_cond_mono (fun x => hP _ _ _ _ _ _ x) x | exact ai_cond_mono (fun x => ⟨x.1, hP _ _ _ _ _ _ x.2⟩) x | exact ai_cond_mono (fun x => ⟨x.1, hC _ _ _ _ _ (fun v h y => hP _ _ _ _ _ _ y) x.2⟩) x | exact ai_cond_mono (fun x => ⟨x.1, hC _ _ _ _ _ (fun v h y => ⟨y.1, hP _ _ _ _ _ _ y.2⟩) x.2⟩) x | exact ai_cond_mono2 (fun x => ⟨x.1, hP _ _ _ _ _ _ x.2⟩) (ai_cond_mono (fun x => ⟨x.1, hP _ _ _ _ _ _ x.2⟩)) x | exact x.elim)
    | (split at x <;> (first | exact hP _ _ _ _ _ _ x | exact hQ _ _ x | exact ⟨fun q => hP _ _ _ _ _ _ (x.1 q), fun q => hP _ _ _ _ _ _ (x.2 q)⟩ | exact ⟨x.1, hP _ _ _ _ _ _ x.2⟩ | exact ⟨x.1, hC _ _ _ _ _ (fun v h y => hP _ _ _ _ _ _ y) x.2⟩ | exact ai_cond_mono (fun x => hP _ _ _ _ _ _ x) x | exact ai_cond_mono (fun x => ⟨x.1, hP _ _ _ _ _ _ x.2⟩) x | exact ai_cond_mono (fun x => ⟨x.1, hC _ _ _ _ _ (fun v h y => hP _ _ _ _ _ _ y) x.2⟩) x | exact ai_cond_mono (fun x => ⟨x.1, hC _ _ _ _ _ (fun v h y => ⟨y.1, hP _ _ _ _ _ _ y.2⟩) x.2⟩) x | exact ai_cond_mono2 (fun x => ⟨x.1, hP _ _ _ _ _ _ x.2⟩) (ai_cond_mono (fun x => ⟨x.1, hP _ _ _ _ _ _ x.2⟩)) x | exact x.elim))
theorem m_iast (nx : Nat) : ai_M (op_iast nx) := by
  intro C hC Q Q' P P' hQ hP u w lo st h x
  unfold op_iast at x ⊢
  first
    | (first | exact hP _ _ _ _ _ _ x | exact hQ _ _ x | exact ⟨fun q => hP _ _ _ _ _ _ (x.1 q), fun q => hP _ _ _ _ _ _ (x.2 q)⟩ | exact ⟨x.1, hP _ _ _ _ _ _ x.2⟩ | exact ⟨x.1, hC _ _ _ _ _ (fun v h y => hP _ _ _ _ _ _ y) x.2⟩ | exact ai_cond_mono (fun x => hP _ _ _ _ _ _ x) x | exact ai_cond_mono (fun x => ⟨x.1, hP _ _ _ _ _ _ x.2⟩) x | exact ai_cond_mono (fun x => ⟨x.1, hC _ _ _ _ _ (fun v h y => hP _ _ _ _ _ _ y) x.2⟩) x | exact ai_cond_mono (fun x => ⟨x.1, hC _ _ _ _ _ (fun v h y => ⟨y.1, hP _ _ _ _ _ _ y.2⟩) x.2⟩) x | exact ai_cond_mono2 (fun x => ⟨x.1, hP _ _ _ _ _ _ x.2⟩) (ai_cond_mono (fun x => ⟨x.1, hP _ _ _ _ _ _ x.2⟩)) x | exact x.elim)
    | (split at x <;> (first | exact hP _ _ _ _ _ _ x | exact hQ _ _ x | exact ⟨fun q => hP _ _ _ _ _ _ (x.1 q), fun q => hP _ _ _ _ _ _ (x.2 q)⟩ | exact ⟨x.1, hP _ _ _ _ _ _ x.2⟩ | exact ⟨x.1, hC _ _ _ _ _ (fun v h y => hP _ _ _ _ _ _ y) x.2⟩ | exact ai_cond_mono (fun x => hP _ _ _ _ _ _ x) x | exact ai_cond_mono (fun x => ⟨x.1, hP _ _ _ _ _ _ x.2⟩) x | exact ai_cond_mono (fun x => ⟨x.1, hC _ _ _ _ _ (fun v h y => hP _ _ _ _ _ _ y) x.2⟩) x | exact ai_cond_mono (fun x => ⟨x.1, hC _ _ _ _ _ (fun v h y => ⟨y.1, hP _ _ _ _ _ _ y.2⟩) x.2⟩) x | exact ai_cond_mono2 (fun x => ⟨x.1, hP _ _ _ _ _ _ x.2⟩) (ai_cond_mono (fun x => ⟨x.1, hP _ _ _ _ _ _ x.2⟩)) x | exact x.elim))
theorem m_bast (nx : Nat) : ai_M (op_bast nx) := by
  intro C hC Q Q' P P' hQ hP u w lo st h x
  unfold op_bast at x ⊢
  first
    | (first | exact hP _ _ _ _ _ _ x | exact hQ _ _ x | exact ⟨fun q => hP _ _ _ _ _ _ (x.1 q), fun q => hP _ _ _ _ _ _ (x.2 q)⟩ | exact ⟨x.1, hP _ _ _ _ _ _ x.2⟩ | exact ⟨x.1, hC _ _ _ _ _ (fun v h y => hP _ _ _ _ _ _ y) x.2⟩ | exact ai_cond_mono (fun x => hP _ _ _ _ _ _ x) x | exact ai_cond_mono (fun x => ⟨x.1, hP _ _ _ _ _ _ x.2⟩) x | exact ai_cond_mono (fun x => ⟨x.1, hC _ _ _ _ _ (fun v h y => hP _ _ _ _ _ _ y) x.2⟩) x | exact ai_cond_mono (fun x => ⟨x.1, hC _ _ _ _ _ (fun v h y => ⟨y.1, hP _ _ _ _ _ _ y.2⟩) x.2⟩) x | exact ai_cond_mono2 (fun x => ⟨x.1, hP _ _ _ _ _ _ x.2⟩) (ai_cond_mono (fun x => ⟨x.1, hP _ _ _ _ _ _ x.2⟩)) x | exact x.elim)
    | (split at x <;> (first | exact hP _ _ _ _ _ _ x | exact hQ _ _ x | exact ⟨fun q => hP _ _ _ _ _ _ (x.1 q), fun q => hP _ _ _ _ _ _ (x.2 q)⟩ | exact ⟨x.1, hP _ _ _ _ _ _ x.2⟩ | exact ⟨x.1, hC _ _ _ _ _ (fun v h y => hP _ _ _ _ _ _ y) x.2⟩ | exact ai_cond_mono (fun x => hP _ _ _ _ _ _ x) x | exact ai_cond_mono (fun x => ⟨x.1, hP _ _ _ _ _ _ x.2⟩) x | exact ai_cond_mono (fun x => ⟨x.1, hC _ _ _ _ _ (fun v h y => hP _ _ _ _ _ _ y) x.2⟩) x | exact ai_cond_mono (fun x => ⟨x.1, hC _ _ _ _ _ (fun v h y => ⟨y.1, hP _ _ _ _ _ _ y.2⟩) x.2⟩) x | exact ai_cond_mono2 (fun x => ⟨x.1, hP _ _ _ _ _ _ x.2⟩) (ai_cond_mono (fun x => ⟨x.1, hP _ _ _ _ _ _ x.2⟩)) x | exact x.elim))
theorem m_last (nx : Nat) : ai_M (op_last nx) := by
  intro C hC Q Q' P P' hQ hP u w lo st h x
  unfold op_last at x ⊢
  first
    | (first | exact hP _ _ _ _ _ _ x | exact hQ _ _ x | exact ⟨fun q => hP _ _ _ _ _ _ (x.1 q), fun q => hP _ _ _ _ _ _ (x.2 q)⟩ | exact ⟨x.1, hP _ _ _ _ _ _ x.2⟩ | exact ⟨x.1, hC _ _ _ _ _ (fun v h y => hP _ _ _ _ _ _ y) x.2⟩ | exact ai_cond_mono (fun x => hP _ _ _ _ _ _ x) x | exact ai_cond_mono (fun x => ⟨x.1, hP _ _ _ _ _ _ x.2⟩) x | exact ai_cond_mono (fun x => ⟨x.1, hC _ _ _ _ _ (fun v h y => hP _ _ _ _ _ _ y) x.2⟩) x | exact ai_cond_mono (fun x => ⟨x.1, hC _ _ _ _ _ (fun v h y => ⟨y.1, hP _ _ _ _ _ _ y.2⟩) x.2⟩) x | exact ai_cond_mono2 (fun x => ⟨x.1, hP _ _ _ _ _ _ x.2⟩) (ai_cond_mono (fun x => ⟨x.1, hP _ _ _ _ _ _ x.2⟩)) x | exact x.elim)
    | (split at x <;> (first | exact hP _ _ _ _ _ _ x | exact hQ _ _ x | exact ⟨fun q => hP _ _ _ _ _ _ (x.1 q), fun q => hP _ _ _ _ _ _ (x.2 q)⟩ | exact ⟨x.1, hP _ _ _ _ _ _ x.2⟩ | exact ⟨x.1, hC _ _ _ _ _ (fun v h y => hP _ _ _ _ _ _ y) x.2⟩ | exact ai_cond_mono (fun x => hP _ _ _ _ _ _ x) x | exact ai_cond_mono (fun x => ⟨x.1, hP _ _ _ _ _ _ x.2⟩) x | exact ai_cond_mono (fun x => ⟨x.1, hC _ _ _ _ _ (fun v h y => hP _ _ _ _ _ _ y) x.2⟩) x | exact ai_cond_mono (fun x => ⟨x.1, hC _ _ _ _ _ (fun v h y => ⟨y.1, hP _ _ _ _ _ _ y.2⟩) x.2⟩) x | exact ai_cond_mono2 (fun x => ⟨x.1, hP _ _ _ _ _ _ x.2⟩) (ai_cond_mono (fun x => ⟨x.1, hP _ _ _ _ _ _ x.2⟩)) x | exact x.elim))
theorem m_alen (nx : Nat) : ai_M (op_alen nx) := by
  intro C hC Q Q' P P' hQ hP u w lo st h x
  unfold op_alen at x ⊢
  first
    | (first | exact hP _ _ _ _ _ _ x | exact hQ _ _ x | exact ⟨fun q => hP _ _ _ _ _ _ (x.1 q), fun q => hP _ _ _ _ _ _ (x.2 q)⟩ | exact ⟨x.1, hP _ _ _ _ _ _ x.2⟩ | exact ⟨x.1, hC _ _ _ _ _ (fun v h y => hP _ _ _ _ _ _ y) x.2⟩ | exact ai_cond_mono (fun x => hP _ _ _ _ _ _ x) x | exact ai_cond_mono (fun x => ⟨x.1, hP _ _ _ _ _ _ x.2⟩) x | exact ai_cond_mono (fun x => ⟨x.1, hC _ _ _ _ _ (fun v h y => hP _ _ _ _ _ _ y) x.2⟩) x | exact ai_cond_mono (fun x => ⟨x.1, hC _ _ _ _ _ (fun v h y => ⟨y.1, hP _ _ _ _ _ _ y.2⟩) x.2⟩) x | exact ai_cond_mono2 (fun x => ⟨x.1, hP _ _ _ _ _ _ x.2⟩) (ai_cond_mono (fun x => ⟨x.1, hP _ _ _ _ _ _ x.2⟩)) x | exact x.elim)
    | (split at x <;> (first | exact hP _ _ _ _ _ _ x | exact hQ _ _ x | exact ⟨fun q => hP _ _ _ _ _ _ (x.1 q), fun q => hP _ _ _ _ _ _ (x.2 q)⟩ | exact ⟨x.1, hP _ _ _ _ _ _ x.2⟩ | exact ⟨x.1, hC _ _ _ _ _ (fun v h y => hP _ _ _ _ _ _ y) x.2⟩ | exact ai_cond_mono (fun x => hP _ _ _ _ _ _ x) x | exact ai_cond_mono (fun x => ⟨x.1, hP _ _ _ _ _ _ x.2⟩) x | exact ai_cond_mono (fun x => ⟨x.1, hC _ _ _ _ _ (fun v h y => hP _ _ _ _ _ _ y) x.2⟩) x | exact ai_cond_mono (fun x => ⟨x.1, hC _ _ _ _ _ (fun v h y => ⟨y.1, hP _ _ _ _ _ _ y.2⟩) x.2⟩) x | exact ai_cond_mono2 (fun x => ⟨x.1, hP _ _ _ _ _ _ x.2⟩) (ai_cond_mono (fun x => ⟨x.1, hP _ _ _ _ _ _ x.2⟩)) x | exact x.elim))
theorem m_new (mc ms c n nx : Nat) : ai_M (op_new mc ms c n nx) := by
  intro C hC Q Q' P P' hQ hP u w lo st h x
  unfold op_new at x ⊢
  first
    | (first | exact hP _ _ _ _ _ _ x | exact hQ _ _ x | exact ⟨fun q => hP _ _ _ _ _ _ (x.1 q), fun q => hP _ _ _ _ _ _ (x.2 q)⟩ | exact ⟨x.1, hP _ _ _ _ _ _ x.2⟩ | exact ⟨x.1, hC _ _ _ _ _ (fun v h y => hP _ _ _ _ _ _ y) x.2⟩ | exact ai_cond_mono (fun x => hP _ _ _ _ _ _ x) x | exact ai_cond_mono (fun x => ⟨x.1, hP _ _ _ _ _ _ x.2⟩) x | exact ai_cond_mono (fun x => ⟨x.1, hC _ _ _ _ _ (fun v h y => hP _ _ _ _ _ _ y) x.2⟩) x | exact ai_cond_mono (fun x => ⟨x.1, hC _ _ _ _ _ (fun v h y => ⟨y.1, hP _ _ _ _ _ _ y.2⟩) x.2⟩) x | exact ai_cond_mono2 (fun x => ⟨x.1, hP _ _ _ _ _ _ x.2⟩) (ai_cond_mono (fun x => ⟨x.1, hP _ _ _ _ _ _ x.2⟩)) x | exact x.elim)
    | (split at x <;> (first | exact hP _ _ _ _ _ _ x | exact hQ _ _ x | exact ⟨fun q => hP _ _ _ _ _ _ (x.1 q), fun q => hP _ _ _ _ _ _ (x.2 q)⟩ | exact ⟨x.1, hP _ _ _ _ _ _ x.2⟩ | exact ⟨x.1, hC _ _ _ _ _ (fun v h y => hP _ _ _ _ _ _ y) x.2⟩ | exact ai_cond_mono (fun x => hP _ _ _ _ _ _ x) x | exact ai_cond_mono (fun x => ⟨x.1, hP _ _ _ _ _ _ x.2⟩) x | exact ai_cond_mono (fun x => ⟨x.1, hC _ _ _ _ _ (fun v h y => hP _ _ _ _ _ _ y) x.2⟩) x | exact ai_cond_mono (fun x => ⟨x.1, hC _ _ _ _ _ (fun v h y => ⟨y.1, hP _ _ _ _ _ _ y.2⟩) x.2⟩) x | exact ai_cond_mono2 (fun x => ⟨x.1, hP _ _ _ _ _ _ x.2⟩) (ai_cond_mono (fun x => ⟨x.1, hP _ _ _ _ _ _ x.2⟩)) x | exact x.elim))
theorem m_newa (mc ms k nx : Nat) : ai_M (op_newa mc ms k nx) := by
  intro C hC Q Q' P P' hQ hP u w lo st h x
  unfold op_newa at x ⊢
  first
    | (first | exact hP _ _ _ _ _ _ x | exact hQ _ _ x | exact ⟨fun q => hP _ _ _ _ _ _ (x.1 q), fun q => hP _ _ _ _ _ _ (x.2 q)⟩ | exact ⟨x.1, hP _ _ _ _ _ _ x.2⟩ | exact ⟨x.1, hC _ _ _ _ _ (fun v h y => hP _ _ _ _ _ _ y) x.2⟩ | exact ai_cond_mono (fun x => hP _ _ _ _ _ _ x) x | exact ai_cond_mono (fun x => ⟨x.1, hP _ _ _ _ _ _ x.2⟩) x | exact ai_cond_mono (fun x => ⟨x.1, hC _ _ _ _ _ (fun v h y => hP _ _ _ _ _ _ y) x.2⟩) x | exact ai_cond_mono (fun x => ⟨x.1, hC _ _ _ _ _ (fun v h y => ⟨y.1, hP _ _ _ _ _ _ y.2⟩) x.2⟩) x | exact ai_cond_mono2 (fun x => ⟨x.1, hP _ _ _ _ _ _ x.2⟩) (ai_cond_mono (fun x => ⟨x.1, hP _ _ _ _ _ _ x.2⟩)) x | exact x.elim)
    | (split at x <;> (first | exact hP _ _ _ _ _ _ x | exact hQ _ _ x | exact ⟨fun q => hP _ _ _ _ _ _ (x.1 q), fun q => hP _ _ _ _ _ _ (x.2 q)⟩ | exact ⟨x.1, hP _ _ _ _ _ _ x.2⟩ | exact ⟨x.1, hC _ _ _ _ _ (fun v h y => hP _ _ _ _ _ _ y) x.2⟩ | exact ai_cond_mono (fun x => hP _ _ _ _ _ _ x) x | exact ai_cond_mono (fun x => ⟨x.1, hP _ _ _ _ _ _ x.2⟩) x | exact ai_cond_mono (fun x => ⟨x.1, hC _ _ _ _ _ (fun v h y => hP _ _ _ _ _ _ y) x.2⟩) x | exact ai_cond_mono (fun x => ⟨x.1, hC _ _ _ _ _ (fun v h y => ⟨y.1, hP _ _ _ _ _ _ y.2⟩) x.2⟩) x | exact ai_cond_mono2 (fun x => ⟨x.1, hP _ _ _ _ _ _ x.2⟩) (ai_cond_mono (fun x => ⟨x.1, hP _ _ _ _ _ _ x.2⟩)) x | exact x.elim))
theorem m_objinit (nx : Nat) : ai_M (op_objinit nx) := by
  intro C hC Q Q' P P' hQ hP u w lo st h x
  unfold op_objinit at x ⊢
  first
    | (first | exact hP _ _ _ _ _ _ x | exact hQ _ _ x | exact ⟨fun q => hP _ _ _ _ _ _ (x.1 q), fun q => hP _ _ _ _ _ _ (x.2 q)⟩ | exact ⟨x.1, hP _ _ _ _ _ _ x.2⟩ | exact ⟨x.1, hC _ _ _ _ _ (fun v h y => hP _ _ _ _ _ _ y) x.2⟩ | exact ai_cond_mono (fun x => hP _ _ _ _ _ _ x) x | exact ai_cond_mono (fun x => ⟨x.1, hP _ _ _ _ _ _ x.2⟩) x | exact ai_cond_mono (fun x => ⟨x.1, hC _ _ _ _ _ (fun v h y => hP _ _ _ _ _ _ y) x.2⟩) x | exact ai_cond_mono (fun x => ⟨x.1, hC _ _ _ _ _ (fun v h y => ⟨y.1, hP _ _ _ _ _ _ y.2⟩) x.2⟩) x | exact ai_cond_mono2 (fun x => ⟨x.1, hP _ _ _ _ _ _ x.2⟩) (ai_cond_mono (fun x => ⟨x.1, hP _ _ _ _ _ _ x.2⟩)) x | exact x.elim)
    | (split at x <;> (first | exact hP _ _ _ _ _ _ x | exact hQ _ _ x | exact ⟨fun q => hP _ _ _ _ _ _ (x.1 q), fun q => hP _ _ _ _ _ _ (x.2 q)⟩ | exact ⟨x.1, hP _ _ _ _ _ _ x.2⟩ | exact ⟨x.1, hC _ _ _ _ _ (fun v h y => hP _ _ _ _ _ _ y) x.2⟩ | exact ai_cond_mono (fun x => hP _ _ _ _ _ _ x) x | exact ai_cond_mono (fun x => ⟨x.1, hP _ _ _ _ _ _ x.2⟩) x | exact ai_cond_mono (fun x => ⟨x.1, hC _ _ _ _ _ (fun v h y => hP _ _ _ _ _ _ y) x.2⟩) x | exact ai_cond_mono (fun x => ⟨x.1, hC _ _ _ _ _ (fun v h y => ⟨y.1, hP _ _ _ _ _ _ y.2⟩) x.2⟩) x | exact ai_cond_mono2 (fun x => ⟨x.1, hP _ _ _ _ _ _ x.2⟩) (ai_cond_mono (fun x => ⟨x.1, hP _ _ _ _ _ _ x.2⟩)) x | exact x.elim))
theorem m_callv (m n kr nx : Nat) : ai_M (op_callv m n kr nx) := by
  intro C hC Q Q' P P' hQ hP u w lo st h x
  unfold op_callv at x ⊢
  first
    | (first | exact hP _ _ _ _ _ _ x | exact hQ _ _ x | exact ⟨fun q => hP _ _ _ _ _ _ (x.1 q), fun q => hP _ _ _ _ _ _ (x.2 q)⟩ | exact ⟨x.1, hP _ _ _ _ _ _ x.2⟩ | exact ⟨x.1, hC _ _ _ _ _ (fun v h y => hP _ _ _ _ _ _ y) x.2⟩ | exact ai_cond_mono (fun x => hP _ _ _ _ _ _ x) x | exact ai_cond_mono (fun x => ⟨x.1, hP _ _ _ _ _ _ x.2⟩) x | exact ai_cond_mono (fun x => ⟨x.1, hC _ _ _ _ _ (fun v h y => hP _ _ _ _ _ _ y) x.2⟩) x | exact ai_cond_mono (fun x => ⟨x.1, hC _ _ _ _ _ (fun v h y => ⟨y.1, hP _ _ _ _ _ _ y.2⟩) x.2⟩) x | exact ai_cond_mono2 (fun x => ⟨x.1, hP _ _ _ _ _ _ x.2⟩) (ai_cond_mono (fun x => ⟨x.1, hP _ _ _ _ _ _ x.2⟩)) x | exact x.elim)
    | (split at x <;> (first | exact hP _ _ _ _ _ _ x | exact hQ _ _ x | exact ⟨fun q => hP _ _ _ _ _ _ (x.1 q), fun q => hP _ _ _ _ _ _ (x.2 q)⟩ | exact ⟨x.1, hP _ _ _ _ _ _ x.2⟩ | exact ⟨x.1, hC _ _ _ _ _ (fun v h y => hP _ _ _ _ _ _ y) x.2⟩ | exact ai_cond_mono (fun x => hP _ _ _ _ _ _ x) x | exact ai_cond_mono (fun x => ⟨x.1, hP _ _ _ _ _ _ x.2⟩) x | exact ai_cond_mono (fun x => ⟨x.1, hC _ _ _ _ _ (fun v h y => hP _ _ _ _ _ _ y) x.2⟩) x | exact ai_cond_mono (fun x => ⟨x.1, hC _ _ _ _ _ (fun v h y => ⟨y.1, hP _ _ _ _ _ _ y.2⟩) x.2⟩) x | exact ai_cond_mono2 (fun x => ⟨x.1, hP _ _ _ _ _ _ x.2⟩) (ai_cond_mono (fun x => ⟨x.1, hP _ _ _ _ _ _ x.2⟩)) x | exact x.elim))
theorem m_calls (m n nx : Nat) : ai_M (op_calls m n nx) := by
  intro C hC Q Q' P P' hQ hP u w lo st h x
  unfold op_calls at x ⊢
  first
    | (first | exact hP _ _ _ _ _ _ x | exact hQ _ _ x | exact ⟨fun q => hP _ _ _ _ _ _ (x.1 q), fun q => hP _ _ _ _ _ _ (x.2 q)⟩ | exact ⟨x.1, hP _ _ _ _ _ _ x.2⟩ | exact ⟨x.1, hC _ _ _ _ _ (fun v h y => hP _ _ _ _ _ _ y) x.2⟩ | exact ai_cond_mono (fun x => hP _ _ _ _ _ _ x) x | exact ai_cond_mono (fun x => ⟨x.1, hP _ _ _ _ _ _ x.2⟩) x | exact ai_cond_mono (fun x => ⟨x.1, hC _ _ _ _ _ (fun v h y => hP _ _ _ _ _ _ y) x.2⟩) x | exact ai_cond_mono (fun x => ⟨x.1, hC _ _ _ _ _ (fun v h y => ⟨y.1, hP _ _ _ _ _ _ y.2⟩) x.2⟩) x | exact ai_cond_mono2 (fun x => ⟨x.1, hP _ _ _ _ _ _ x.2⟩) (ai_cond_mono (fun x => ⟨x.1, hP _ _ _ _ _ _ x.2⟩)) x | exact x.elim)
    | (split at x <;> (first | exact hP _ _ _ _ _ _ x | exact hQ _ _ x | exact ⟨fun q => hP _ _ _ _ _ _ (x.1 q), fun q => hP _ _ _ _ _ _ (x.2 q)⟩ | exact ⟨x.1, hP _ _ _ _ _ _ x.2⟩ | exact ⟨x.1, hC _ _ _ _ _ (fun v h y => hP _ _ _ _ _ _ y) x.2⟩ | exact ai_cond_mono (fun x => hP _ _ _ _ _ _ x) x | exact ai_cond_mono (fun x => ⟨x.1, hP _ _ _ _ _ _ x.2⟩) x | exact ai_cond_mono (fun x => ⟨x.1, hC _ _ _ _ _ (fun v h y => hP _ _ _ _ _ _ y) x.2⟩) x | exact ai_cond_mono (fun x => ⟨x.1, hC _ _ _ _ _ (fun v h y => ⟨y.1, hP _ _ _ _ _ _ y.2⟩) x.2⟩) x | exact ai_cond_mono2 (fun x => ⟨x.1, hP _ _ _ _ _ _ x.2⟩) (ai_cond_mono (fun x => ⟨x.1, hP _ _ _ _ _ _ x.2⟩)) x | exact x.elim))
theorem m_calli (mc ms m n kr cm cs nx : Nat) : ai_M (op_calli mc ms m n kr cm cs nx) := by
  intro C hC Q Q' P P' hQ hP u w lo st h x
  unfold op_calli at x ⊢
  first
    | (first | exact hP _ _ _ _ _ _ x | exact hQ _ _ x | exact ⟨fun q => hP _ _ _ _ _ _ (x.1 q), fun q => hP _ _ _ _ _ _ (x.2 q)⟩ | exact ⟨x.1, hP _ _ _ _ _ _ x.2⟩ | exact ⟨x.1, hC _ _ _ _ _ (fun v h y => hP _ _ _ _ _ _ y) x.2⟩ | exact ai_cond_mono (fun x => hP _ _ _ _ _ _ x) x | exact ai_cond_mono (fun x => ⟨x.1, hP _ _ _ _ _ _ x.2⟩) x | exact ai_cond_mono (fun x => ⟨x.1, hC _ _ _ _ _ (fun v h y => hP _ _ _ _ _ _ y) x.2⟩) x | exact ai_cond_mono (fun x => ⟨x.1, hC _ _ _ _ _ (fun v h y => ⟨y.1, hP _ _ _ _ _ _ y.2⟩) x.2⟩) x | exact ai_cond_mono2 (fun x => ⟨x.1, hP _ _ _ _ _ _ x.2⟩) (ai_cond_mono (fun x => ⟨x.1, hP _ _ _ _ _ _ x.2⟩)) x | exact x.elim)
    | (split at x <;> (first | exact hP _ _ _ _ _ _ x | exact hQ _ _ x | exact ⟨fun q => hP _ _ _ _ _ _ (x.1 q), fun q => hP _ _ _ _ _ _ (x.2 q)⟩ | exact ⟨x.1, hP _ _ _ _ _ _ x.2⟩ | exact ⟨x.1, hC _ _ _ _ _ (fun v h y => hP _ _ _ _ _ _ y) x.2⟩ | exact ai_cond_mono (fun x => hP _ _ _ _ _ _ x) x | exact ai_cond_mono (fun x => ⟨x.1, hP _ _ _ _ _ _ x.2⟩) x | exact ai_cond_mono (fun x => ⟨x.1, hC _ _ _ _ _ (fun v h y => hP _ _ _ _ _ _ y) x.2⟩) x | exact ai_cond_mono (fun x => ⟨x.1, hC _ _ _ _ _ (fun v h y => ⟨y.1, hP _ _ _ _ _ _ y.2⟩) x.2⟩) x | exact ai_cond_mono2 (fun x => ⟨x.1, hP _ _ _ _ _ _ x.2⟩) (ai_cond_mono (fun x => ⟨x.1, hP _ _ _ _ _ _ x.2⟩)) x | exact x.elim))
theorem m_sc (nx : Nat) : ai_M (op_sc nx) := by
  intro C hC Q Q' P P' hQ hP u w lo st h x
  unfold op_sc at x ⊢
  first
    | (first | exact hP _ _ _ _ _ _ x | exact hQ _ _ x | exact ⟨fun q => hP _ _ _ _ _ _ (x.1 q), fun q => hP _ _ _ _ _ _ (x.2 q)⟩ | exact ⟨x.1, hP _ _ _ _ _ _ x.2⟩ | exact ⟨x.1, hC _ _ _ _ _ (fun v h y => hP _ _ _ _ _ _ y) x.2⟩ | exact ai_cond_mono (fun x => hP _ _ _ _ _ _ x) x | exact ai_cond_mono (fun x => ⟨x.1, hP _ _ _ _ _ _ x.2⟩) x | exact ai_cond_mono (fun x => ⟨x.1, hC _ _ _ _ _ (fun v h y => hP _ _ _ _ _ _ y) x.2⟩) x | exact ai_cond_mono (fun x => ⟨x.1, hC _ _ _ _ _ (fun v h y => ⟨y.1, hP _ _ _ _ _ _ y.2⟩) x.2⟩) x | exact ai_cond_mono2 (fun x => ⟨x.1, hP _ _ _ _ _ _ x.2⟩) (ai_cond_mono (fun x => ⟨x.1, hP _ _ _ _ _ _ x.2⟩)) x | exact x.elim)
    | (split at x <;> (first | exact hP _ _ _ _ _ _ x | exact hQ _ _ x | exact ⟨fun q => hP _ _ _ _ _ _ (x.1 q), fun q => hP _ _ _ _ _ _ (x.2 q)⟩ | exact ⟨x.1, hP _ _ _ _ _ _ x.2⟩ | exact ⟨x.1, hC _ _ _ _ _ (fun v h y => hP _ _ _ _ _ _ y) x.2⟩ | exact ai_cond_mono (fun x => hP _ _ _ _ _ _ x) x | exact ai_cond_mono (fun x => ⟨x.1, hP _ _ _ _ _ _ x.2⟩) x | exact ai_cond_mono (fun x => ⟨x.1, hC _ _ _ _ _ (fun v h y => hP _ _ _ _ _ _ y) x.2⟩) x | exact ai_cond_mono (fun x => ⟨x.1, hC _ _ _ _ _ (fun v h y => ⟨y.1, hP _ _ _ _ _ _ y.2⟩) x.2⟩) x | exact ai_cond_mono2 (fun x => ⟨x.1, hP _ _ _ _ _ _ x.2⟩) (ai_cond_mono (fun x => ⟨x.1, hP _ _ _ _ _ _ x.2⟩)) x | exact x.elim))
theorem m_sv (nx : Nat) : ai_M (op_sv nx) := by
  intro C hC Q Q' P P' hQ hP u w lo st h x
  unfold op_sv at x ⊢
  first
    | (first | exact hP _ _ _ _ _ _ x | exact hQ _ _ x | exact ⟨fun q => hP _ _ _ _ _ _ (x.1 q), fun q => hP _ _ _ _ _ _ (x.2 q)⟩ | exact ⟨x.1, hP _ _ _ _ _ _ x.2⟩ | exact ⟨x.1, hC _ _ _ _ _ (fun v h y => hP _ _ _ _ _ _ y) x.2⟩ | exact ai_cond_mono (fun x => hP _ _ _ _ _ _ x) x | exact ai_cond_mono (fun x => ⟨x.1, hP _ _ _ _ _ _ x.2⟩) x | exact ai_cond_mono (fun x => ⟨x.1, hC _ _ _ _ _ (fun v h y => hP _ _ _ _ _ _ y) x.2⟩) x | exact ai_cond_mono (fun x => ⟨x.1, hC _ _ _ _ _ (fun v h y => ⟨y.1, hP _ _ _ _ _ _ y.2⟩) x.2⟩) x | exact ai_cond_mono2 (fun x => ⟨x.1, hP _ _ _ _ _ _ x.2⟩) (ai_cond_mono (fun x => ⟨x.1, hP _ _ _ _ _ _ x.2⟩)) x | exact x.elim)
    | (split at x <;> (first | exact hP _ _ _ _ _ _ x | exact hQ _ _ x | exact ⟨fun q => hP _ _ _ _ _ _ (x.1 q), fun q => hP _ _ _ _ _ _ (x.2 q)⟩ | exact ⟨x.1, hP _ _ _ _ _ _ x.2⟩ | exact ⟨x.1, hC _ _ _ _ _ (fun v h y => hP _ _ _ _ _ _ y) x.2⟩ | exact ai_cond_mono (fun x => hP _ _ _ _ _ _ x) x | exact ai_cond_mono (fun x => ⟨x.1, hP _ _ _ _ _ _ x.2⟩) x | exact ai_cond_mono (fun x => ⟨x.1, hC _ _ _ _ _ (fun v h y => hP _ _ _ _ _ _ y) x.2⟩) x | exact ai_cond_mono (fun x => ⟨x.1, hC _ _ _ _ _ (fun v h y => ⟨y.1, hP _ _ _ _ _ _ y.2⟩) x.2⟩) x | exact ai_cond_mono2 (fun x => ⟨x.1, hP _ _ _ _ _ _ x.2⟩) (ai_cond_mono (fun x => ⟨x.1, hP _ _ _ _ _ _ x.2⟩)) x | exact x.elim))
theorem m_iret (t : Nat) : ai_M (op_iret t) := by
  intro C hC Q Q' P P' hQ hP u w lo st h x
  unfold op_iret at x ⊢
  first
    | (first | exact hP _ _ _ _ _ _ x | exact hQ _ _ x | exact ⟨fun q => hP _ _ _ _ _ _ (x.1 q), fun q => hP _ _ _ _ _ _ (x.2 q)⟩ | exact ⟨x.1, hP _ _ _ _ _ _ x.2⟩ | exact ⟨x.1, hC _ _ _ _ _ (fun v h y => hP _ _ _ _ _ _ y) x.2⟩ | exact ai_cond_mono (fun x => hP _ _ _ _ _ _ x) x | exact ai_cond_mono (fun x => ⟨x.1, hP _ _ _ _ _ _ x.2⟩) x | exact ai_cond_mono (fun x => ⟨x.1, hC _ _ _ _ _ (fun v h y => hP _ _ _ _ _ _ y) x.2⟩) x | exact ai_cond_mono (fun x => ⟨x.1, hC _ _ _ _ _ (fun v h y => ⟨y.1, hP _ _ _ _ _ _ y.2⟩) x.2⟩) x | exact ai_cond_mono2 (fun x => ⟨x.1, hP _ _ _ _ _ _ x.2⟩) (ai_cond_mono (fun x => ⟨x.1, hP _ _ _ _ _ _ x.2⟩)) x | exact x.elim)
    | (split at x <;> (first | exact hP _ _ _ _ _ _ x | exact hQ _ _ x | exact ⟨fun q => hP _ _ _ _ _ _ (x.1 q), fun q => hP _ _ _ _ _ _ (x.2 q)⟩ | exact ⟨x.1, hP _ _ _ _ _ _ x.2⟩ | exact ⟨x.1, hC _ _ _ _ _ (fun v h y => hP _ _ _ _ _ _ y) x.2⟩ | exact ai_cond_mono (fun x => hP _ _ _ _ _ _ x) x | exact ai_cond_mono (fun x => ⟨x.1, hP _ _ _ _ _ _ x.2⟩) x | exact ai_cond_mono (fun x => ⟨x.1, hC _ _ _ _ _ (fun v h y => hP _ _ _ _ _ _ y) x.2⟩) x | exact ai_cond_mono (fun x => ⟨x.1, hC _ _ _ _ _ (fun v h y => ⟨y.1, hP _ _ _ _ _ _ y.2⟩) x.2⟩) x | exact ai_cond_mono2 (fun x => ⟨x.1, hP _ _ _ _ _ _ x.2⟩) (ai_cond_mono (fun x => ⟨x.1, hP _ _ _ _ _ _ x.2⟩)) x | exact x.elim))
theorem m_lret  : ai_M (op_lret ) := by
  intro C hC Q Q' P P' hQ hP u w lo st h x
  unfold op_lret at x ⊢
  first
    | (first | exact hP _ _ _ _ _ _ x | exact hQ _ _ x | exact ⟨fun q => hP _ _ _ _ _ _ (x.1 q), fun q => hP _ _ _ _ _ _ (x.2 q)⟩ | exact ⟨x.1, hP _ _ _ _ _ _ x.2⟩ | exact ⟨x.1, hC _ _ _ _ _ (fun v h y => hP _ _ _ _ _ _ y) x.2⟩ | exact ai_cond_mono (fun x => hP _ _ _ _ _ _ x) x | exact ai_cond_mono (fun x => ⟨x.1, hP _ _ _ _ _ _ x.2⟩) x | exact ai_cond_mono (fun x => ⟨x.1, hC _ _ _ _ _ (fun v h y => hP _ _ _ _ _ _ y) x.2⟩) x | exact ai_cond_mono (fun x => ⟨x.1, hC _ _ _ _ _ (fun v h y => ⟨y.1, hP _ _ _ _ _ _ y.2⟩) x.2⟩) x | exact ai_cond_mono2 (fun x => ⟨x.1, hP _ _ _ _ _ _ x.2⟩) (ai_cond_mono (fun x => ⟨x.1, hP _ _ _ _ _ _ x.2⟩)) x | exact x.elim)
    | (split at x <;> (first | exact hP _ _ _ _ _ _ x | exact hQ _ _ x | exact ⟨fun q => hP _ _ _ _ _ _ (x.1 q), fun q => hP _ _ _ _ _ _ (x.2 q)⟩ | exact ⟨x.1, hP _ _ _ _ _ _ x.2⟩ | exact ⟨x.1, hC _ _ _ _ _ (fun v h y => hP _ _ _ _ _ _ y) x.2⟩ | exact ai_cond_mono (fun x => hP _ _ _ _ _ _ x) x | exact ai_cond_mono (fun x => ⟨x.1, hP _ _ _ _ _ _ x.2⟩) x | exact ai_cond_mono (fun x => ⟨x.1, hC _ _ _ _ _ (fun v h y => hP _ _ _ _ _ _ y) x.2⟩) x | exact ai_cond_mono (fun x => ⟨x.1, hC _ _ _ _ _ (fun v h y => ⟨y.1, hP _ _ _ _ _ _ y.2⟩) x.2⟩) x | exact ai_cond_mono2 (fun x => ⟨x.1, hP _ _ _ _ _ _ x.2⟩) (ai_cond_mono (fun x => ⟨x.1, hP _ _ _ _ _ _ x.2⟩)) x | exact x.elim))
theorem m_ret  : ai_M (op_ret ) := by
  intro C hC Q Q' P P' hQ hP u w lo st h x
  unfold op_ret at x ⊢
  first
    | (first | exact hP _ _ _ _ _ _ x | exact hQ _ _ x | exact ⟨fun q => hP _ _ _ _ _ _ (x.1 q), fun q => hP _ _ _ _ _ _ (x.2 q)⟩ | exact ⟨x.1, hP _ _ _ _ _ _ x.2⟩ | exact ⟨x.1, hC _ _ _ _ _ (fun v h y => hP _ _ _ _ _ _ y) x.2⟩ | exact ai_cond_mono (fun x => hP _ _ _ _ _ _ x) x | exact ai_cond_mono (fun x => ⟨x.1, hP _ _ _ _ _ _ x.2⟩) x | exact ai_cond_mono (fun x => ⟨x.1, hC _ _ _ _ _ (fun v h y => hP _ _ _ _ _ _ y) x.2⟩) x | exact ai_cond_mono (fun x => ⟨x.1, hC _ _ _ _ _ (fun v h y => ⟨y.1, hP _ _ _ _ _ _ y.2⟩) x.2⟩) x | exact ai_cond_mono2 (fun x => ⟨x.1, hP _ _ _ _ _ _ x.2⟩) (ai_cond_mono (fun x => ⟨x.1, hP _ _ _ _ _ _ x.2⟩)) x | exact x.elim)
    | (split at x <;> (first | exact hP _ _ _ _ _ _ x | exact hQ _ _ x | exact ⟨fun q => hP _ _ _ _ _ _ (x.1 q), fun q => hP _ _ _ _ _ _ (x.2 q)⟩ | exact ⟨x.1, hP _ _ _ _ _ _ x.2⟩ | exact ⟨x.1, hC _ _ _ _ _ (fun v h y => hP _ _ _ _ _ _ y) x.2⟩ | exact ai_cond_mono (fun x => hP _ _ _ _ _ _ x) x | exact ai_cond_mono (fun x => ⟨x.1, hP _ _ _ _ _ _ x.2⟩) x | exact ai_cond_mono (fun x => ⟨x.1, hC _ _ _ _ _ (fun v h y => hP _ _ _ _ _ _ y) x.2⟩) x | exact ai_cond_mono (fun x => ⟨x.1, hC _ _ _ _ _ (fun v h y => ⟨y.1, hP _ _ _ _ _ _ y.2⟩) x.2⟩) x | exact ai_cond_mono2 (fun x => ⟨x.1, hP _ _ _ _ _ _ x.2⟩) (ai_cond_mono (fun x => ⟨x.1, hP _ _ _ _ _ _ x.2⟩)) x | exact x.elim))
