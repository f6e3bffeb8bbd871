/-! SOUND OPERATIONS -/
/-- a method: its name, code, places, answer's type, cells and slots it makes at most -/
abbrev ai_Mt : Type := MethodName × ByteArray × Nat × Option FieldType × Nat × Nat
abbrev ai_X : Type := Launch × Room × Program × Env × State × MethodId × Array Value × List Frame × Method × Code × (State → Prop) × va_G × (Nat → ClassId) × Nat × Value × Nat × (Nat → Int32) × (Nat → Nat → Nat) × ai_H
def ai_ext (ad ad' : Nat → Nat → Nat) (h h' : ai_H) : Prop := (∀ c, h.2.2.2.1 c ≤ h'.2.2.2.1 c) ∧ (∀ c i, i < h.2.2.2.1 c → ad' c i = ad c i)
theorem ai_ext_trans {a b c : Nat → Nat → Nat} {h k m : ai_H} (x : ai_ext a b h k) (y : ai_ext b c k m) : ai_ext a c h m := ⟨fun i => Nat.le_trans (x.1 i) (y.1 i), fun i j hj => (y.2 i j (Nat.lt_of_lt_of_le hj (x.1 i))).trans (x.2 i j hj)⟩
/-- a machine that stands in method M's body: what it has -/
def ai_Cx (Γ : ai_X) (M : ai_Mt) : Prop := match Γ with
  | (_, R, p, _, s, m, args, _, meth, c, _, _, _, _, _, _, _, _, _) => p.tables.exec = Jvm.exec ∧ c.code = M.2.1 ∧ c.maxLocals = M.2.2.1 ∧ s.vm.findClass M.1.cls = some m.cls ∧ (∀ w ∈ ai_tb, w.before args s = true) ∧ meth.name = M.1.name ∧ R.cells = M.2.2.2.2.1 ∧ R.slots = M.2.2.2.2.2
def ai_Wd (Γ : ai_X) (M : ai_Mt) : ai_P := fun u w pc lo st h => match Γ with
  | (l, R, p, e, s, m, args, below, meth, c, Qm, D, cA, n0, vz, L, xs, ad0, h0) => ∀ (ad : Nat → Nat → Nat) (H : Heap) (locs : List Loc) (ls : Array Slot), ai_ext ad0 ad h0 h → ai_HP D cA n0 L xs ad h H → ai_KC D cA n0 L xs vz ad s H → ai_okl h.2.2.2.1 lo → ai_oks h.2.2.2.1 st → lv_has ls M.2.2.1 (ai_lv vz ad M.2.2.1 lo) → va_S (fun q => n0 ≤ q) s.heap H locs → u ≤ M.2.2.2.2.1 → w ≤ M.2.2.2.2.2 →
    W p l e R s m args below meth c H locs u w Qm (F0 m pc ls (st.map (ai_cv vz ad)))
/-- the ways out -/
def ai_RO (Γ : ai_X) (M : ai_Mt) (Q : ai_Q) : Prop := match Γ with
  | (l, R, p, e, s, m, args, below, meth, c, Qm, D, cA, n0, vz, L, xs, ad0, h0) => ∀ (ad : Nat → Nat → Nat) (H : Heap) (locs : List Loc) (ls : Array Slot) (h : ai_H) (u w pc : Nat), ai_ext ad0 ad h0 h → ai_HP D cA n0 L xs ad h H → ai_KC D cA n0 L xs vz ad s H → va_S (fun q => n0 ≤ q) s.heap H locs → u ≤ M.2.2.2.2.1 → w ≤ M.2.2.2.2.2 →
    (Q none h → M.2.2.2.1 = none → decode M.2.1 pc = .ok (.return_, 1) → W p l e R s m args below meth c H locs u w Qm (F0 m pc ls [])) ∧
    (∀ y, Q (some (aL y)) h → M.2.2.2.1 = some .long → decode M.2.1 pc = .ok (.lreturn, 1) → W p l e R s m args below meth c H locs u w Qm (F0 m pc ls [.long y])) ∧
    (∀ x y ty, Q (some (aI y)) h → M.2.2.2.1 = some ty → narrow ty (.int x) = .int y → decode M.2.1 pc = .ok (.ireturn, 1) → W p l e R s m args below meth c H locs u w Qm (F0 m pc ls [.int x]))
def ai_rm (d : Nat) (M : ai_Mt) : Room := { frames := d, cells := M.2.2.2.2.1, slots := M.2.2.2.2.2, locals := 64 * d + 12 }
def ai_ws (M : ai_Mt) : List Cond := .code M.1 M.2.1 M.2.2.1 M.2.2.2.1 :: ai_tb
/-- a method's contract -/
def ai_Met (l : Launch) (D : va_G) (cA : Nat → ClassId) (n0 : Nat) (vz : Value) (L : Nat) (xs : Nat → Int32) (d : Nat) (M : ai_Mt) (ad : Nat → Nat → Nat) (as : List ai_V) (h : ai_H) (Q : ai_Q) : Prop :=
  Met l M.1 (ai_ws M) (ai_rm d M) (va_Pc (as.map (ai_cv vz ad)) (fun U => ai_HP D cA n0 L xs ad h U.heap ∧ ai_KC D cA n0 L xs vz ad U U.heap))
    (fun _ st o t => (∃ (v : Option ai_V) (h' : ai_H) (ad' : Nat → Nat → Nat), Q v h' ∧ o = .returned (v.map (ai_cv vz ad')) ∧ ai_HP D cA n0 L xs ad' h' t.heap ∧ ai_ext ad ad' h h' ∧ (∀ x, v = some x → ai_ok h'.2.2.2.1 x)) ∧ va_F (fun q => n0 ≤ q) st t) M.2.2.2.2.1 M.2.2.2.2.2 (fun q => n0 ≤ q)
/-- what a caller may take of the methods T that it calls -/
def ai_CS (T : Nat → ai_Mt) (l : Launch) (D : va_G) (cA : Nat → ClassId) (n0 : Nat) (vz : Value) (L : Nat) (xs : Nat → Int32) (d : Nat) (C : ai_C) : Prop :=
  ∀ m as h Q, C m as h Q → ai_oks h.2.2.2.1 as → ∀ ad, ai_Met l D cA n0 vz L xs d (T m) ad as h Q
def ai_Ro (Γ : ai_X) (d : Nat) : Prop := match Γ with | (_, R, _, _, _, _, _, _, _, _, _, _, _, _, _, _, _, _, _) => d + 1 ≤ R.frames ∧ 64 * (d + 1) + 12 ≤ R.locals
def ai_Cl (T : Nat → ai_Mt) (Γ : ai_X) (d : Nat) (C : ai_C) : Prop := match Γ with | (l, _, _, _, _, _, _, _, _, _, _, D, cA, n0, vz, L, xs, ad0, h0) => ai_CS T l D cA n0 vz L xs d C
def ai_Sn (T : Nat → ai_Mt) (M : ai_Mt) (pc : Nat) (op : ai_Op) : Prop := ∀ (Γ : ai_X) (d : Nat) (C : ai_C) (Q : ai_Q) (P : ai_P), ai_Cx Γ M → ai_Ro Γ d → ai_Cl T Γ d C → ai_RO Γ M Q → (∀ u w pc lo st h, P u w pc lo st h → ai_Wd Γ M u w pc lo st h) → ∀ u w lo st h, op C Q P u w lo st h → ai_Wd Γ M u w pc lo st h
theorem ai_ok2 {cnt : Nat → Nat} {v : ai_V} {st : ai_S} (h : ai_oks cnt (v :: st)) : ai_oks cnt st := fun x hx => h x (List.mem_cons_of_mem _ hx)
theorem ai_ok1 {cnt : Nat → Nat} {v : ai_V} {st : ai_S} (h : ai_oks cnt (v :: st)) : ai_ok cnt v := h v List.mem_cons_self
theorem ai_okc {cnt : Nat → Nat} {v : ai_V} {st : ai_S} (h1 : ai_ok cnt v) (h : ai_oks cnt st) : ai_oks cnt (v :: st) := fun x hx => by
  rcases List.mem_cons.mp hx with rfl | hx
  · exact h1
  · exact h x hx
theorem ai_nb {k : Nat} (h : k < 20) : Nat.beq k 20 = false := by
  cases hb : Nat.beq k 20 with
  | false => rfl
  | true => exact absurd (Nat.eq_of_beq_eq_true hb) (by omega)
theorem ai_condT {b : Bool} {a : Prop} (h : cond b a False) : b = true ∧ a := by
  cases b
  · exact h.elim
  · exact ⟨rfl, h⟩
theorem s_iconst {T : Nat → ai_Mt} {M : ai_Mt} {pc nx : Nat} {n : Int} {v : Int32} (hv : Int32.ofInt n = v) (d_ : decode M.2.1 pc = .ok (.iconst n, 1)) (hn : pc + 1 = nx) : ai_Sn T M pc (op_ic v nx) := by
  intro Γ d C Q P hC hRo hCl hR hP u w lo st h hop
  obtain ⟨l, R, p, e, s, m, args, below, meth, c, Qm, D, cA, n0, vz, L, xs, ad0, h0⟩ := Γ
  obtain ⟨hx, hb, hml, hown, hts, hnm, hrc, hrs⟩ := hC
  intro ad H locs ls hE hHP hKC hvl hvs hlv hS hu hw
  subst hn
  unfold op_ic at hop
  refine lv_iconst hx hb d_ hv ?_
  exact hP _ _ _ _ _ _ hop ad H locs ls hE hHP hKC hvl (ai_okc trivial hvs) hlv hS hu hw

theorem s_bipush {T : Nat → ai_Mt} {M : ai_Mt} {pc nx : Nat} {n : Int} {v : Int32} (hv : (Int8.ofInt n).toInt32 = v) (d_ : decode M.2.1 pc = .ok (.bipush n, 2)) (hn : pc + 2 = nx) : ai_Sn T M pc (op_ic v nx) := by
  intro Γ d C Q P hC hRo hCl hR hP u w lo st h hop
  obtain ⟨l, R, p, e, s, m, args, below, meth, c, Qm, D, cA, n0, vz, L, xs, ad0, h0⟩ := Γ
  obtain ⟨hx, hb, hml, hown, hts, hnm, hrc, hrs⟩ := hC
  intro ad H locs ls hE hHP hKC hvl hvs hlv hS hu hw
  subst hn
  unfold op_ic at hop
  refine lv_bipush hx hb d_ hv ?_
  exact hP _ _ _ _ _ _ hop ad H locs ls hE hHP hKC hvl (ai_okc trivial hvs) hlv hS hu hw

theorem s_sipush {T : Nat → ai_Mt} {M : ai_Mt} {pc nx : Nat} {n : Int} {v : Int32} (hv : (Int16.ofInt n).toInt32 = v) (d_ : decode M.2.1 pc = .ok (.sipush n, 3)) (hn : pc + 3 = nx) : ai_Sn T M pc (op_ic v nx) := by
  intro Γ d C Q P hC hRo hCl hR hP u w lo st h hop
  obtain ⟨l, R, p, e, s, m, args, below, meth, c, Qm, D, cA, n0, vz, L, xs, ad0, h0⟩ := Γ
  obtain ⟨hx, hb, hml, hown, hts, hnm, hrc, hrs⟩ := hC
  intro ad H locs ls hE hHP hKC hvl hvs hlv hS hu hw
  subst hn
  unfold op_ic at hop
  refine lv_sipush hx hb d_ hv ?_
  exact hP _ _ _ _ _ _ hop ad H locs ls hE hHP hKC hvl (ai_okc trivial hvs) hlv hS hu hw

theorem s_lconst {T : Nat → ai_Mt} {M : ai_Mt} {pc nx : Nat} {n : Fin 2} {v : Int64} (hv : Int64.ofNat (n : Nat) = v) (d_ : decode M.2.1 pc = .ok (.lconst n, 1)) (hn : pc + 1 = nx) : ai_Sn T M pc (op_lc v nx) := by
  intro Γ d C Q P hC hRo hCl hR hP u w lo st h hop
  obtain ⟨l, R, p, e, s, m, args, below, meth, c, Qm, D, cA, n0, vz, L, xs, ad0, h0⟩ := Γ
  obtain ⟨hx, hb, hml, hown, hts, hnm, hrc, hrs⟩ := hC
  intro ad H locs ls hE hHP hKC hvl hvs hlv hS hu hw
  subst hn
  unfold op_lc at hop
  refine lv_lconst hx hb d_ hv ?_
  exact hP _ _ _ _ _ _ hop ad H locs ls hE hHP hKC hvl (ai_okc trivial hvs) hlv hS hu hw

theorem s_ldc {T : Nat → ai_Mt} {M : ai_Mt} {pc nx : Nat} {i : Nat} {v : Int32} (hv : Cond.constant M.1.cls i v ∈ ai_tb) (d_ : decode M.2.1 pc = .ok (.ldc i, 2)) (hn : pc + 2 = nx) : ai_Sn T M pc (op_ic v nx) := by
  intro Γ d C Q P hC hRo hCl hR hP u w lo st h hop
  obtain ⟨l, R, p, e, s, m, args, below, meth, c, Qm, D, cA, n0, vz, L, xs, ad0, h0⟩ := Γ
  obtain ⟨hx, hb, hml, hown, hts, hnm, hrc, hrs⟩ := hC
  intro ad H locs ls hE hHP hKC hvl hvs hlv hS hu hw
  subst hn
  unfold op_ic at hop
  refine lv_ldc hx hb hown (hts _ hv) d_ ?_
  exact hP _ _ _ _ _ _ hop ad H locs ls hE hHP hKC hvl (ai_okc trivial hvs) hlv hS hu hw

theorem s_ldcw {T : Nat → ai_Mt} {M : ai_Mt} {pc nx : Nat} {i : Nat} {v : Int32} (hv : Cond.constant M.1.cls i v ∈ ai_tb) (d_ : decode M.2.1 pc = .ok (.ldc_w i, 3)) (hn : pc + 3 = nx) : ai_Sn T M pc (op_ic v nx) := by
  intro Γ d C Q P hC hRo hCl hR hP u w lo st h hop
  obtain ⟨l, R, p, e, s, m, args, below, meth, c, Qm, D, cA, n0, vz, L, xs, ad0, h0⟩ := Γ
  obtain ⟨hx, hb, hml, hown, hts, hnm, hrc, hrs⟩ := hC
  intro ad H locs ls hE hHP hKC hvl hvs hlv hS hu hw
  subst hn
  unfold op_ic at hop
  refine lv_ldcw hx hb hown (hts _ hv) d_ ?_
  exact hP _ _ _ _ _ _ hop ad H locs ls hE hHP hKC hvl (ai_okc trivial hvs) hlv hS hu hw

theorem s_ldc2 {T : Nat → ai_Mt} {M : ai_Mt} {pc nx : Nat} {i : Nat} {v : Int64} (hv : Cond.constantLong M.1.cls i v ∈ ai_tb) (d_ : decode M.2.1 pc = .ok (.ldc2_w i, 3)) (hn : pc + 3 = nx) : ai_Sn T M pc (op_lc v nx) := by
  intro Γ d C Q P hC hRo hCl hR hP u w lo st h hop
  obtain ⟨l, R, p, e, s, m, args, below, meth, c, Qm, D, cA, n0, vz, L, xs, ad0, h0⟩ := Γ
  obtain ⟨hx, hb, hml, hown, hts, hnm, hrc, hrs⟩ := hC
  intro ad H locs ls hE hHP hKC hvl hvs hlv hS hu hw
  subst hn
  unfold op_lc at hop
  refine lv_ldc2 hx hb hown (hts _ hv) d_ ?_
  exact hP _ _ _ _ _ _ hop ad H locs ls hE hHP hKC hvl (ai_okc trivial hvs) hlv hS hu hw

theorem s_iadd {T : Nat → ai_Mt} {M : ai_Mt} {pc nx : Nat}  (d_ : decode M.2.1 pc = .ok (.iadd, 1)) (hn : pc + 1 = nx) : ai_Sn T M pc (op_i2 (fun x y => x + y) nx) := by
  intro Γ d C Q P hC hRo hCl hR hP u w lo st h hop
  obtain ⟨l, R, p, e, s, m, args, below, meth, c, Qm, D, cA, n0, vz, L, xs, ad0, h0⟩ := Γ
  obtain ⟨hx, hb, hml, hown, hts, hnm, hrc, hrs⟩ := hC
  intro ad H locs ls hE hHP hKC hvl hvs hlv hS hu hw
  subst hn
  unfold op_i2 at hop
  split at hop
  · refine lv_iadd hx hb d_ ?_
    exact hP _ _ _ _ _ _ hop ad H locs ls hE hHP hKC hvl (ai_okc trivial (ai_ok2 (ai_ok2 hvs))) hlv hS hu hw
  · exact hop.elim

theorem s_isub {T : Nat → ai_Mt} {M : ai_Mt} {pc nx : Nat}  (d_ : decode M.2.1 pc = .ok (.isub, 1)) (hn : pc + 1 = nx) : ai_Sn T M pc (op_i2 (fun x y => x - y) nx) := by
  intro Γ d C Q P hC hRo hCl hR hP u w lo st h hop
  obtain ⟨l, R, p, e, s, m, args, below, meth, c, Qm, D, cA, n0, vz, L, xs, ad0, h0⟩ := Γ
  obtain ⟨hx, hb, hml, hown, hts, hnm, hrc, hrs⟩ := hC
  intro ad H locs ls hE hHP hKC hvl hvs hlv hS hu hw
  subst hn
  unfold op_i2 at hop
  split at hop
  · refine lv_isub hx hb d_ ?_
    exact hP _ _ _ _ _ _ hop ad H locs ls hE hHP hKC hvl (ai_okc trivial (ai_ok2 (ai_ok2 hvs))) hlv hS hu hw
  · exact hop.elim

theorem s_imul {T : Nat → ai_Mt} {M : ai_Mt} {pc nx : Nat}  (d_ : decode M.2.1 pc = .ok (.imul, 1)) (hn : pc + 1 = nx) : ai_Sn T M pc (op_i2 (fun x y => x * y) nx) := by
  intro Γ d C Q P hC hRo hCl hR hP u w lo st h hop
  obtain ⟨l, R, p, e, s, m, args, below, meth, c, Qm, D, cA, n0, vz, L, xs, ad0, h0⟩ := Γ
  obtain ⟨hx, hb, hml, hown, hts, hnm, hrc, hrs⟩ := hC
  intro ad H locs ls hE hHP hKC hvl hvs hlv hS hu hw
  subst hn
  unfold op_i2 at hop
  split at hop
  · refine lv_imul hx hb d_ ?_
    exact hP _ _ _ _ _ _ hop ad H locs ls hE hHP hKC hvl (ai_okc trivial (ai_ok2 (ai_ok2 hvs))) hlv hS hu hw
  · exact hop.elim

theorem s_iand {T : Nat → ai_Mt} {M : ai_Mt} {pc nx : Nat}  (d_ : decode M.2.1 pc = .ok (.iand, 1)) (hn : pc + 1 = nx) : ai_Sn T M pc (op_i2 (fun x y => x &&& y) nx) := by
  intro Γ d C Q P hC hRo hCl hR hP u w lo st h hop
  obtain ⟨l, R, p, e, s, m, args, below, meth, c, Qm, D, cA, n0, vz, L, xs, ad0, h0⟩ := Γ
  obtain ⟨hx, hb, hml, hown, hts, hnm, hrc, hrs⟩ := hC
  intro ad H locs ls hE hHP hKC hvl hvs hlv hS hu hw
  subst hn
  unfold op_i2 at hop
  split at hop
  · refine lv_iand hx hb d_ ?_
    exact hP _ _ _ _ _ _ hop ad H locs ls hE hHP hKC hvl (ai_okc trivial (ai_ok2 (ai_ok2 hvs))) hlv hS hu hw
  · exact hop.elim

theorem s_ior {T : Nat → ai_Mt} {M : ai_Mt} {pc nx : Nat}  (d_ : decode M.2.1 pc = .ok (.ior, 1)) (hn : pc + 1 = nx) : ai_Sn T M pc (op_i2 (fun x y => x ||| y) nx) := by
  intro Γ d C Q P hC hRo hCl hR hP u w lo st h hop
  obtain ⟨l, R, p, e, s, m, args, below, meth, c, Qm, D, cA, n0, vz, L, xs, ad0, h0⟩ := Γ
  obtain ⟨hx, hb, hml, hown, hts, hnm, hrc, hrs⟩ := hC
  intro ad H locs ls hE hHP hKC hvl hvs hlv hS hu hw
  subst hn
  unfold op_i2 at hop
  split at hop
  · refine lv_ior hx hb d_ ?_
    exact hP _ _ _ _ _ _ hop ad H locs ls hE hHP hKC hvl (ai_okc trivial (ai_ok2 (ai_ok2 hvs))) hlv hS hu hw
  · exact hop.elim

theorem s_ixor {T : Nat → ai_Mt} {M : ai_Mt} {pc nx : Nat}  (d_ : decode M.2.1 pc = .ok (.ixor, 1)) (hn : pc + 1 = nx) : ai_Sn T M pc (op_i2 (fun x y => x ^^^ y) nx) := by
  intro Γ d C Q P hC hRo hCl hR hP u w lo st h hop
  obtain ⟨l, R, p, e, s, m, args, below, meth, c, Qm, D, cA, n0, vz, L, xs, ad0, h0⟩ := Γ
  obtain ⟨hx, hb, hml, hown, hts, hnm, hrc, hrs⟩ := hC
  intro ad H locs ls hE hHP hKC hvl hvs hlv hS hu hw
  subst hn
  unfold op_i2 at hop
  split at hop
  · refine lv_ixor hx hb d_ ?_
    exact hP _ _ _ _ _ _ hop ad H locs ls hE hHP hKC hvl (ai_okc trivial (ai_ok2 (ai_ok2 hvs))) hlv hS hu hw
  · exact hop.elim

theorem s_ishl {T : Nat → ai_Mt} {M : ai_Mt} {pc nx : Nat}  (d_ : decode M.2.1 pc = .ok (.ishl, 1)) (hn : pc + 1 = nx) : ai_Sn T M pc (op_i2 (fun x y => x <<< (y &&& 31)) nx) := by
  intro Γ d C Q P hC hRo hCl hR hP u w lo st h hop
  obtain ⟨l, R, p, e, s, m, args, below, meth, c, Qm, D, cA, n0, vz, L, xs, ad0, h0⟩ := Γ
  obtain ⟨hx, hb, hml, hown, hts, hnm, hrc, hrs⟩ := hC
  intro ad H locs ls hE hHP hKC hvl hvs hlv hS hu hw
  subst hn
  unfold op_i2 at hop
  split at hop
  · refine lv_ishl hx hb d_ ?_
    exact hP _ _ _ _ _ _ hop ad H locs ls hE hHP hKC hvl (ai_okc trivial (ai_ok2 (ai_ok2 hvs))) hlv hS hu hw
  · exact hop.elim

theorem s_ishr {T : Nat → ai_Mt} {M : ai_Mt} {pc nx : Nat}  (d_ : decode M.2.1 pc = .ok (.ishr, 1)) (hn : pc + 1 = nx) : ai_Sn T M pc (op_i2 (fun x y => x >>> (y &&& 31)) nx) := by
  intro Γ d C Q P hC hRo hCl hR hP u w lo st h hop
  obtain ⟨l, R, p, e, s, m, args, below, meth, c, Qm, D, cA, n0, vz, L, xs, ad0, h0⟩ := Γ
  obtain ⟨hx, hb, hml, hown, hts, hnm, hrc, hrs⟩ := hC
  intro ad H locs ls hE hHP hKC hvl hvs hlv hS hu hw
  subst hn
  unfold op_i2 at hop
  split at hop
  · refine lv_ishr hx hb d_ ?_
    exact hP _ _ _ _ _ _ hop ad H locs ls hE hHP hKC hvl (ai_okc trivial (ai_ok2 (ai_ok2 hvs))) hlv hS hu hw
  · exact hop.elim

theorem s_iushr {T : Nat → ai_Mt} {M : ai_Mt} {pc nx : Nat}  (d_ : decode M.2.1 pc = .ok (.iushr, 1)) (hn : pc + 1 = nx) : ai_Sn T M pc (op_i2 (fun x y => (x.toUInt32 >>> (y.toUInt32 &&& Int32.toUInt32 31)).toInt32) nx) := by
  intro Γ d C Q P hC hRo hCl hR hP u w lo st h hop
  obtain ⟨l, R, p, e, s, m, args, below, meth, c, Qm, D, cA, n0, vz, L, xs, ad0, h0⟩ := Γ
  obtain ⟨hx, hb, hml, hown, hts, hnm, hrc, hrs⟩ := hC
  intro ad H locs ls hE hHP hKC hvl hvs hlv hS hu hw
  subst hn
  unfold op_i2 at hop
  split at hop
  · refine lv_iushr hx hb d_ rfl ?_
    exact hP _ _ _ _ _ _ hop ad H locs ls hE hHP hKC hvl (ai_okc trivial (ai_ok2 (ai_ok2 hvs))) hlv hS hu hw
  · exact hop.elim

theorem s_ineg {T : Nat → ai_Mt} {M : ai_Mt} {pc nx : Nat}  (d_ : decode M.2.1 pc = .ok (.ineg, 1)) (hn : pc + 1 = nx) : ai_Sn T M pc (op_i1 (fun x => -x) nx) := by
  intro Γ d C Q P hC hRo hCl hR hP u w lo st h hop
  obtain ⟨l, R, p, e, s, m, args, below, meth, c, Qm, D, cA, n0, vz, L, xs, ad0, h0⟩ := Γ
  obtain ⟨hx, hb, hml, hown, hts, hnm, hrc, hrs⟩ := hC
  intro ad H locs ls hE hHP hKC hvl hvs hlv hS hu hw
  subst hn
  unfold op_i1 at hop
  split at hop
  · refine lv_ineg hx hb d_ ?_
    exact hP _ _ _ _ _ _ hop ad H locs ls hE hHP hKC hvl (ai_okc trivial (ai_ok2 hvs)) hlv hS hu hw
  · exact hop.elim

theorem s_i2b {T : Nat → ai_Mt} {M : ai_Mt} {pc nx : Nat}  (d_ : decode M.2.1 pc = .ok (.i2b, 1)) (hn : pc + 1 = nx) : ai_Sn T M pc (op_i1 (fun x => x.toInt8.toInt32) nx) := by
  intro Γ d C Q P hC hRo hCl hR hP u w lo st h hop
  obtain ⟨l, R, p, e, s, m, args, below, meth, c, Qm, D, cA, n0, vz, L, xs, ad0, h0⟩ := Γ
  obtain ⟨hx, hb, hml, hown, hts, hnm, hrc, hrs⟩ := hC
  intro ad H locs ls hE hHP hKC hvl hvs hlv hS hu hw
  subst hn
  unfold op_i1 at hop
  split at hop
  · refine lv_i2b hx hb d_ rfl ?_
    exact hP _ _ _ _ _ _ hop ad H locs ls hE hHP hKC hvl (ai_okc trivial (ai_ok2 hvs)) hlv hS hu hw
  · exact hop.elim

theorem s_i2c {T : Nat → ai_Mt} {M : ai_Mt} {pc nx : Nat}  (d_ : decode M.2.1 pc = .ok (.i2c, 1)) (hn : pc + 1 = nx) : ai_Sn T M pc (op_i1 (fun x => (x.toUInt32 % 65536).toInt32) nx) := by
  intro Γ d C Q P hC hRo hCl hR hP u w lo st h hop
  obtain ⟨l, R, p, e, s, m, args, below, meth, c, Qm, D, cA, n0, vz, L, xs, ad0, h0⟩ := Γ
  obtain ⟨hx, hb, hml, hown, hts, hnm, hrc, hrs⟩ := hC
  intro ad H locs ls hE hHP hKC hvl hvs hlv hS hu hw
  subst hn
  unfold op_i1 at hop
  split at hop
  · refine lv_i2c hx hb d_ rfl ?_
    exact hP _ _ _ _ _ _ hop ad H locs ls hE hHP hKC hvl (ai_okc trivial (ai_ok2 hvs)) hlv hS hu hw
  · exact hop.elim

theorem s_i2l {T : Nat → ai_Mt} {M : ai_Mt} {pc nx : Nat}  (d_ : decode M.2.1 pc = .ok (.i2l, 1)) (hn : pc + 1 = nx) : ai_Sn T M pc (op_i2l nx) := by
  intro Γ d C Q P hC hRo hCl hR hP u w lo st h hop
  obtain ⟨l, R, p, e, s, m, args, below, meth, c, Qm, D, cA, n0, vz, L, xs, ad0, h0⟩ := Γ
  obtain ⟨hx, hb, hml, hown, hts, hnm, hrc, hrs⟩ := hC
  intro ad H locs ls hE hHP hKC hvl hvs hlv hS hu hw
  subst hn
  unfold op_i2l at hop
  split at hop
  · refine lv_i2l hx hb d_ rfl ?_
    exact hP _ _ _ _ _ _ hop ad H locs ls hE hHP hKC hvl (ai_okc trivial (ai_ok2 hvs)) hlv hS hu hw
  · exact hop.elim

theorem s_l2i {T : Nat → ai_Mt} {M : ai_Mt} {pc nx : Nat}  (d_ : decode M.2.1 pc = .ok (.l2i, 1)) (hn : pc + 1 = nx) : ai_Sn T M pc (op_l2i nx) := by
  intro Γ d C Q P hC hRo hCl hR hP u w lo st h hop
  obtain ⟨l, R, p, e, s, m, args, below, meth, c, Qm, D, cA, n0, vz, L, xs, ad0, h0⟩ := Γ
  obtain ⟨hx, hb, hml, hown, hts, hnm, hrc, hrs⟩ := hC
  intro ad H locs ls hE hHP hKC hvl hvs hlv hS hu hw
  subst hn
  unfold op_l2i at hop
  split at hop
  · refine lv_l2i hx hb d_ rfl ?_
    exact hP _ _ _ _ _ _ hop ad H locs ls hE hHP hKC hvl (ai_okc trivial (ai_ok2 hvs)) hlv hS hu hw
  · exact hop.elim

theorem s_ladd {T : Nat → ai_Mt} {M : ai_Mt} {pc nx : Nat}  (d_ : decode M.2.1 pc = .ok (.ladd, 1)) (hn : pc + 1 = nx) : ai_Sn T M pc (op_l2 (fun x y => x + y) nx) := by
  intro Γ d C Q P hC hRo hCl hR hP u w lo st h hop
  obtain ⟨l, R, p, e, s, m, args, below, meth, c, Qm, D, cA, n0, vz, L, xs, ad0, h0⟩ := Γ
  obtain ⟨hx, hb, hml, hown, hts, hnm, hrc, hrs⟩ := hC
  intro ad H locs ls hE hHP hKC hvl hvs hlv hS hu hw
  subst hn
  unfold op_l2 at hop
  split at hop
  · refine lv_ladd hx hb d_ ?_
    exact hP _ _ _ _ _ _ hop ad H locs ls hE hHP hKC hvl (ai_okc trivial (ai_ok2 (ai_ok2 hvs))) hlv hS hu hw
  · exact hop.elim

theorem s_lsub {T : Nat → ai_Mt} {M : ai_Mt} {pc nx : Nat}  (d_ : decode M.2.1 pc = .ok (.lsub, 1)) (hn : pc + 1 = nx) : ai_Sn T M pc (op_l2 (fun x y => x - y) nx) := by
  intro Γ d C Q P hC hRo hCl hR hP u w lo st h hop
  obtain ⟨l, R, p, e, s, m, args, below, meth, c, Qm, D, cA, n0, vz, L, xs, ad0, h0⟩ := Γ
  obtain ⟨hx, hb, hml, hown, hts, hnm, hrc, hrs⟩ := hC
  intro ad H locs ls hE hHP hKC hvl hvs hlv hS hu hw
  subst hn
  unfold op_l2 at hop
  split at hop
  · refine lv_lsub hx hb d_ ?_
    exact hP _ _ _ _ _ _ hop ad H locs ls hE hHP hKC hvl (ai_okc trivial (ai_ok2 (ai_ok2 hvs))) hlv hS hu hw
  · exact hop.elim

theorem s_lmul {T : Nat → ai_Mt} {M : ai_Mt} {pc nx : Nat}  (d_ : decode M.2.1 pc = .ok (.lmul, 1)) (hn : pc + 1 = nx) : ai_Sn T M pc (op_l2 (fun x y => x * y) nx) := by
  intro Γ d C Q P hC hRo hCl hR hP u w lo st h hop
  obtain ⟨l, R, p, e, s, m, args, below, meth, c, Qm, D, cA, n0, vz, L, xs, ad0, h0⟩ := Γ
  obtain ⟨hx, hb, hml, hown, hts, hnm, hrc, hrs⟩ := hC
  intro ad H locs ls hE hHP hKC hvl hvs hlv hS hu hw
  subst hn
  unfold op_l2 at hop
  split at hop
  · refine lv_lmul hx hb d_ ?_
    exact hP _ _ _ _ _ _ hop ad H locs ls hE hHP hKC hvl (ai_okc trivial (ai_ok2 (ai_ok2 hvs))) hlv hS hu hw
  · exact hop.elim

theorem s_lor {T : Nat → ai_Mt} {M : ai_Mt} {pc nx : Nat}  (d_ : decode M.2.1 pc = .ok (.lor, 1)) (hn : pc + 1 = nx) : ai_Sn T M pc (op_l2 (fun x y => x ||| y) nx) := by
  intro Γ d C Q P hC hRo hCl hR hP u w lo st h hop
  obtain ⟨l, R, p, e, s, m, args, below, meth, c, Qm, D, cA, n0, vz, L, xs, ad0, h0⟩ := Γ
  obtain ⟨hx, hb, hml, hown, hts, hnm, hrc, hrs⟩ := hC
  intro ad H locs ls hE hHP hKC hvl hvs hlv hS hu hw
  subst hn
  unfold op_l2 at hop
  split at hop
  · refine lv_lor hx hb d_ ?_
    exact hP _ _ _ _ _ _ hop ad H locs ls hE hHP hKC hvl (ai_okc trivial (ai_ok2 (ai_ok2 hvs))) hlv hS hu hw
  · exact hop.elim

theorem s_lshl {T : Nat → ai_Mt} {M : ai_Mt} {pc nx : Nat}  (d_ : decode M.2.1 pc = .ok (.lshl, 1)) (hn : pc + 1 = nx) : ai_Sn T M pc (op_lshl nx) := by
  intro Γ d C Q P hC hRo hCl hR hP u w lo st h hop
  obtain ⟨l, R, p, e, s, m, args, below, meth, c, Qm, D, cA, n0, vz, L, xs, ad0, h0⟩ := Γ
  obtain ⟨hx, hb, hml, hown, hts, hnm, hrc, hrs⟩ := hC
  intro ad H locs ls hE hHP hKC hvl hvs hlv hS hu hw
  subst hn
  unfold op_lshl at hop
  split at hop
  · refine lv_lshl hx hb d_ rfl ?_
    exact hP _ _ _ _ _ _ hop ad H locs ls hE hHP hKC hvl (ai_okc trivial (ai_ok2 (ai_ok2 hvs))) hlv hS hu hw
  · exact hop.elim

theorem s_lcmp {T : Nat → ai_Mt} {M : ai_Mt} {pc nx : Nat}  (d_ : decode M.2.1 pc = .ok (.lcmp, 1)) (hn : pc + 1 = nx) : ai_Sn T M pc (op_lcmp nx) := by
  intro Γ d C Q P hC hRo hCl hR hP u w lo st h hop
  obtain ⟨l, R, p, e, s, m, args, below, meth, c, Qm, D, cA, n0, vz, L, xs, ad0, h0⟩ := Γ
  obtain ⟨hx, hb, hml, hown, hts, hnm, hrc, hrs⟩ := hC
  intro ad H locs ls hE hHP hKC hvl hvs hlv hS hu hw
  subst hn
  unfold op_lcmp at hop
  split at hop
  · refine W.lcmp hx hb d_ ?_
    exact hP _ _ _ _ _ _ hop ad H locs ls hE hHP hKC hvl (ai_okc trivial (ai_ok2 (ai_ok2 hvs))) hlv hS hu hw
  · exact hop.elim

theorem s_idiv {T : Nat → ai_Mt} {M : ai_Mt} {pc nx : Nat}  (d_ : decode M.2.1 pc = .ok (.idiv, 1)) (hn : pc + 1 = nx) : ai_Sn T M pc (op_idiv nx) := by
  intro Γ d C Q P hC hRo hCl hR hP u w lo st h hop
  obtain ⟨l, R, p, e, s, m, args, below, meth, c, Qm, D, cA, n0, vz, L, xs, ad0, h0⟩ := Γ
  obtain ⟨hx, hb, hml, hown, hts, hnm, hrc, hrs⟩ := hC
  intro ad H locs ls hE hHP hKC hvl hvs hlv hS hu hw
  subst hn
  unfold op_idiv at hop
  split at hop
  · refine lv_idiv hx hb d_ hop.1 ?_
    exact hP _ _ _ _ _ _ hop.2 ad H locs ls hE hHP hKC hvl (ai_okc trivial (ai_ok2 (ai_ok2 hvs))) hlv hS hu hw
  · exact hop.elim

theorem s_irem {T : Nat → ai_Mt} {M : ai_Mt} {pc nx : Nat}  (d_ : decode M.2.1 pc = .ok (.irem, 1)) (hn : pc + 1 = nx) : ai_Sn T M pc (op_irem nx) := by
  intro Γ d C Q P hC hRo hCl hR hP u w lo st h hop
  obtain ⟨l, R, p, e, s, m, args, below, meth, c, Qm, D, cA, n0, vz, L, xs, ad0, h0⟩ := Γ
  obtain ⟨hx, hb, hml, hown, hts, hnm, hrc, hrs⟩ := hC
  intro ad H locs ls hE hHP hKC hvl hvs hlv hS hu hw
  subst hn
  unfold op_irem at hop
  split at hop
  · refine lv_irem hx hb d_ hop.1 ?_
    exact hP _ _ _ _ _ _ hop.2 ad H locs ls hE hHP hKC hvl (ai_okc trivial (ai_ok2 (ai_ok2 hvs))) hlv hS hu hw
  · exact hop.elim

theorem s_ldiv {T : Nat → ai_Mt} {M : ai_Mt} {pc nx : Nat}  (d_ : decode M.2.1 pc = .ok (.ldiv, 1)) (hn : pc + 1 = nx) : ai_Sn T M pc (op_ldiv nx) := by
  intro Γ d C Q P hC hRo hCl hR hP u w lo st h hop
  obtain ⟨l, R, p, e, s, m, args, below, meth, c, Qm, D, cA, n0, vz, L, xs, ad0, h0⟩ := Γ
  obtain ⟨hx, hb, hml, hown, hts, hnm, hrc, hrs⟩ := hC
  intro ad H locs ls hE hHP hKC hvl hvs hlv hS hu hw
  subst hn
  unfold op_ldiv at hop
  split at hop
  · refine lv_ldiv hx hb d_ hop.1 ?_
    exact hP _ _ _ _ _ _ hop.2 ad H locs ls hE hHP hKC hvl (ai_okc trivial (ai_ok2 (ai_ok2 hvs))) hlv hS hu hw
  · exact hop.elim

theorem s_lrem {T : Nat → ai_Mt} {M : ai_Mt} {pc nx : Nat}  (d_ : decode M.2.1 pc = .ok (.lrem, 1)) (hn : pc + 1 = nx) : ai_Sn T M pc (op_lrem nx) := by
  intro Γ d C Q P hC hRo hCl hR hP u w lo st h hop
  obtain ⟨l, R, p, e, s, m, args, below, meth, c, Qm, D, cA, n0, vz, L, xs, ad0, h0⟩ := Γ
  obtain ⟨hx, hb, hml, hown, hts, hnm, hrc, hrs⟩ := hC
  intro ad H locs ls hE hHP hKC hvl hvs hlv hS hu hw
  subst hn
  unfold op_lrem at hop
  split at hop
  · refine lv_lrem hx hb d_ hop.1 ?_
    exact hP _ _ _ _ _ _ hop.2 ad H locs ls hE hHP hKC hvl (ai_okc trivial (ai_ok2 (ai_ok2 hvs))) hlv hS hu hw
  · exact hop.elim

theorem s_icmplt {T : Nat → ai_Mt} {M : ai_Mt} {pc nx tgt : Nat} {off : Int} (d_ : decode M.2.1 pc = .ok (.if_icmp .lt off, 3)) (hn : pc + 3 = nx) (ht : (pc : Int) + off = (tgt : Int)) : ai_Sn T M pc (op_lt2 tgt nx) := by
  intro Γ d C Q P hC hRo hCl hR hP u w lo st h hop
  obtain ⟨l, R, p, e, s, m, args, below, meth, c, Qm, D, cA, n0, vz, L, xs, ad0, h0⟩ := Γ
  obtain ⟨hx, hb, hml, hown, hts, hnm, hrc, hrs⟩ := hC
  intro ad H locs ls hE hHP hKC hvl hvs hlv hS hu hw
  subst hn
  unfold op_lt2 at hop
  split at hop
  · refine lv_icmp_lt hx hb d_ ht (fun q => ?_) (fun q => ?_)
    · exact hP _ _ _ _ _ _ (hop.1 q) ad H locs ls hE hHP hKC hvl (ai_ok2 (ai_ok2 hvs)) hlv hS hu hw
    · exact hP _ _ _ _ _ _ (hop.2 q) ad H locs ls hE hHP hKC hvl (ai_ok2 (ai_ok2 hvs)) hlv hS hu hw
  · exact hop.elim

theorem s_icmpge {T : Nat → ai_Mt} {M : ai_Mt} {pc nx tgt : Nat} {off : Int} (d_ : decode M.2.1 pc = .ok (.if_icmp .ge off, 3)) (hn : pc + 3 = nx) (ht : (pc : Int) + off = (tgt : Int)) : ai_Sn T M pc (op_lt2 nx tgt) := by
  intro Γ d C Q P hC hRo hCl hR hP u w lo st h hop
  obtain ⟨l, R, p, e, s, m, args, below, meth, c, Qm, D, cA, n0, vz, L, xs, ad0, h0⟩ := Γ
  obtain ⟨hx, hb, hml, hown, hts, hnm, hrc, hrs⟩ := hC
  intro ad H locs ls hE hHP hKC hvl hvs hlv hS hu hw
  subst hn
  unfold op_lt2 at hop
  split at hop
  · refine lv_icmp_ge hx hb d_ ht (fun q => ?_) (fun q => ?_)
    · exact hP _ _ _ _ _ _ (hop.2 (Int32.not_lt.mpr q)) ad H locs ls hE hHP hKC hvl (ai_ok2 (ai_ok2 hvs)) hlv hS hu hw
    · exact hP _ _ _ _ _ _ (hop.1 (Int32.not_le.mp q)) ad H locs ls hE hHP hKC hvl (ai_ok2 (ai_ok2 hvs)) hlv hS hu hw
  · exact hop.elim

theorem s_icmpgt {T : Nat → ai_Mt} {M : ai_Mt} {pc nx tgt : Nat} {off : Int} (d_ : decode M.2.1 pc = .ok (.if_icmp .gt off, 3)) (hn : pc + 3 = nx) (ht : (pc : Int) + off = (tgt : Int)) : ai_Sn T M pc (op_gt2 tgt nx) := by
  intro Γ d C Q P hC hRo hCl hR hP u w lo st h hop
  obtain ⟨l, R, p, e, s, m, args, below, meth, c, Qm, D, cA, n0, vz, L, xs, ad0, h0⟩ := Γ
  obtain ⟨hx, hb, hml, hown, hts, hnm, hrc, hrs⟩ := hC
  intro ad H locs ls hE hHP hKC hvl hvs hlv hS hu hw
  subst hn
  unfold op_gt2 at hop
  split at hop
  · refine lv_icmp_gt hx hb d_ ht (fun q => ?_) (fun q => ?_)
    · exact hP _ _ _ _ _ _ (hop.1 q) ad H locs ls hE hHP hKC hvl (ai_ok2 (ai_ok2 hvs)) hlv hS hu hw
    · exact hP _ _ _ _ _ _ (hop.2 q) ad H locs ls hE hHP hKC hvl (ai_ok2 (ai_ok2 hvs)) hlv hS hu hw
  · exact hop.elim

theorem s_icmple {T : Nat → ai_Mt} {M : ai_Mt} {pc nx tgt : Nat} {off : Int} (d_ : decode M.2.1 pc = .ok (.if_icmp .le off, 3)) (hn : pc + 3 = nx) (ht : (pc : Int) + off = (tgt : Int)) : ai_Sn T M pc (op_gt2 nx tgt) := by
  intro Γ d C Q P hC hRo hCl hR hP u w lo st h hop
  obtain ⟨l, R, p, e, s, m, args, below, meth, c, Qm, D, cA, n0, vz, L, xs, ad0, h0⟩ := Γ
  obtain ⟨hx, hb, hml, hown, hts, hnm, hrc, hrs⟩ := hC
  intro ad H locs ls hE hHP hKC hvl hvs hlv hS hu hw
  subst hn
  unfold op_gt2 at hop
  split at hop
  · refine lv_icmp_le hx hb d_ ht (fun q => ?_) (fun q => ?_)
    · exact hP _ _ _ _ _ _ (hop.2 (Int32.not_lt.mpr q)) ad H locs ls hE hHP hKC hvl (ai_ok2 (ai_ok2 hvs)) hlv hS hu hw
    · exact hP _ _ _ _ _ _ (hop.1 (Int32.not_le.mp q)) ad H locs ls hE hHP hKC hvl (ai_ok2 (ai_ok2 hvs)) hlv hS hu hw
  · exact hop.elim

theorem s_icmpeq {T : Nat → ai_Mt} {M : ai_Mt} {pc nx tgt : Nat} {off : Int} (d_ : decode M.2.1 pc = .ok (.if_icmp .eq off, 3)) (hn : pc + 3 = nx) (ht : (pc : Int) + off = (tgt : Int)) : ai_Sn T M pc (op_eq2 tgt nx) := by
  intro Γ d C Q P hC hRo hCl hR hP u w lo st h hop
  obtain ⟨l, R, p, e, s, m, args, below, meth, c, Qm, D, cA, n0, vz, L, xs, ad0, h0⟩ := Γ
  obtain ⟨hx, hb, hml, hown, hts, hnm, hrc, hrs⟩ := hC
  intro ad H locs ls hE hHP hKC hvl hvs hlv hS hu hw
  subst hn
  unfold op_eq2 at hop
  split at hop
  · refine lv_icmp_eq hx hb d_ ht (fun q => ?_) (fun q => ?_)
    · exact hP _ _ _ _ _ _ (hop.1 q) ad H locs ls hE hHP hKC hvl (ai_ok2 (ai_ok2 hvs)) hlv hS hu hw
    · exact hP _ _ _ _ _ _ (hop.2 q) ad H locs ls hE hHP hKC hvl (ai_ok2 (ai_ok2 hvs)) hlv hS hu hw
  · exact hop.elim

theorem s_icmpne {T : Nat → ai_Mt} {M : ai_Mt} {pc nx tgt : Nat} {off : Int} (d_ : decode M.2.1 pc = .ok (.if_icmp .ne off, 3)) (hn : pc + 3 = nx) (ht : (pc : Int) + off = (tgt : Int)) : ai_Sn T M pc (op_eq2 nx tgt) := by
  intro Γ d C Q P hC hRo hCl hR hP u w lo st h hop
  obtain ⟨l, R, p, e, s, m, args, below, meth, c, Qm, D, cA, n0, vz, L, xs, ad0, h0⟩ := Γ
  obtain ⟨hx, hb, hml, hown, hts, hnm, hrc, hrs⟩ := hC
  intro ad H locs ls hE hHP hKC hvl hvs hlv hS hu hw
  subst hn
  unfold op_eq2 at hop
  split at hop
  · refine lv_icmp_ne hx hb d_ ht (fun q => ?_) (fun q => ?_)
    · exact hP _ _ _ _ _ _ (hop.2 (q)) ad H locs ls hE hHP hKC hvl (ai_ok2 (ai_ok2 hvs)) hlv hS hu hw
    · exact hP _ _ _ _ _ _ (hop.1 (q)) ad H locs ls hE hHP hKC hvl (ai_ok2 (ai_ok2 hvs)) hlv hS hu hw
  · exact hop.elim

theorem s_iflt {T : Nat → ai_Mt} {M : ai_Mt} {pc nx tgt : Nat} {off : Int} (d_ : decode M.2.1 pc = .ok (.ifCond .lt off, 3)) (hn : pc + 3 = nx) (ht : (pc : Int) + off = (tgt : Int)) : ai_Sn T M pc (op_lt0 tgt nx) := by
  intro Γ d C Q P hC hRo hCl hR hP u w lo st h hop
  obtain ⟨l, R, p, e, s, m, args, below, meth, c, Qm, D, cA, n0, vz, L, xs, ad0, h0⟩ := Γ
  obtain ⟨hx, hb, hml, hown, hts, hnm, hrc, hrs⟩ := hC
  intro ad H locs ls hE hHP hKC hvl hvs hlv hS hu hw
  subst hn
  unfold op_lt0 at hop
  split at hop
  · refine lv_if_lt hx hb d_ ht (fun q => ?_) (fun q => ?_)
    · exact hP _ _ _ _ _ _ (hop.1 q) ad H locs ls hE hHP hKC hvl (ai_ok2 hvs) hlv hS hu hw
    · exact hP _ _ _ _ _ _ (hop.2 q) ad H locs ls hE hHP hKC hvl (ai_ok2 hvs) hlv hS hu hw
  · exact hop.elim

theorem s_ifge {T : Nat → ai_Mt} {M : ai_Mt} {pc nx tgt : Nat} {off : Int} (d_ : decode M.2.1 pc = .ok (.ifCond .ge off, 3)) (hn : pc + 3 = nx) (ht : (pc : Int) + off = (tgt : Int)) : ai_Sn T M pc (op_lt0 nx tgt) := by
  intro Γ d C Q P hC hRo hCl hR hP u w lo st h hop
  obtain ⟨l, R, p, e, s, m, args, below, meth, c, Qm, D, cA, n0, vz, L, xs, ad0, h0⟩ := Γ
  obtain ⟨hx, hb, hml, hown, hts, hnm, hrc, hrs⟩ := hC
  intro ad H locs ls hE hHP hKC hvl hvs hlv hS hu hw
  subst hn
  unfold op_lt0 at hop
  split at hop
  · refine lv_if_ge hx hb d_ ht (fun q => ?_) (fun q => ?_)
    · exact hP _ _ _ _ _ _ (hop.2 (Int32.not_lt.mpr q)) ad H locs ls hE hHP hKC hvl (ai_ok2 hvs) hlv hS hu hw
    · exact hP _ _ _ _ _ _ (hop.1 (Int32.not_le.mp q)) ad H locs ls hE hHP hKC hvl (ai_ok2 hvs) hlv hS hu hw
  · exact hop.elim

theorem s_ifgt {T : Nat → ai_Mt} {M : ai_Mt} {pc nx tgt : Nat} {off : Int} (d_ : decode M.2.1 pc = .ok (.ifCond .gt off, 3)) (hn : pc + 3 = nx) (ht : (pc : Int) + off = (tgt : Int)) : ai_Sn T M pc (op_gt0 tgt nx) := by
  intro Γ d C Q P hC hRo hCl hR hP u w lo st h hop
  obtain ⟨l, R, p, e, s, m, args, below, meth, c, Qm, D, cA, n0, vz, L, xs, ad0, h0⟩ := Γ
  obtain ⟨hx, hb, hml, hown, hts, hnm, hrc, hrs⟩ := hC
  intro ad H locs ls hE hHP hKC hvl hvs hlv hS hu hw
  subst hn
  unfold op_gt0 at hop
  split at hop
  · refine lv_if_gt hx hb d_ ht (fun q => ?_) (fun q => ?_)
    · exact hP _ _ _ _ _ _ (hop.1 q) ad H locs ls hE hHP hKC hvl (ai_ok2 hvs) hlv hS hu hw
    · exact hP _ _ _ _ _ _ (hop.2 q) ad H locs ls hE hHP hKC hvl (ai_ok2 hvs) hlv hS hu hw
  · exact hop.elim

theorem s_ifle {T : Nat → ai_Mt} {M : ai_Mt} {pc nx tgt : Nat} {off : Int} (d_ : decode M.2.1 pc = .ok (.ifCond .le off, 3)) (hn : pc + 3 = nx) (ht : (pc : Int) + off = (tgt : Int)) : ai_Sn T M pc (op_gt0 nx tgt) := by
  intro Γ d C Q P hC hRo hCl hR hP u w lo st h hop
  obtain ⟨l, R, p, e, s, m, args, below, meth, c, Qm, D, cA, n0, vz, L, xs, ad0, h0⟩ := Γ
  obtain ⟨hx, hb, hml, hown, hts, hnm, hrc, hrs⟩ := hC
  intro ad H locs ls hE hHP hKC hvl hvs hlv hS hu hw
  subst hn
  unfold op_gt0 at hop
  split at hop
  · refine lv_if_le hx hb d_ ht (fun q => ?_) (fun q => ?_)
    · exact hP _ _ _ _ _ _ (hop.2 (Int32.not_lt.mpr q)) ad H locs ls hE hHP hKC hvl (ai_ok2 hvs) hlv hS hu hw
    · exact hP _ _ _ _ _ _ (hop.1 (Int32.not_le.mp q)) ad H locs ls hE hHP hKC hvl (ai_ok2 hvs) hlv hS hu hw
  · exact hop.elim

theorem s_ifeq {T : Nat → ai_Mt} {M : ai_Mt} {pc nx tgt : Nat} {off : Int} (d_ : decode M.2.1 pc = .ok (.ifCond .eq off, 3)) (hn : pc + 3 = nx) (ht : (pc : Int) + off = (tgt : Int)) : ai_Sn T M pc (op_eq0 tgt nx) := by
  intro Γ d C Q P hC hRo hCl hR hP u w lo st h hop
  obtain ⟨l, R, p, e, s, m, args, below, meth, c, Qm, D, cA, n0, vz, L, xs, ad0, h0⟩ := Γ
  obtain ⟨hx, hb, hml, hown, hts, hnm, hrc, hrs⟩ := hC
  intro ad H locs ls hE hHP hKC hvl hvs hlv hS hu hw
  subst hn
  unfold op_eq0 at hop
  split at hop
  · refine lv_if_eq hx hb d_ ht (fun q => ?_) (fun q => ?_)
    · exact hP _ _ _ _ _ _ (hop.1 q) ad H locs ls hE hHP hKC hvl (ai_ok2 hvs) hlv hS hu hw
    · exact hP _ _ _ _ _ _ (hop.2 q) ad H locs ls hE hHP hKC hvl (ai_ok2 hvs) hlv hS hu hw
  · exact hop.elim

theorem s_ifne {T : Nat → ai_Mt} {M : ai_Mt} {pc nx tgt : Nat} {off : Int} (d_ : decode M.2.1 pc = .ok (.ifCond .ne off, 3)) (hn : pc + 3 = nx) (ht : (pc : Int) + off = (tgt : Int)) : ai_Sn T M pc (op_eq0 nx tgt) := by
  intro Γ d C Q P hC hRo hCl hR hP u w lo st h hop
  obtain ⟨l, R, p, e, s, m, args, below, meth, c, Qm, D, cA, n0, vz, L, xs, ad0, h0⟩ := Γ
  obtain ⟨hx, hb, hml, hown, hts, hnm, hrc, hrs⟩ := hC
  intro ad H locs ls hE hHP hKC hvl hvs hlv hS hu hw
  subst hn
  unfold op_eq0 at hop
  split at hop
  · refine lv_if_ne hx hb d_ ht (fun q => ?_) (fun q => ?_)
    · exact hP _ _ _ _ _ _ (hop.2 (q)) ad H locs ls hE hHP hKC hvl (ai_ok2 hvs) hlv hS hu hw
    · exact hP _ _ _ _ _ _ (hop.1 (q)) ad H locs ls hE hHP hKC hvl (ai_ok2 hvs) hlv hS hu hw
  · exact hop.elim

theorem s_goto {T : Nat → ai_Mt} {M : ai_Mt} {pc tgt : Nat} {off : Int} (d_ : decode M.2.1 pc = .ok (.goto off, 3)) (ht : (pc : Int) + off = (tgt : Int)) : ai_Sn T M pc (op_goto tgt) := by
  intro Γ d C Q P hC hRo hCl hR hP u w lo st h hop
  obtain ⟨l, R, p, e, s, m, args, below, meth, c, Qm, D, cA, n0, vz, L, xs, ad0, h0⟩ := Γ
  obtain ⟨hx, hb, hml, hown, hts, hnm, hrc, hrs⟩ := hC
  intro ad H locs ls hE hHP hKC hvl hvs hlv hS hu hw
  refine lv_goto hx hb d_ ht ?_
  exact hP _ _ _ _ _ _ hop ad H locs ls hE hHP hKC hvl hvs hlv hS hu hw

theorem s_iload {T : Nat → ai_Mt} {M : ai_Mt} {pc nx : Nat} {i : Nat} (hi : i < M.2.2.1) (d_ : decode M.2.1 pc = .ok (.iload i, 2)) (hn : pc + 2 = nx) : ai_Sn T M pc (op_iload i nx) := by
  intro Γ d C Q P hC hRo hCl hR hP u w lo st h hop
  obtain ⟨l, R, p, e, s, m, args, below, meth, c, Qm, D, cA, n0, vz, L, xs, ad0, h0⟩ := Γ
  obtain ⟨hx, hb, hml, hown, hts, hnm, hrc, hrs⟩ := hC
  intro ad H locs ls hE hHP hKC hvl hvs hlv hS hu hw
  subst hn
  unfold op_iload at hop
  split at hop
  · rename_i x hl
    refine lv_iload hx hb d_ (ai_lv_get hlv hl hi) ?_
    exact hP _ _ _ _ _ _ hop ad H locs ls hE hHP hKC hvl (ai_okc trivial hvs) hlv hS hu hw
  · exact hop.elim

theorem s_iload_n {T : Nat → ai_Mt} {M : ai_Mt} {pc nx : Nat} {k : Fin 4} {i : Nat} (hk : (k : Nat) = i) (hi : i < M.2.2.1) (d_ : decode M.2.1 pc = .ok (.iload_n k, 1)) (hn : pc + 1 = nx) : ai_Sn T M pc (op_iload i nx) := by
  intro Γ d C Q P hC hRo hCl hR hP u w lo st h hop
  obtain ⟨l, R, p, e, s, m, args, below, meth, c, Qm, D, cA, n0, vz, L, xs, ad0, h0⟩ := Γ
  obtain ⟨hx, hb, hml, hown, hts, hnm, hrc, hrs⟩ := hC
  intro ad H locs ls hE hHP hKC hvl hvs hlv hS hu hw
  subst hn
  unfold op_iload at hop
  split at hop
  · rename_i x hl
    refine lv_iload_n hx hb d_ hk (ai_lv_get hlv hl hi) ?_
    exact hP _ _ _ _ _ _ hop ad H locs ls hE hHP hKC hvl (ai_okc trivial hvs) hlv hS hu hw
  · exact hop.elim

theorem s_lload {T : Nat → ai_Mt} {M : ai_Mt} {pc nx : Nat} {i : Nat} (hi : i < M.2.2.1) (d_ : decode M.2.1 pc = .ok (.lload i, 2)) (hn : pc + 2 = nx) : ai_Sn T M pc (op_lload i nx) := by
  intro Γ d C Q P hC hRo hCl hR hP u w lo st h hop
  obtain ⟨l, R, p, e, s, m, args, below, meth, c, Qm, D, cA, n0, vz, L, xs, ad0, h0⟩ := Γ
  obtain ⟨hx, hb, hml, hown, hts, hnm, hrc, hrs⟩ := hC
  intro ad H locs ls hE hHP hKC hvl hvs hlv hS hu hw
  subst hn
  unfold op_lload at hop
  split at hop
  · rename_i x hl
    refine lv_lload hx hb d_ (ai_lv_get hlv hl hi) ?_
    exact hP _ _ _ _ _ _ hop ad H locs ls hE hHP hKC hvl (ai_okc trivial hvs) hlv hS hu hw
  · exact hop.elim

theorem s_lload_n {T : Nat → ai_Mt} {M : ai_Mt} {pc nx : Nat} {k : Fin 4} {i : Nat} (hk : (k : Nat) = i) (hi : i < M.2.2.1) (d_ : decode M.2.1 pc = .ok (.lload_n k, 1)) (hn : pc + 1 = nx) : ai_Sn T M pc (op_lload i nx) := by
  intro Γ d C Q P hC hRo hCl hR hP u w lo st h hop
  obtain ⟨l, R, p, e, s, m, args, below, meth, c, Qm, D, cA, n0, vz, L, xs, ad0, h0⟩ := Γ
  obtain ⟨hx, hb, hml, hown, hts, hnm, hrc, hrs⟩ := hC
  intro ad H locs ls hE hHP hKC hvl hvs hlv hS hu hw
  subst hn
  unfold op_lload at hop
  split at hop
  · rename_i x hl
    refine lv_lload_n hx hb d_ hk (ai_lv_get hlv hl hi) ?_
    exact hP _ _ _ _ _ _ hop ad H locs ls hE hHP hKC hvl (ai_okc trivial hvs) hlv hS hu hw
  · exact hop.elim

theorem s_aload {T : Nat → ai_Mt} {M : ai_Mt} {pc nx : Nat} {i : Nat} (hi : i < M.2.2.1) (d_ : decode M.2.1 pc = .ok (.aload i, 2)) (hn : pc + 2 = nx) : ai_Sn T M pc (op_aload i nx) := by
  intro Γ d C Q P hC hRo hCl hR hP u w lo st h hop
  obtain ⟨l, R, p, e, s, m, args, below, meth, c, Qm, D, cA, n0, vz, L, xs, ad0, h0⟩ := Γ
  obtain ⟨hx, hb, hml, hown, hts, hnm, hrc, hrs⟩ := hC
  intro ad H locs ls hE hHP hKC hvl hvs hlv hS hu hw
  subst hn
  unfold op_aload at hop
  split at hop
  · rename_i k2 a hl
    obtain ⟨hk2, hop⟩ := ai_condT hop
    have hk3 : k2 < 20 := Nat.blt_eq.mp hk2
    have hl2 : ls[i]? = some (.val (.ref (ad k2 a))) := by
      have h1 := ai_lv_get hlv hl hi
      rw [h1]
      show some (Slot.val (cond (Nat.beq k2 20) vz (.ref (ad k2 a)))) = _
      rw [ai_nb hk3]
      rfl
    refine lv_aload hx hb d_ hl2 ?_
    have h3 := hP _ _ _ _ _ _ hop ad H locs ls hE hHP hKC hvl (ai_okc (hvl _ _ hl) hvs) hlv hS hu hw
    have e : ai_cv vz ad (aR k2 a) = .ref (ad k2 a) := by
      show cond (Nat.beq k2 20) vz (.ref (ad k2 a)) = _
      rw [ai_nb hk3]
      rfl
    rw [List.map_cons, e] at h3
    exact h3
  · exact hop.elim

theorem s_aload_n {T : Nat → ai_Mt} {M : ai_Mt} {pc nx : Nat} {k : Fin 4} {i : Nat} (hk : (k : Nat) = i) (hi : i < M.2.2.1) (d_ : decode M.2.1 pc = .ok (.aload_n k, 1)) (hn : pc + 1 = nx) : ai_Sn T M pc (op_aload i nx) := by
  intro Γ d C Q P hC hRo hCl hR hP u w lo st h hop
  obtain ⟨l, R, p, e, s, m, args, below, meth, c, Qm, D, cA, n0, vz, L, xs, ad0, h0⟩ := Γ
  obtain ⟨hx, hb, hml, hown, hts, hnm, hrc, hrs⟩ := hC
  intro ad H locs ls hE hHP hKC hvl hvs hlv hS hu hw
  subst hn
  unfold op_aload at hop
  split at hop
  · rename_i k2 a hl
    obtain ⟨hk2, hop⟩ := ai_condT hop
    have hk3 : k2 < 20 := Nat.blt_eq.mp hk2
    have hl2 : ls[i]? = some (.val (.ref (ad k2 a))) := by
      have h1 := ai_lv_get hlv hl hi
      rw [h1]
      show some (Slot.val (cond (Nat.beq k2 20) vz (.ref (ad k2 a)))) = _
      rw [ai_nb hk3]
      rfl
    refine lv_aload_n hx hb d_ hk hl2 ?_
    have h3 := hP _ _ _ _ _ _ hop ad H locs ls hE hHP hKC hvl (ai_okc (hvl _ _ hl) hvs) hlv hS hu hw
    have e : ai_cv vz ad (aR k2 a) = .ref (ad k2 a) := by
      show cond (Nat.beq k2 20) vz (.ref (ad k2 a)) = _
      rw [ai_nb hk3]
      rfl
    rw [List.map_cons, e] at h3
    exact h3
  · exact hop.elim

theorem s_istore {b : Bool} {T : Nat → ai_Mt} {M : ai_Mt} {pc nx : Nat} {i : Nat} (hi : i < M.2.2.1) (d_ : decode M.2.1 pc = .ok (.istore i, 2)) (hn : pc + 2 = nx) : ai_Sn T M pc (op_istore b i nx) := by
  intro Γ d C Q P hC hRo hCl hR hP u w lo st h hop
  obtain ⟨l, R, p, e, s, m, args, below, meth, c, Qm, D, cA, n0, vz, L, xs, ad0, h0⟩ := Γ
  obtain ⟨hx, hb, hml, hown, hts, hnm, hrc, hrs⟩ := hC
  intro ad H locs ls hE hHP hKC hvl hvs hlv hS hu hw
  subst hn
  unfold op_istore at hop
  split at hop
  · rename_i x r
    refine lv_istore hx hb d_ hlv hi rfl (fun ls' hl' => ?_)
    exact hP _ _ _ _ _ _ hop ad H locs ls' hE hHP hKC (ai_okl_st1 hvl trivial) (ai_ok2 hvs) (ai_lv_st1 hKC.2.2.2.2.2.2.2.2 (v := aI x) hl') hS hu hw
  · exact hop.elim

theorem s_istore_n {b : Bool} {T : Nat → ai_Mt} {M : ai_Mt} {pc nx : Nat} {k : Fin 4} {i : Nat} (hk : (k : Nat) = i) (hi : i < M.2.2.1) (d_ : decode M.2.1 pc = .ok (.istore_n k, 1)) (hn : pc + 1 = nx) : ai_Sn T M pc (op_istore b i nx) := by
  intro Γ d C Q P hC hRo hCl hR hP u w lo st h hop
  obtain ⟨l, R, p, e, s, m, args, below, meth, c, Qm, D, cA, n0, vz, L, xs, ad0, h0⟩ := Γ
  obtain ⟨hx, hb, hml, hown, hts, hnm, hrc, hrs⟩ := hC
  intro ad H locs ls hE hHP hKC hvl hvs hlv hS hu hw
  subst hn
  unfold op_istore at hop
  split at hop
  · rename_i x r
    refine lv_istore_n hx hb d_ hk hlv hi rfl (fun ls' hl' => ?_)
    exact hP _ _ _ _ _ _ hop ad H locs ls' hE hHP hKC (ai_okl_st1 hvl trivial) (ai_ok2 hvs) (ai_lv_st1 hKC.2.2.2.2.2.2.2.2 (v := aI x) hl') hS hu hw
  · exact hop.elim

theorem s_lstore {b : Bool} {T : Nat → ai_Mt} {M : ai_Mt} {pc nx : Nat} {i : Nat} (hi : i + 1 < M.2.2.1) (d_ : decode M.2.1 pc = .ok (.lstore i, 2)) (hn : pc + 2 = nx) : ai_Sn T M pc (op_lstore b i nx) := by
  intro Γ d C Q P hC hRo hCl hR hP u w lo st h hop
  obtain ⟨l, R, p, e, s, m, args, below, meth, c, Qm, D, cA, n0, vz, L, xs, ad0, h0⟩ := Γ
  obtain ⟨hx, hb, hml, hown, hts, hnm, hrc, hrs⟩ := hC
  intro ad H locs ls hE hHP hKC hvl hvs hlv hS hu hw
  subst hn
  unfold op_lstore at hop
  split at hop
  · rename_i x r
    refine lv_lstore hx hb d_ hlv hi rfl (fun ls' hl' => ?_)
    exact hP _ _ _ _ _ _ hop ad H locs ls' hE hHP hKC (ai_okl_st2 hvl trivial) (ai_ok2 hvs) (ai_lv_st2 hKC.2.2.2.2.2.2.2.2 (v := aL x) hl') hS hu hw
  · exact hop.elim

theorem s_lstore_n {b : Bool} {T : Nat → ai_Mt} {M : ai_Mt} {pc nx : Nat} {k : Fin 4} {i : Nat} (hk : (k : Nat) = i) (hi : i + 1 < M.2.2.1) (d_ : decode M.2.1 pc = .ok (.lstore_n k, 1)) (hn : pc + 1 = nx) : ai_Sn T M pc (op_lstore b i nx) := by
  intro Γ d C Q P hC hRo hCl hR hP u w lo st h hop
  obtain ⟨l, R, p, e, s, m, args, below, meth, c, Qm, D, cA, n0, vz, L, xs, ad0, h0⟩ := Γ
  obtain ⟨hx, hb, hml, hown, hts, hnm, hrc, hrs⟩ := hC
  intro ad H locs ls hE hHP hKC hvl hvs hlv hS hu hw
  subst hn
  unfold op_lstore at hop
  split at hop
  · rename_i x r
    refine lv_lstore_n hx hb d_ hk hlv hi rfl (fun ls' hl' => ?_)
    exact hP _ _ _ _ _ _ hop ad H locs ls' hE hHP hKC (ai_okl_st2 hvl trivial) (ai_ok2 hvs) (ai_lv_st2 hKC.2.2.2.2.2.2.2.2 (v := aL x) hl') hS hu hw
  · exact hop.elim

theorem s_astore_n {b : Bool} {T : Nat → ai_Mt} {M : ai_Mt} {pc nx : Nat} {k : Fin 4} {i : Nat} (hk : (k : Nat) = i) (hi : i < M.2.2.1) (d_ : decode M.2.1 pc = .ok (.astore_n k, 1)) (hn : pc + 1 = nx) : ai_Sn T M pc (op_astore b i nx) := by
  intro Γ d C Q P hC hRo hCl hR hP u w lo st h hop
  obtain ⟨l, R, p, e, s, m, args, below, meth, c, Qm, D, cA, n0, vz, L, xs, ad0, h0⟩ := Γ
  obtain ⟨hx, hb, hml, hown, hts, hnm, hrc, hrs⟩ := hC
  intro ad H locs ls hE hHP hKC hvl hvs hlv hS hu hw
  subst hn
  unfold op_astore at hop
  split at hop
  · rename_i k2 a r
    obtain ⟨hk2, hop⟩ := ai_condT hop
    have hk3 : k2 < 20 := Nat.blt_eq.mp hk2
    have e : ai_cv vz ad (aR k2 a) = .ref (ad k2 a) := by
      show cond (Nat.beq k2 20) vz (.ref (ad k2 a)) = _
      rw [ai_nb hk3]
      rfl
    rw [List.map_cons, e]
    refine lv_astore_n hx hb d_ hk hlv hi rfl (fun ls' hl' => ?_)
    exact hP _ _ _ _ _ _ hop ad H locs ls' hE hHP hKC (ai_okl_st1 hvl (ai_ok1 hvs)) (ai_ok2 hvs) (ai_lv_st1 hKC.2.2.2.2.2.2.2.2 (v := aR k2 a) (by rw [e]; exact hl')) hS hu hw
  · exact hop.elim

theorem s_iinc {b : Bool} {T : Nat → ai_Mt} {M : ai_Mt} {pc nx : Nat} {i : Nat} {n : Int} {v : Int32} (hv : Int32.ofInt n = v) (hi : i < M.2.2.1) (d_ : decode M.2.1 pc = .ok (.iinc i n, 3)) (hn : pc + 3 = nx) : ai_Sn T M pc (op_iinc b i v nx) := by
  intro Γ d C Q P hC hRo hCl hR hP u w lo st h hop
  obtain ⟨l, R, p, e, s, m, args, below, meth, c, Qm, D, cA, n0, vz, L, xs, ad0, h0⟩ := Γ
  obtain ⟨hx, hb, hml, hown, hts, hnm, hrc, hrs⟩ := hC
  intro ad H locs ls hE hHP hKC hvl hvs hlv hS hu hw
  subst hn
  unfold op_iinc at hop
  split at hop
  · rename_i x hl
    subst hv
    obtain ⟨k, hk⟩ := List.getElem?_of_mem (ai_lv_mem (vz := vz) (ad := ad) (nL := M.2.2.1) (lo := lo) (q := (i, .int x)) |>.mpr ⟨hi, _, hl, rfl⟩)
    refine lv_iinc hx hb d_ hlv hk rfl hi rfl (fun ls' hl' => ?_)
    exact hP _ _ _ _ _ _ hop ad H locs ls' hE hHP hKC (ai_okl_st1 hvl trivial) hvs (ai_lv_st1 hKC.2.2.2.2.2.2.2.2 (v := aI (x + Int32.ofInt n)) hl') hS hu hw
  · exact hop.elim

theorem s_dup {T : Nat → ai_Mt} {M : ai_Mt} {pc nx : Nat}  (d_ : decode M.2.1 pc = .ok (.dup, 1)) (hn : pc + 1 = nx) : ai_Sn T M pc (op_dup nx) := by
  intro Γ d C Q P hC hRo hCl hR hP u w lo st h hop
  obtain ⟨l, R, p, e, s, m, args, below, meth, c, Qm, D, cA, n0, vz, L, xs, ad0, h0⟩ := Γ
  obtain ⟨hx, hb, hml, hown, hts, hnm, hrc, hrs⟩ := hC
  intro ad H locs ls hE hHP hKC hvl hvs hlv hS hu hw
  subst hn
  unfold op_dup at hop
  split at hop
  · refine lv_dup hx hb d_ rfl ?_
    exact hP _ _ _ _ _ _ hop ad H locs ls hE hHP hKC hvl (ai_okc trivial hvs) hlv hS hu hw
  · rename_i k2 a r
    refine lv_dup hx hb d_ (ai_cat_cv vz ad hKC.2.2.2.2.2.2.2.2 (aR k2 a)) ?_
    exact hP _ _ _ _ _ _ hop ad H locs ls hE hHP hKC hvl (ai_okc (ai_ok1 hvs) hvs) hlv hS hu hw
  · exact hop.elim

theorem s_dup2 {T : Nat → ai_Mt} {M : ai_Mt} {pc nx : Nat}  (d_ : decode M.2.1 pc = .ok (.dup2, 1)) (hn : pc + 1 = nx) : ai_Sn T M pc (op_dup2 nx) := by
  intro Γ d C Q P hC hRo hCl hR hP u w lo st h hop
  obtain ⟨l, R, p, e, s, m, args, below, meth, c, Qm, D, cA, n0, vz, L, xs, ad0, h0⟩ := Γ
  obtain ⟨hx, hb, hml, hown, hts, hnm, hrc, hrs⟩ := hC
  intro ad H locs ls hE hHP hKC hvl hvs hlv hS hu hw
  subst hn
  unfold op_dup2 at hop
  split at hop
  · refine lv_dup2_11 hx hb d_ rfl rfl ?_
    exact hP _ _ _ _ _ _ hop ad H locs ls hE hHP hKC hvl (ai_okc trivial (ai_okc trivial hvs)) hlv hS hu hw
  · rename_i x k2 a r
    refine lv_dup2_11 hx hb d_ rfl (ai_cat_cv vz ad hKC.2.2.2.2.2.2.2.2 (aR k2 a)) ?_
    exact hP _ _ _ _ _ _ hop ad H locs ls hE hHP hKC hvl (ai_okc trivial (ai_okc (ai_ok1 (ai_ok2 hvs)) hvs)) hlv hS hu hw
  · refine lv_dup2_2 hx hb d_ rfl ?_
    exact hP _ _ _ _ _ _ hop ad H locs ls hE hHP hKC hvl (ai_okc trivial hvs) hlv hS hu hw
  · exact hop.elim

theorem s_pop {T : Nat → ai_Mt} {M : ai_Mt} {pc nx : Nat}  (d_ : decode M.2.1 pc = .ok (.pop, 1)) (hn : pc + 1 = nx) : ai_Sn T M pc (op_pop nx) := by
  intro Γ d C Q P hC hRo hCl hR hP u w lo st h hop
  obtain ⟨l, R, p, e, s, m, args, below, meth, c, Qm, D, cA, n0, vz, L, xs, ad0, h0⟩ := Γ
  obtain ⟨hx, hb, hml, hown, hts, hnm, hrc, hrs⟩ := hC
  intro ad H locs ls hE hHP hKC hvl hvs hlv hS hu hw
  subst hn
  unfold op_pop at hop
  split at hop
  · refine lv_pop hx hb d_ rfl ?_
    exact hP _ _ _ _ _ _ hop ad H locs ls hE hHP hKC hvl (ai_ok2 hvs) hlv hS hu hw
  · rename_i q r
    obtain ⟨k2, a⟩ := q
    refine lv_pop hx hb d_ (ai_cat_cv vz ad hKC.2.2.2.2.2.2.2.2 (aR k2 a)) ?_
    exact hP _ _ _ _ _ _ hop ad H locs ls hE hHP hKC hvl (ai_ok2 hvs) hlv hS hu hw
  · exact hop.elim

theorem s_iret {T : Nat → ai_Mt} {M : ai_Mt} {pc : Nat} {t : Nat} {ty : FieldType} (hr : M.2.2.2.1 = some ty) (hnr : ∀ x : Int32, narrow ty (.int x) = .int (ai_nar t x)) (d_ : decode M.2.1 pc = .ok (.ireturn, 1)) : ai_Sn T M pc (op_iret t) := by
  intro Γ d C Q P hC hRo hCl hR hP u w lo st h hop
  obtain ⟨l, R, p, e, s, m, args, below, meth, c, Qm, D, cA, n0, vz, L, xs, ad0, h0⟩ := Γ
  obtain ⟨hx, hb, hml, hown, hts, hnm, hrc, hrs⟩ := hC
  intro ad H locs ls hE hHP hKC hvl hvs hlv hS hu hw
  unfold op_iret at hop
  split at hop
  · exact ((hR ad H locs ls h u w pc hE hHP hKC hS hu hw).2.2 _ _ ty hop hr (hnr _) d_)
  · exact hop.elim

theorem s_lret {T : Nat → ai_Mt} {M : ai_Mt} {pc : Nat} (hr : M.2.2.2.1 = some .long) (d_ : decode M.2.1 pc = .ok (.lreturn, 1)) : ai_Sn T M pc (op_lret) := by
  intro Γ d C Q P hC hRo hCl hR hP u w lo st h hop
  obtain ⟨l, R, p, e, s, m, args, below, meth, c, Qm, D, cA, n0, vz, L, xs, ad0, h0⟩ := Γ
  obtain ⟨hx, hb, hml, hown, hts, hnm, hrc, hrs⟩ := hC
  intro ad H locs ls hE hHP hKC hvl hvs hlv hS hu hw
  unfold op_lret at hop
  split at hop
  · exact ((hR ad H locs ls h u w pc hE hHP hKC hS hu hw).2.1 _ hop hr d_)
  · exact hop.elim

theorem s_ret {T : Nat → ai_Mt} {M : ai_Mt} {pc : Nat} (hr : M.2.2.2.1 = none) (d_ : decode M.2.1 pc = .ok (.return_, 1)) : ai_Sn T M pc (op_ret) := by
  intro Γ d C Q P hC hRo hCl hR hP u w lo st h hop
  obtain ⟨l, R, p, e, s, m, args, below, meth, c, Qm, D, cA, n0, vz, L, xs, ad0, h0⟩ := Γ
  obtain ⟨hx, hb, hml, hown, hts, hnm, hrc, hrs⟩ := hC
  intro ad H locs ls hE hHP hKC hvl hvs hlv hS hu hw
  unfold op_ret at hop
  split at hop
  · exact ((hR ad H locs ls h u w pc hE hHP hKC hS hu hw).1 hop hr d_)
  · exact hop.elim
