/-! THE ABSTRACT MACHINE IS SOUND -/
theorem ai_sound {T : Nat → ai_Mt} {M : ai_Mt} {code : Nat → Option ai_Op} (hs : ∀ pc op, code pc = some op → ai_Sn T M pc op) {Γ : ai_X} {d : Nat} {C : ai_C} {Q : ai_Q} (hC : ai_Cx Γ M) (hRo : ai_Ro Γ d) (hCl : ai_Cl T Γ d C) (hR : ai_RO Γ M Q) {u w pc : Nat} {lo : ai_L} {st : ai_S} {h : ai_H} (x : ai_WP code C Q u w pc lo st h) : ai_Wd Γ M u w pc lo st h := by
  refine x (ai_Wd Γ M) (fun u w pc lo st h y => ?_)
  unfold ai_step at y
  cases hc : code pc with
  | none => rw [hc] at y; exact y.elim
  | some op =>
    rw [hc] at y
    exact hs pc op hc Γ d C Q (ai_Wd Γ M) hC hRo hCl hR (fun _ _ _ _ _ _ z => z) u w lo st h y
theorem ai_lg_nil (j : Nat) : ai_lg [] j = none := by cases j <;> rfl
theorem ai_lg_pad (n : Nat) : ∀ (l : ai_L) (j : Nat), ai_lg (ai_pad n l) j = ai_lg l j := by
  induction n with
  | zero => intro l j; rfl
  | succ n ih =>
    intro l j
    cases l with
    | nil =>
      cases j with
      | zero => rfl
      | succ j =>
        have h : ai_lg (ai_pad (n + 1) []) (j + 1) = ai_lg (ai_pad n []) j := rfl
        rw [h, ih, ai_lg_nil, ai_lg_nil]
    | cons a t =>
      cases j with
      | zero => rfl
      | succ j => exact ih t j
theorem ai_args_lg (vz : Value) (ad : Nat → Nat → Nat) (hz : vz = .null ∨ ∃ t, vz = .ref t) : ∀ (as : List ai_V) (i j : Nat) (v : ai_V), ai_lg (ai_args as) j = some v → v ∈ as ∧ (i + j, ai_cv vz ad v) ∈ lv_args i (as.map (ai_cv vz ad)) := by
  intro as
  induction as with
  | nil => intro i j v h; rw [show ai_args [] = [] from rfl, ai_lg_nil] at h; cases h
  | cons a r ih =>
    intro i j v h
    rw [List.map_cons]
    unfold lv_args
    rw [ai_cat_cv vz ad hz]
    rcases a with x | x | q
    · cases j with
      | zero =>
        have h : some (aI x) = some v := h
        cases h
        exact ⟨List.mem_cons_self, List.mem_cons_self⟩
      | succ j =>
        have h : ai_lg (ai_args r) j = some v := h
        obtain ⟨h1, h2⟩ := ih (i + 1) j v h
        refine ⟨List.mem_cons_of_mem _ h1, List.mem_cons_of_mem _ ?_⟩
        rw [show i + (j + 1) = i + 1 + j by omega]
        exact h2
    · cases j with
      | zero =>
        have h : some (aL x) = some v := h
        cases h
        exact ⟨List.mem_cons_self, List.mem_cons_self⟩
      | succ j =>
        cases j with
        | zero => cases (show (none : Option ai_V) = some v from h)
        | succ j =>
          have h : ai_lg (ai_args r) j = some v := h
          obtain ⟨h1, h2⟩ := ih (i + 2) j v h
          refine ⟨List.mem_cons_of_mem _ h1, List.mem_cons_of_mem _ ?_⟩
          rw [show i + (j + 1 + 1) = i + 2 + j by omega]
          exact h2
    · cases j with
      | zero =>
        have h : some (Sum.inr (Sum.inr q)) = some v := h
        cases h
        exact ⟨List.mem_cons_self, List.mem_cons_self⟩
      | succ j =>
        have h : ai_lg (ai_args r) j = some v := h
        obtain ⟨h1, h2⟩ := ih (i + 1) j v h
        refine ⟨List.mem_cons_of_mem _ h1, List.mem_cons_of_mem _ ?_⟩
        rw [show i + (j + 1) = i + 1 + j by omega]
        exact h2
theorem ai_sl_len (vz : Value) (ad : Nat → Nat → Nat) (hz : vz = .null ∨ ∃ t, vz = .ref t) (as : List ai_V) : (lg_sl (as.map (ai_cv vz ad))).length = ai_cats as := by
  induction as with
  | nil => rfl
  | cons a r ih =>
    have e : (lg_sl ((a :: r).map (ai_cv vz ad))) = (if (ai_cv vz ad a).category = 2 then [Slot.val (ai_cv vz ad a), Slot.second] else [Slot.val (ai_cv vz ad a)]) ++ lg_sl (r.map (ai_cv vz ad)) := by
      simp [lg_sl]
    rw [e, List.length_append, ih]
    show _ = ai_cat a + ai_cats r
    rw [ai_cat_cv vz ad hz]
    rcases a with x | x | q <;> rfl
section AZ
variable {p : Program} {l : Launch} {e : Env} {R : Room} {s : State} {m : MethodId} {args : Array Value} {below : List Frame} {meth : Method} {c : Code} {H : Heap} {locs : List Loc} {cells slots : Nat}
/-- an answer that the method's type narrows -/
theorem ai_zret {cc : ByteArray} {Qc : Array Value → State → Outcome → State → Prop} {free : Addr → Prop} {v w : Int32} {ty : FieldType} (hexec : p.tables.exec = Jvm.exec) (hb : c.code = cc) (hr : meth.sig.returnType = some ty) (hn : narrow ty (.int v) = .int w)
    (hq : ∀ t : State, t.heap = H → s.WarmedH t.vm → Qc args s (.returned (some (.int w))) t) (hf : ∀ q ∈ locs, free q.base)
    {pc : Nat} {ls : Array Slot} (hdg : decode cc pc = .ok (.ireturn, 1)) (hlocks : meth.locks = false) : W p l e R s m args below meth c H locs cells slots (MQ below Qc args s cells slots free) (F0 m pc ls [.int v]) := by
  intro T hT X
  obtain ⟨fs, hret, hrun, hended, hW, hframe⟩ := X.leave (v := some (.int w)) (hlocks := hlocks) (fun h => by rw [hr] at h; cases h)
  have hmeth' : T.vm.method? m = some meth := X.method'
  refine ⟨T.setFrames fs, ?_, .returned (some (.int w)), hrun, hended, hq _ hT hW, locs, ⟨⟨_, rfl⟩, hW, hframe⟩, hf⟩
  jvm_step X.here [X.here.top, hexec, hb, hdg, hmeth', hr, hn]
  (try refine ⟨rfl, ?_⟩); (try refine ⟨rfl, ?_⟩)
  first | (intro acts; rw [hret _ acts rfl rfl rfl]) | rw [hret _ _ rfl rfl rfl]
  exact Steps.refl _
end AZ
theorem ai_tb_sub : ∀ w ∈ ai_tb, w ∈ lw_tbl := fun w hw => (List.mem_filter.mp hw).1
/-- every run of the abstract machine is a contract of the machine -/
theorem ai_main (TT : Nat → (Nat → Option ai_Op) × ai_Mt) (hs : ∀ m pc op, (TT m).1 pc = some op → ai_Sn (fun m => (TT m).2) (TT m).2 pc op) (hpl : ∀ m, plainName (TT m).2.1.cls = true) (l : Launch) (D : va_G) (cA : Nat → ClassId) (n0 : Nat) (vz : Value) (L : Nat) (xs : Nat → Int32) (d : Nat) : ai_CS (fun m => (TT m).2) l D cA n0 vz L xs d (ai_Ex (fun m => ((TT m).1, (TT m).2.2.2.1)) d) := by
  induction d with
  | zero => intro m as h Q x; exact x.elim
  | succ d ih =>
    intro mm as h Q x hoks ad
    obtain ⟨hfit, x⟩ := x
    refine Met.ofW (cc := (TT mm).2.2.1) (maxL := (TT mm).2.2.2.1) (ret := (TT mm).2.2.2.2.1) (hpl mm) rfl ?_
    intro p e s m args below meth c s₁ B hml hv
    obtain ⟨rfl, hHP, hKC⟩ := hv
    have hx := B.exec
    have hb := B.bytes
    have hr := B.returns
    have hlocks := B.notSynchronized
    have hts0 := atoms_spec (ws := ai_ws (TT mm).2) B.pre
    have hts : ∀ w ∈ ai_tb, w.before (as.map (ai_cv vz ad)).toArray s = true := fun w hw => hts0 w (List.mem_cons_of_mem _ hw)
    have hown : s.vm.findClass (TT mm).2.1.cls = some m.cls := findClass_of_methodNamed B.named
    have hnm : meth.name = (TT mm).2.1.name := (name_of_methodNamed B.named B.method).1
    have hz := hKC.2.2.2.2.2.2.2.2
    have hlen : (lg_sl (as.map (ai_cv vz ad))).length ≤ (TT mm).2.2.2.1 := by rw [ai_sl_len vz ad hz]; exact hfit
    have hl := lv_entry (as.map (ai_cv vz ad)) hlen
    rw [lg_entry_eq]
    have hlv : lv_has ((lg_sl (as.map (ai_cv vz ad)) ++ List.replicate ((TT mm).2.2.2.1 - (lg_sl (as.map (ai_cv vz ad))).length) Slot.unset).toArray) (TT mm).2.2.2.1 (ai_lv vz ad (TT mm).2.2.2.1 (ai_pad (TT mm).2.2.2.1 (ai_args as))) := by
      refine ai_lv_sub hl fun q hq => ?_
      obtain ⟨hq1, w, hw, e⟩ := ai_lv_mem.mp hq
      rw [ai_lg_pad] at hw
      have h2 := (ai_args_lg vz ad hz as 0 q.1 w hw).2
      rw [Nat.zero_add, ← e] at h2
      exact h2
    refine ai_sound (T := fun m => (TT m).2) (M := (TT mm).2) (hs mm) (Γ := (l, (headSpec (ai_ws (TT mm).2) (ai_rm (d + 1) (TT mm).2)).room, p, e, s, m, (as.map (ai_cv vz ad)).toArray, below, meth, c, MQ below _ (as.map (ai_cv vz ad)).toArray s _ _ _, D, cA, n0, vz, L, xs, ad, h)) (d := d) (C := ai_Ex (fun m => ((TT m).1, (TT m).2.2.2.1)) d) (Q := Q) ⟨hx, hb, hml, hown, hts, hnm, rfl, rfl⟩ ⟨Nat.le_refl _, Nat.le_refl _⟩ ih ?_ x ad s.heap [] _ ⟨fun _ => Nat.le_refl _, fun _ _ _ => rfl⟩ hHP hKC ?_ (fun v hv => by cases hv) hlv va_S.rf (Nat.zero_le _) (Nat.zero_le _)
    · intro ad' H locs ls h' u w pc hE hHP' hKC' hS hu hw
      have hfin : ∀ (v : Option ai_V), (∀ x, v = some x → ai_ok h'.2.2.2.1 x) → Q v h' → ∀ t : State, t.heap = H → s.WarmedH t.vm → (∃ (v2 : Option ai_V) (h2 : ai_H) (ad2 : Nat → Nat → Nat), Q v2 h2 ∧ Outcome.returned (v.map (ai_cv vz ad')) = .returned (v2.map (ai_cv vz ad2)) ∧ ai_HP D cA n0 L xs ad2 h2 t.heap ∧ ai_ext ad ad2 h h2 ∧ (∀ x, v2 = some x → ai_ok h2.2.2.2.1 x)) ∧ va_F (fun q => n0 ≤ q) s t :=
        fun v hok hq t ht _ => ⟨⟨v, h', ad', hq, rfl, by rw [ht]; exact hHP', hE, hok⟩, hS.F ht⟩
      refine ⟨fun hq hr2 hd => ?_, fun y hq hr2 hd => ?_, fun x y ty hq hr2 hn hd => ?_⟩
      · exact W.widen hu hw (W.vret hx hb (hr.trans hr2) (fun t ht hW => hfin none (fun x e => by cases e) hq t ht hW) hS.2.2 hd hlocks)
      · exact W.widen hu hw (W.lret hx hb (hr.trans hr2) (fun t ht hW => hfin (some (aL y)) (fun x e => by cases e; trivial) hq t ht hW) hS.2.2 hd hlocks)
      · exact W.widen hu hw (ai_zret hx hb (hr.trans hr2) hn (fun t ht hW => hfin (some (aI y)) (fun x e => by cases e; trivial) hq t ht hW) hS.2.2 hd hlocks)
    · intro j v hv
      rw [ai_lg_pad] at hv
      exact hoks v (ai_args_lg vz ad hz as 0 j v hv).1
