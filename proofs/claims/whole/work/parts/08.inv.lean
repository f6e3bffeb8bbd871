/-! CALLS, SWITCHES, TEXTS, STATICS, SOUND -/
theorem ai_tk_spec (n : Nat) : ∀ (st : ai_S) (acc l : List ai_V) (r : ai_S), ai_tk n st acc = some (l, r) → ∃ l', l = l' ++ acc ∧ st = l'.reverse ++ r ∧ l'.length = n := by
  induction n with
  | zero =>
    intro st acc l r h
    have h : some (acc, st) = some (l, r) := h
    cases h
    exact ⟨[], rfl, rfl, rfl⟩
  | succ n ih =>
    intro st acc l r h
    cases st with
    | nil => cases (show (none : Option (List ai_V × ai_S)) = some (l, r) from h)
    | cons v st =>
      have h : ai_tk n st (v :: acc) = some (l, r) := h
      obtain ⟨l', e1, e2, e3⟩ := ih st (v :: acc) l r h
      exact ⟨l' ++ [v], by rw [e1]; simp, by rw [e2]; simp, by simp [e3]⟩
/-- a method as it can be called: its words, n arguments beside the receiver -/
def ai_MO (Mm : ai_Mt) (n : Nat) : Prop := Cond.code Mm.1 Mm.2.1 Mm.2.2.1 Mm.2.2.2.1 ∈ ai_tb ∧ Cond.initialized Mm.1.cls ∈ ai_tb ∧ (Mm.1.cls ≠ "java/lang/invoke/MethodHandle" ∧ Mm.1.cls ≠ "java/lang/invoke/VarHandle") ∧ (parseMethodDescriptor Mm.1.desc).map (fun d => d.parameters.length) = some n ∧ Mm.2.2.1 ≤ 45
theorem ai_good : ∀ w ∈ ai_tb, ((w.onTables && w.keeps) = true ∨ ∃ ty, w = .arrayClass ty) := by
  intro w hw
  exact good_of_word (List.mem_filter.mp hw).2
theorem ai_wsOK {Mm : ai_Mt} {n : Nat} (h : ai_MO Mm n) : GoodIn ai_tb (ai_ws Mm) := by
  intro w hw
  rcases List.mem_cons.mp hw with rfl | hw
  · exact ⟨h.1, ai_good _ h.1⟩
  · exact ⟨hw, ai_good _ hw⟩
theorem ai_callB {Mm : ai_Mt} {n : Nat} (hM : ai_MO Mm n) {R : Room} {s : State} {args : Array Value} {own : String} {index d : Nat} (hts : ∀ w ∈ ai_tb, w.before args s = true) (hl : (Cond.methodLink own index Mm.1).before args s = true) (hR : d + 1 ≤ R.frames ∧ 64 * (d + 1) + 12 ≤ R.locals) : CallB R s args own index Mm.1 Mm.2.1 Mm.2.2.1 Mm.2.2.2.1 (ai_ws Mm) (ai_rm d Mm) Mm.2.2.2.2.1 Mm.2.2.2.2.2 n := by
  obtain ⟨h1, h2, h3, h4, h5⟩ := hM
  refine ⟨rfl, rfl, hR.1, ?_, pay_in hts (ai_wsOK ⟨h1, h2, h3, h4, h5⟩), List.mem_cons_self, hts _ h1, hts _ h2, h3, fun sig hs => ?_, hl⟩
  · show 8 + (Mm.2.2.1 + 11) + (64 * d + 12) ≤ R.locals
    omega
  · rw [hs] at h4
    exact (Option.some.inj h4).symm
theorem ai_blind {D : va_G} {cA : Nat → ClassId} {n0 L : Nat} {xs : Nat → Int32} {vz : Value} {ad : Nat → Nat → Nat} {h : ai_H} {as : List Value} : FrameBlind (va_Pc as (fun U => ai_HP D cA n0 L xs ad h U.heap ∧ ai_KC D cA n0 L xs vz ad U U.heap)) :=
  fun a U g mk q => ⟨q.1, q.2.1, ai_KC_warm (U := U.calling g mk a) q.2.2 (State.WarmedH.refl U)⟩
/-- behind a call -/
theorem ai_after {M Mm : ai_Mt} {nx pc d : Nat} {l : Launch} {R : Room} {p : Program} {e : Env} {s : State} {m : MethodId} {args : Array Value} {below : List Frame} {meth : Method} {cd : Code} {Qm : State → Prop} {D : va_G} {cA : Nat → ClassId} {n0 : Nat} {vz : Value} {L : Nat} {xs : Nat → Int32} {ad0 : Nat → Nat → Nat} {h0 : ai_H}
    {ad : Nat → Nat → Nat} {H : Heap} {locs : List Loc} {ls : Array Slot} {u w : Nat} {h : ai_H} {lo : ai_L} {r : ai_S} {st0 : List Value} {av : Array Value} {Q2 : ai_Q}
    (hr : va_Run p l e R s m args below meth cd H locs u w Mm.2.2.2.2.1 Mm.2.2.2.2.2 (F0 m pc ls st0) (r.map (ai_cv vz ad)) ((fun (_ : Array Value) (st : State) (o : Outcome) (t : State) => (∃ (v : Option ai_V) (h' : ai_H) (ad' : Nat → Nat → Nat), Q2 v h' ∧ o = .returned (v.map (ai_cv vz ad')) ∧ ai_HP D cA n0 L xs ad' h' t.heap ∧ ai_ext ad ad' h h' ∧ (∀ x, v = some x → ai_ok h'.2.2.2.1 x)) ∧ va_F (fun q => n0 ≤ q) st t) av) (fun q => n0 ≤ q))
    (hE : ai_ext ad0 ad h0 h) (hHP : ai_HP D cA n0 L xs ad h H) (hKC : ai_KC D cA n0 L xs vz ad s H) (hvl : ai_okl h.2.2.2.1 lo) (hvs : ai_oks h.2.2.2.1 r) (hlv : lv_has ls M.2.2.1 (ai_lv vz ad M.2.2.1 lo)) (hS : va_S (fun q => n0 ≤ q) s.heap H locs) (hu : u + Mm.2.2.2.2.1 ≤ M.2.2.2.2.1) (hw : w + Mm.2.2.2.2.2 ≤ M.2.2.2.2.2)
    {P : ai_P} (hP : ∀ u w pc lo st h, P u w pc lo st h → ai_Wd (l, R, p, e, s, m, args, below, meth, cd, Qm, D, cA, n0, vz, L, xs, ad0, h0) M u w pc lo st h) (hn : pc + 3 = nx) (hQ : ∀ v h', Q2 v h' → P (u + Mm.2.2.2.2.1) (w + Mm.2.2.2.2.2) nx lo (ai_push v r) h') (hz17 : ∀ c i, 17 ≤ c → c ≤ 19 → i < 2 → True) : W p l e R s m args below meth cd H locs u w Qm (F0 m pc ls st0) := by
  intro T hT X
  obtain ⟨v, st₀, t, T', Lc, h0, X', hL, e1, e2, ⟨⟨v', h', ad', q1, q2, q3, q4, q5⟩, hz, hk⟩, st⟩ := hr T hT X
  have hv : v = v'.map (ai_cv vz ad') := by injection q2
  subst hv
  rw [h0] at hz hk
  have hH1 : T'.heap = t.heap := e1
  have hKC1 : ai_KC D cA n0 L xs vz ad s T'.heap := ai_KC_kept hKC (fun q h1 h2 => by rw [e1]; exact hk q h1 h2) (by rw [e1]; exact q3.2.2.2.2)
  have h17 := hHP.2.2.2.1.2.2.2.1
  have h18 := hHP.2.2.2.1.2.2.2.2.1
  have h19 := hHP.2.2.2.1.2.2.2.2.2.1
  have hKC2 : ai_KC D cA n0 L xs vz ad' s T'.heap := by
    obtain ⟨k1, ⟨k2, k3⟩, k4, k5, k6, k7, k8, k9, k10⟩ := hKC1
    have e17 : ad' 17 0 = ad 17 0 := q4.2 17 0 (by omega)
    have a18 : ∀ i, i < 2 → ad' 18 i = ad 18 i := fun i hi => q4.2 18 i (by omega)
    have a19 : ∀ i, i < 2 → ad' 19 i = ad 19 i := fun i hi => q4.2 19 i (by omega)
    refine ⟨k1, ⟨by rw [e17]; exact k2, by rw [e17]; exact k3⟩, ⟨fun i hi => ?_, fun i j hi hj => ?_⟩, k5, k6, by rw [a18 0 (by decide)]; exact k7, ⟨by rw [a18 1 (by decide)]; exact k8.1, k8.2⟩, k9, k10⟩
    · rw [a18 i hi, a19 i hi]; exact k4.1 i hi
    · rw [a18 i hi, a18 j hj]; exact k4.2 i j hi hj
  have hS1 : va_S (fun q => n0 ≤ q) s.heap T'.heap (locs ++ Lc) := ⟨Nat.le_trans hS.1 (by rw [e1]; exact hz), fun q h1 h2 => by rw [e1, hk q (Nat.lt_of_lt_of_le h1 hS.1) h2]; exact hS.2.1 q h1 h2, fun q hq => by
    rcases List.mem_append.mp hq with h | h
    · exact hS.2.2 q h
    · exact hL q h⟩
  have hm := ai_map_ext (vz := vz) q4.2 hvs
  have hoks : ai_oks h'.2.2.2.1 (ai_push v' r) := by
    cases v' with
    | none => exact fun x hx => ai_ok_mono q4.1 (hvs x hx)
    | some y => exact ai_okc (q5 y rfl) (fun x hx => ai_ok_mono q4.1 (hvs x hx))
  have hlv' : lv_has ls M.2.2.1 (ai_lv vz ad' M.2.2.1 lo) := by rw [ai_lv_ext q4.2 hvl]; exact hlv
  obtain ⟨t2, a1, b1⟩ := hP _ _ _ _ _ _ (hQ v' h' q1) ad' T'.heap (locs ++ Lc) ls (ai_ext_trans hE q4) (by rw [e1]; exact q3) hKC2 (fun j x hx => ai_ok_mono q4.1 (hvl j x hx)) hoks hlv' hS1 hu hw T' rfl X'
  subst hn
  refine ⟨t2, st t2 ?_, b1⟩
  cases v' with
  | none =>
    have a1 : Steps p.tables e below (T'.setTop (F0 m (pc + 3) ls (r.map (ai_cv vz ad')))) t2 := a1
    rw [hm] at a1
    exact a1
  | some y =>
    have a1 : Steps p.tables e below (T'.setTop (F0 m (pc + 3) ls (ai_cv vz ad' y :: r.map (ai_cv vz ad')))) t2 := a1
    rw [hm] at a1
    exact a1
theorem s_callv {Tm : Nat → ai_Mt} {M : ai_Mt} {pc nx i mm n kr : Nat} {Mm : ai_Mt} (hMm : Tm mm = Mm) (hMO : ai_MO Mm n) (hz : Mm.2.2.2.2 = (0, 0)) (hl : Cond.methodLink M.1.cls i Mm.1 ∈ ai_tb) (hi : Cond.instanceMethod Mm.1 ∈ ai_tb) {C : String} (hse : Cond.selects C Mm.1 Mm.1 ∈ ai_tb) (hkr : (∃ T N, vwCl[kr]? = some (C, T, N) ∧ kr < 13) ∨ (kr = 18 ∧ C = "java/lang/String")) (d_ : decode M.2.1 pc = .ok (.invokevirtual i, 3)) (hn : pc + 3 = nx) : ai_Sn Tm M pc (op_callv mm (n + 1) kr nx) := by
  intro Γ d Cc Q P hC hRo hCl hR hP u w lo st h hop
  obtain ⟨l, R, p, e, s, m, args, below, meth, cd, Qm, D, cA, n0, vz, L, xs, ad0, h0⟩ := Γ
  obtain ⟨hx, hb, hml, hown, hts, hnm, hrc, hrs⟩ := hC
  unfold op_callv at hop
  split at hop
  · rename_i k a as r htk
    obtain ⟨hk0, hp2⟩ := ai_condT hop
    clear hop
    have hk := Nat.eq_of_beq_eq_true hk0
    subst hk
    intro ad H locs ls hE hHP hKC hvl hvs hlv hS hu hw
    obtain ⟨l', el, est, elen⟩ := ai_tk_spec _ _ _ _ _ htk
    rw [List.append_nil] at el
    subst el
    have hoks : ai_oks h.2.2.2.1 (aR k a :: as) := fun v hv => hvs v (by rw [est]; exact List.mem_append_left _ (List.mem_reverse.mpr hv))
    have hokr : ai_oks h.2.2.2.1 r := fun v hv => hvs v (by rw [est]; exact List.mem_append_right _ hv)
    have ha : a < h.2.2.2.1 k := ai_ok1 hoks
    have hk20 : k < 20 := by rcases hkr with ⟨_, _, _, q⟩ | ⟨q, _⟩ <;> omega
    have hrecv : ∃ cellB : Cell, H[ad k a]? = some cellB ∧ cellB.vm.isStatics = false ∧ s.vm.findClass C = some cellB.cls := by
      rcases hkr with ⟨T, N, hv, hk13⟩ | ⟨rfl, rfl⟩
      · obtain ⟨cell, c1, c2, c3, -⟩ := (hHP.1 k a (by omega) ha).1.1 _ hv
        exact ⟨cell, c1, by rw [c3]; rfl, by rw [c2]; exact (hKC.1.1 k _ hv).2.1⟩
      · have h18 := hHP.2.2.2.1.2.2.2.2.1
        obtain ⟨⟨cell, o1, o2, o3, -⟩, -⟩ := hKC.2.2.1.1 a (by omega)
        exact ⟨cell, o1, o2, o3⟩
    have hcs : ai_CS Tm l D cA n0 vz L xs d Cc := hCl
    have hMet := hcs mm (aR k a :: as) h _ hp2.2 hoks ad
    rw [hMm] at hMet
    have hcl : as.length = n := by simp at elen; exact elen
    have hB := ai_callB hMO (R := R) (s := s) (args := args) (own := M.1.cls) (index := i) (d := d) hts (hts _ hl) hRo
    have hrun := va_runV (e := e) (below := below) (meth := meth) (nL := M.2.2.1) (C := C) (b := ad k a) (As := as.map (ai_cv vz ad)) (rest := r.map (ai_cv vz ad)) (H := H) (locs := locs) (cells := u) (slots := w) (g := F0 m pc ls (st.map (ai_cv vz ad))) ⟨hx, hb, hml, hown, hts⟩ hMet ⟨hB, hts _ hi, hts _ hse⟩
      ⟨ai_blind, hrecv, fun U hU hW => ⟨by rw [List.map_cons, ai_cvr vz ad hk20], by rw [hU]; exact hHP, by rw [hU]; exact ai_KC_warm hKC hW⟩⟩ rfl (by rw [List.length_map]; exact hcl) hlv.1 (by rw [est]; simp [ai_cvr vz ad hk20]) (by show 2 * 0 + _ ≤ 8; rw [ai_cats_cv vz ad hKC.2.2.2.2.2.2.2.2]; have := hp2.1; omega) d_ (by rw [hrc, hrs, hz]; exact ⟨hu, hw⟩)
    exact ai_after (M := M) (av := #[]) (d := 0) hrun hE hHP hKC hvl hokr hlv hS (by rw [hz]; exact hu) (by rw [hz]; exact hw) hP hn (fun v h' q => by rw [hz]; exact q) (fun _ _ _ _ _ => trivial)
  · exact hop.elim
theorem s_calls {Tm : Nat → ai_Mt} {M : ai_Mt} {pc nx i mm n : Nat} {Mm : ai_Mt} (hMm : Tm mm = Mm) (hMO : ai_MO Mm n) (hz : Mm.2.2.2.2 = (0, 0)) (hst : Cond.static Mm.1 ∈ ai_tb) (hl : Cond.methodLink M.1.cls i Mm.1 ∈ ai_tb ∨ ∃ host, (M.1.cls, i, Mm.1, host) ∈ ai_nml) (d_ : decode M.2.1 pc = .ok (.invokestatic i, 3)) (hn : pc + 3 = nx) : ai_Sn Tm M pc (op_calls mm n nx) := by
  intro Γ d Cc Q P hC hRo hCl hR hP u w lo st h hop
  obtain ⟨l, R, p, e, s, m, args, below, meth, cd, Qm, D, cA, n0, vz, L, xs, ad0, h0⟩ := Γ
  obtain ⟨hx, hb, hml, hown, hts, hnm, hrc, hrs⟩ := hC
  unfold op_calls at hop
  split at hop
  · rename_i as r htk
    intro ad H locs ls hE hHP hKC hvl hvs hlv hS hu hw
    obtain ⟨l', el, est, elen⟩ := ai_tk_spec _ _ _ _ _ htk
    rw [List.append_nil] at el
    subst el
    have hoks : ai_oks h.2.2.2.1 as := fun v hv => hvs v (by rw [est]; exact List.mem_append_left _ (List.mem_reverse.mpr hv))
    have hokr : ai_oks h.2.2.2.1 r := fun v hv => hvs v (by rw [est]; exact List.mem_append_right _ hv)
    have hcs : ai_CS Tm l D cA n0 vz L xs d Cc := hCl
    have hMet := hcs mm as h _ hop.2 hoks ad
    rw [hMm] at hMet
    have hwb : 2 * (F0 m pc ls (st.map (ai_cv vz ad))).monitorRoom + ((r.map (ai_cv vz ad)).map fun v => v.category).sum ≤ 8 := by show 2 * 0 + _ ≤ 8; rw [ai_cats_cv vz ad hKC.2.2.2.2.2.2.2.2]; have := hop.1; omega
    have hstk : (F0 m pc ls (st.map (ai_cv vz ad))).stack = (as.map (ai_cv vz ad)).reverse ++ r.map (ai_cv vz ad) := by rw [est]; simp
    have hpre : PreS s H (va_Pc (as.map (ai_cv vz ad)) (fun U => ai_HP D cA n0 L xs ad h U.heap ∧ ai_KC D cA n0 L xs vz ad U U.heap)) (as.map (ai_cv vz ad)) := ⟨ai_blind, fun U hU hW => ⟨rfl, by rw [hU]; exact hHP, by rw [hU]; exact ai_KC_warm hKC hW⟩⟩
    have hfit : u + Mm.2.2.2.2.1 ≤ R.cells ∧ w + Mm.2.2.2.2.2 ≤ R.slots := by rw [hrc, hrs, hz]; exact ⟨hu, hw⟩
    rcases hl with hl | ⟨host, hl⟩
    · have hB := ai_callB hMO (R := R) (s := s) (args := args) (own := M.1.cls) (index := i) (d := d) hts (hts _ hl) hRo
      have hrun := va_runS (e := e) (below := below) (meth := meth) (nL := M.2.2.1) (As := as.map (ai_cv vz ad)) (rest := r.map (ai_cv vz ad)) (H := H) (locs := locs) (cells := u) (slots := w) (g := F0 m pc ls (st.map (ai_cv vz ad))) ⟨hx, hb, hml, hown, hts⟩ hMet ⟨hB, hts _ hst⟩ hpre rfl (by rw [List.length_map]; exact elen) hlv.1 hstk hwb d_ hfit
      exact ai_after (M := M) (av := #[]) (d := 0) hrun hE hHP hKC hvl hokr hlv hS (by rw [hz]; exact hu) (by rw [hz]; exact hw) hP hn (fun v h' q => by rw [hz]; exact q) (fun _ _ _ _ _ => trivial)
    · obtain ⟨h1, h2, h3, h4, h5⟩ := id hMO
      have hro : d + 1 ≤ R.frames ∧ 64 * (d + 1) + 12 ≤ R.locals := hRo
      have hN : va_CN R s args M.1.cls i Mm.1 host Mm.2.1 Mm.2.2.1 Mm.2.2.2.1 (ai_ws Mm) (ai_rm d Mm) Mm.2.2.2.2.1 Mm.2.2.2.2.2 n := by
        refine ⟨⟨rfl, rfl, hro.1, ?_, pay_in hts (ai_wsOK hMO), List.mem_cons_self⟩, hts _ h1, hts _ h2, h3, fun sig hs => ?_, va_Nw.use rfl (hKC.2.2.2.2.2.2.1.2.2 _ hl)⟩
        · show 8 + (Mm.2.2.1 + 11) + (64 * d + 12) ≤ R.locals
          omega
        · rw [hs] at h4
          exact (Option.some.inj h4).symm
      have hrun := va_runSN (e := e) (below := below) (meth := meth) (nL := M.2.2.1) (As := as.map (ai_cv vz ad)) (rest := r.map (ai_cv vz ad)) (H := H) (locs := locs) (cells := u) (slots := w) (g := F0 m pc ls (st.map (ai_cv vz ad))) ⟨hx, hb, hml, hown, hts⟩ hMet ⟨hN, hts _ hst, trivial⟩ hpre rfl (by rw [List.length_map]; exact elen) hlv.1 hstk hwb d_ hfit
      exact ai_after (M := M) (av := #[]) (d := 0) hrun hE hHP hKC hvl hokr hlv hS (by rw [hz]; exact hu) (by rw [hz]; exact hw) hP hn (fun v h' q => by rw [hz]; exact q) (fun _ _ _ _ _ => trivial)
  · exact hop.elim
theorem s_calli {Tm : Nat → ai_Mt} {M : ai_Mt} {pc nx i mm n kr : Nat} {Mm : ai_Mt} (hMm : Tm mm = Mm) (hMO : ai_MO Mm n) (hl : Cond.methodLink M.1.cls i Mm.1 ∈ ai_tb) (hi : Cond.instanceMethod Mm.1 ∈ ai_tb) (hin : Mm.1.name = "<init>") (hrt : Mm.2.2.2.1 = none) (hkr : kr < 13) (d_ : decode M.2.1 pc = .ok (.invokespecial i, 3)) (hn : pc + 3 = nx) : ai_Sn Tm M pc (op_calli M.2.2.2.2.1 M.2.2.2.2.2 mm (n + 1) kr Mm.2.2.2.2.1 Mm.2.2.2.2.2 nx) := by
  intro Γ d Cc Q P hC hRo hCl hR hP u w lo st h hop
  obtain ⟨l, R, p, e, s, m, args, below, meth, cd, Qm, D, cA, n0, vz, L, xs, ad0, h0⟩ := Γ
  obtain ⟨hx, hb, hml, hown, hts, hnm, hrc, hrs⟩ := hC
  unfold op_calli at hop
  split at hop
  · rename_i k a as r htk
    obtain ⟨hk0, hp2⟩ := ai_condT hop
    clear hop
    have hk := Nat.eq_of_beq_eq_true hk0
    subst hk
    intro ad H locs ls hE hHP hKC hvl hvs hlv hS hu hw
    obtain ⟨l', el, est, elen⟩ := ai_tk_spec _ _ _ _ _ htk
    rw [List.append_nil] at el
    subst el
    have hoks : ai_oks h.2.2.2.1 (aR k a :: as) := fun v hv => hvs v (by rw [est]; exact List.mem_append_left _ (List.mem_reverse.mpr hv))
    have hokr : ai_oks h.2.2.2.1 r := fun v hv => hvs v (by rw [est]; exact List.mem_append_right _ hv)
    have hk20 : k < 20 := by omega
    have hcs : ai_CS Tm l D cA n0 vz L xs d Cc := hCl
    have hMet := hcs mm (aR k a :: as) h _ hp2.2 hoks ad
    rw [hMm] at hMet
    have hcl : as.length = n := by simp at elen; exact elen
    have hB := ai_callB hMO (R := R) (s := s) (args := args) (own := M.1.cls) (index := i) (d := d) hts (hts _ hl) hRo
    rw [hrt] at hB
    have hrun := va_runI (e := e) (below := below) (meth := meth) (nL := M.2.2.1) (b := ad k a) (As := as.map (ai_cv vz ad)) (rest := r.map (ai_cv vz ad)) (H := H) (locs := locs) (cells := u) (slots := w) (g := F0 m pc ls (st.map (ai_cv vz ad))) ⟨hx, hb, hml, hown, hts⟩ hMet ⟨hB, hin, hts _ hi⟩
      ⟨ai_blind, fun U hU hW => ⟨by rw [List.map_cons, ai_cvr vz ad hk20], by rw [hU]; exact hHP, by rw [hU]; exact ai_KC_warm hKC hW⟩⟩ rfl (by rw [List.length_map]; exact hcl) hlv.1 (by rw [est]; simp [ai_cvr vz ad hk20]) (by show 2 * 0 + _ ≤ 8; rw [ai_cats_cv vz ad hKC.2.2.2.2.2.2.2.2]; have := hp2.1.1; omega) d_ (by rw [hrc, hrs]; exact hp2.1.2)
    exact ai_after (M := M) (av := #[]) (d := 0) hrun hE hHP hKC hvl hokr hlv hS hp2.1.2.1 hp2.1.2.2 hP hn (fun v h' q => by obtain ⟨rfl, q⟩ := q; exact q) (fun _ _ _ _ _ => trivial)
  · exact hop.elim

/-! switches -/
def ai_swt (x : Int32) (l : List (Int32 × Nat)) (d : Nat) : Nat := match l with | [] => d | q :: r => if x = q.1 then q.2 else ai_swt x r d
theorem ai_swp_t {P : Nat → Prop} {x : Int32} {d : Nat} (l : List (Int32 × Nat)) : ai_swp P x l d → P (ai_swt x l d) := by
  induction l with
  | nil => exact fun h => h
  | cons q r ih =>
    intro h
    unfold ai_swt
    by_cases e : x = q.1
    · rw [if_pos e]; exact h.1 e
    · rw [if_neg e]; exact ih (h.2 e)
theorem ai_swt_out {x : Int32} {d : Nat} (l : List (Int32 × Nat)) (h : ∀ q ∈ l, ¬ x = q.1) : ai_swt x l d = d := by
  induction l with
  | nil => rfl
  | cons q r ih =>
    unfold ai_swt
    rw [if_neg (h q List.mem_cons_self)]
    exact ih (fun y hy => h y (List.mem_cons_of_mem _ hy))
theorem ai_swt_in {x : Int32} {d : Nat} (l : List (Int32 × Nat)) (h : ∃ q ∈ l, x = q.1) : ∃ q ∈ l, x = q.1 ∧ ai_swt x l d = q.2 := by
  induction l with
  | nil => obtain ⟨q, hq, -⟩ := h; cases hq
  | cons q r ih =>
    unfold ai_swt
    by_cases e : x = q.1
    · exact ⟨q, List.mem_cons_self, e, if_pos e⟩
    · rw [if_neg e]
      obtain ⟨y, hy, ey⟩ := h
      rcases List.mem_cons.mp hy with rfl | hy
      · exact absurd ey e
      · obtain ⟨z, hz, e1, e2⟩ := ih ⟨y, hy, ey⟩
        exact ⟨z, List.mem_cons_of_mem _ hz, e1, e2⟩
theorem s_tsw {Tm : Nat → ai_Mt} {M : ai_Mt} {pc d len : Nat} {dflt lo hi : Int} {offs : Array Int} (l : List (Int32 × Nat)) (d_ : decode M.2.1 pc = .ok (.tableswitch dflt lo hi offs, len)) (hd : (pc : Int) + dflt = (d : Int))
    (h1b : l.all (fun q => decide (lo ≤ q.1.toInt) && (decide (q.1.toInt ≤ hi) && (match offs[(q.1.toInt - lo).toNat]? with | some off => decide ((pc : Int) + off = (q.2 : Int)) | none => false))) = true) (h2 : l.map (fun q => q.1.toInt) = (List.range l.length).map (fun (k : Nat) => lo + (k : Int))) (h3 : hi < lo + (l.length : Int)) : ai_Sn Tm M pc (op_sw l d) := by
  have h1 : ∀ q ∈ l, lo ≤ q.1.toInt ∧ q.1.toInt ≤ hi ∧ (match offs[(q.1.toInt - lo).toNat]? with | some off => (pc : Int) + off = (q.2 : Int) | none => False) := by
    intro q hq
    have h := List.all_eq_true.mp h1b q hq
    simp only [Bool.and_eq_true, decide_eq_true_eq] at h
    refine ⟨h.1, h.2.1, ?_⟩
    have h2 := h.2.2
    split at h2
    · exact of_decide_eq_true h2
    · cases h2
  intro Γ dd Cc Q P hC hRo hCl hR hP u w lc st h hop
  obtain ⟨la, R, p, e, s, m, args, below, meth, cd, Qm, D, cA, n0, vz, L, xs, ad0, h0⟩ := Γ
  obtain ⟨hx, hb, hml, hown, hts, hnm, hrc, hrs⟩ := hC
  unfold op_sw at hop
  split at hop
  · rename_i x r
    have hop2 := ai_swp_t l hop
    intro ad H locs ls hE hHP hKC hvl hvs hlv hS hu hw
    have kk := hP _ _ _ _ _ _ hop2 ad H locs ls hE hHP hKC hvl (ai_ok2 hvs) hlv hS hu hw
    by_cases ho : x.toInt < lo ∨ hi < x.toInt
    · rw [ai_swt_out l (fun q hq e => by have := h1 q hq; rw [e] at ho; omega)] at kk
      exact lv_tableOut hx hb d_ ho hd kk
    · have hk : (x.toInt - lo).toNat < l.length := by omega
      have hin : ∃ q ∈ l, x = q.1 := by
        refine ⟨l[(x.toInt - lo).toNat], List.getElem_mem hk, ?_⟩
        have e1 : (l.map (fun q => q.1.toInt))[(x.toInt - lo).toNat]? = ((List.range l.length).map (fun (k : Nat) => lo + (k : Int)))[(x.toInt - lo).toNat]? := by rw [h2]
        rw [List.getElem?_map, List.getElem?_map, List.getElem?_eq_getElem hk, List.getElem?_range hk] at e1
        have e2 : l[(x.toInt - lo).toNat].1.toInt = lo + ((x.toInt - lo).toNat : Int) := Option.some.inj e1
        refine Int32.toInt_inj.mp ?_
        rw [e2]
        omega
      obtain ⟨q, hq, e1, e2⟩ := ai_swt_in (d := d) l hin
      rw [e2] at kk
      obtain ⟨g1, g2, g3⟩ := h1 q hq
      rw [← e1] at g1 g2 g3
      cases hoff : offs[(x.toInt - lo).toNat]? with
      | none => rw [hoff] at g3; exact g3.elim
      | some off =>
        rw [hoff] at g3
        exact lv_tableIn hx hb d_ (by omega) (by omega) hoff g3 kk
  · exact hop.elim
theorem s_lsw {Tm : Nat → ai_Mt} {M : ai_Mt} {pc d len : Nat} {dflt : Int} {ps : Array (Int × Int)} (l : List (Int32 × Nat)) (d_ : decode M.2.1 pc = .ok (.lookupswitch dflt ps, len)) (hd : (pc : Int) + dflt = (d : Int)) (hp : (ps.toList.zip (ps.toList.drop 1)).all (fun (a, next) => a.1 < next.1) = true) (h1 : l.map (fun q => (q.1.toInt, (q.2 : Int) - (pc : Int))) = ps.toList) : ai_Sn Tm M pc (op_sw l d) := by
  intro Γ dd Cc Q P hC hRo hCl hR hP u w lc st h hop
  obtain ⟨la, R, p, e, s, m, args, below, meth, cd, Qm, D, cA, n0, vz, L, xs, ad0, h0⟩ := Γ
  obtain ⟨hx, hb, hml, hown, hts, hnm, hrc, hrs⟩ := hC
  unfold op_sw at hop
  split at hop
  · rename_i x r
    have hop2 := ai_swp_t l hop
    intro ad H locs ls hE hHP hKC hvl hvs hlv hS hu hw
    have kk := hP _ _ _ _ _ _ hop2 ad H locs ls hE hHP hKC hvl (ai_ok2 hvs) hlv hS hu hw
    have key : ∀ l : List (Int32 × Nat), (pc : Int) + Op.lookupswitch.offset (l.map (fun q => (q.1.toInt, (q.2 : Int) - (pc : Int)))) dflt x.toInt = (ai_swt x l d : Int) := by
      intro l
      induction l with
      | nil => exact hd
      | cons q r ih =>
        rw [List.map_cons, Op.lookupswitch.offset_cons]
        unfold ai_swt
        by_cases e : x = q.1
        · rw [if_pos e, if_pos (by rw [e])]; omega
        · rw [if_neg e, if_neg (fun z => e (Int32.toInt_inj.mp z.symm))]; exact ih
    exact lv_lookup hx hb d_ hp rfl (by rw [← h1]; exact key l) kk
  · exact hop.elim
/-! texts and statics -/
theorem s_ldcS {Tm : Nat → ai_Mt} {M : ai_Mt} {pc nx i a : Nat} (hM : M.1.cls = "CoinBoats$Tokens") (hia : (i = 80 ∧ a = 0) ∨ (i = 68 ∧ a = 1)) (d_ : decode M.2.1 pc = .ok (.ldc i, 2)) (hn : pc + 2 = nx) : ai_Sn Tm M pc (op_rc 18 a nx) := by
  intro Γ d Cc Q P hC hRo hCl hR hP u w lo st h hop
  obtain ⟨l, R, p, e, s, m, args, below, meth, cd, Qm, D, cA, n0, vz, L, xs, ad0, h0⟩ := Γ
  obtain ⟨hx, hb, hml, hown, hts, hnm, hrc, hrs⟩ := hC
  intro ad H locs ls hE hHP hKC hvl hvs hlv hS hu hw
  subst hn
  rw [hM] at hown
  have h18 := hHP.2.2.2.1.2.2.2.2.1
  have ha : a < 2 := by omega
  have kk := hP _ _ _ _ _ _ hop ad H locs ls hE hHP hKC hvl (ai_okc (show a < h.2.2.2.1 18 by omega) hvs) hlv hS hu hw
  rw [List.map_cons, ai_cvr vz ad (by decide)] at kk
  rcases hia with ⟨rfl, rfl⟩ | ⟨rfl, rfl⟩
  · exact va_ldcS hx hb hown hKC.2.2.2.2.2.1 d_ kk
  · exact va_ldcS hx hb hown hKC.2.2.2.2.2.2.1.1 d_ kk
theorem s_sc {Tm : Nat → ai_Mt} {M : ai_Mt} {pc nx i : Nat} (hl : Cond.fieldLink M.1.cls i "java/lang/String" "coder" "B" ∈ ai_tb) (d_ : decode M.2.1 pc = .ok (.getfield i, 3)) (hn : pc + 3 = nx) : ai_Sn Tm M pc (op_sc nx) := by
  intro Γ d Cc Q P hC hRo hCl hR hP u w lo st h hop
  obtain ⟨l, R, p, e, s, m, args, below, meth, cd, Qm, D, cA, n0, vz, L, xs, ad0, h0⟩ := Γ
  obtain ⟨hx, hb, hml, hown, hts, hnm, hrc, hrs⟩ := hC
  unfold op_sc at hop
  split at hop
  · rename_i k a r
    obtain ⟨hk0, hp2⟩ := ai_condT hop
    clear hop
    have hk := Nat.eq_of_beq_eq_true hk0
    subst hk
    intro ad H locs ls hE hHP hKC hvl hvs hlv hS hu hw
    subst hn
    have ha : a < h.2.2.2.1 18 := ai_ok1 hvs
    have h18 := hHP.2.2.2.1.2.2.2.2.1
    obtain ⟨cf, k, fi, f, cell, h1, h2, h3, h4, h5, -⟩ := (hKC.2.2.1.1 a (by omega)).2.1
    rw [List.map_cons, ai_cvr vz ad (by decide)]
    exact W.getf hx hb hown (hts _ hl) h1 h2 h3 h4 (v := .int 0) h5 rfl rfl d_ (hP _ _ _ _ _ _ hp2 ad H locs ls hE hHP hKC hvl (ai_okc trivial (ai_ok2 hvs)) hlv hS hu hw)
  · exact hop.elim
theorem s_sv {Tm : Nat → ai_Mt} {M : ai_Mt} {pc nx i : Nat} (hl : Cond.fieldLink M.1.cls i "java/lang/String" "value" "[B" ∈ ai_tb) (d_ : decode M.2.1 pc = .ok (.getfield i, 3)) (hn : pc + 3 = nx) : ai_Sn Tm M pc (op_sv nx) := by
  intro Γ d Cc Q P hC hRo hCl hR hP u w lo st h hop
  obtain ⟨l, R, p, e, s, m, args, below, meth, cd, Qm, D, cA, n0, vz, L, xs, ad0, h0⟩ := Γ
  obtain ⟨hx, hb, hml, hown, hts, hnm, hrc, hrs⟩ := hC
  unfold op_sv at hop
  split at hop
  · rename_i k a r
    obtain ⟨hk0, hp2⟩ := ai_condT hop
    clear hop
    have hk := Nat.eq_of_beq_eq_true hk0
    subst hk
    intro ad H locs ls hE hHP hKC hvl hvs hlv hS hu hw
    subst hn
    have ha : a < h.2.2.2.1 18 := ai_ok1 hvs
    have h18 := hHP.2.2.2.1.2.2.2.2.1
    have h19 := hHP.2.2.2.1.2.2.2.2.2.1
    obtain ⟨cf, k, fi, f, cell, h1, h2, h3, h4, h5, -⟩ := (hKC.2.2.1.1 a (by omega)).2.2.1
    have kk := hP _ _ _ _ _ _ hp2 ad H locs ls hE hHP hKC hvl (ai_okc (show a < h.2.2.2.1 19 by omega) (ai_ok2 hvs)) hlv hS hu hw
    rw [List.map_cons, ai_cvr vz ad (by decide)] at kk ⊢
    exact W.getf hx hb hown (hts _ hl) h1 h2 h3 h4 (v := .ref (ad 19 a)) h5 rfl rfl d_ kk
  · exact hop.elim
theorem s_gcs {Tm : Nat → ai_Mt} {M : ai_Mt} {pc nx i : Nat} (hl : Cond.fieldLink M.1.cls i "java/lang/String" "COMPACT_STRINGS" "Z" ∈ ai_tb) (d_ : decode M.2.1 pc = .ok (.getstatic i, 3)) (hn : pc + 3 = nx) : ai_Sn Tm M pc (op_ic 1 nx) := by
  intro Γ d Cc Q P hC hRo hCl hR hP u w lo st h hop
  obtain ⟨l, R, p, e, s, m, args, below, meth, cd, Qm, D, cA, n0, vz, L, xs, ad0, h0⟩ := Γ
  obtain ⟨hx, hb, hml, hown, hts, hnm, hrc, hrs⟩ := hC
  intro ad H locs ls hE hHP hKC hvl hvs hlv hS hu hw
  subst hn
  obtain ⟨cf, kf, fi, f, a, cell, h1, h2, h3, h4, h5, h6, h7, h8⟩ := hKC.2.2.2.1
  exact W.gets hx hb hown (hts _ hl) h1 h2 h3 h4 h5 (fun e => by rw [e] at h6; cases h6) h7 rfl d_ (hP _ _ _ _ _ _ hop ad H locs ls hE hHP hKC hvl (ai_okc trivial hvs) hlv hS hu hw)
theorem s_gsf {Tm : Nat → ai_Mt} {M : ai_Mt} {pc nx i : Nat} (hl : Cond.fieldLink M.1.cls i "jdk/internal/util/Preconditions" "SIOOBE_FORMATTER" "Ljava/util/function/BiFunction;" ∈ ai_tb) (d_ : decode M.2.1 pc = .ok (.getstatic i, 3)) (hn : pc + 3 = nx) : ai_Sn Tm M pc (op_rc 20 0 nx) := by
  intro Γ d Cc Q P hC hRo hCl hR hP u w lo st h hop
  obtain ⟨l, R, p, e, s, m, args, below, meth, cd, Qm, D, cA, n0, vz, L, xs, ad0, h0⟩ := Γ
  obtain ⟨hx, hb, hml, hown, hts, hnm, hrc, hrs⟩ := hC
  intro ad H locs ls hE hHP hKC hvl hvs hlv hS hu hw
  subst hn
  have h20 := hHP.2.2.2.1.2.2.2.2.2.2
  obtain ⟨cf, kf, fi, f, a, cell, h1, h2, h3, h4, h5, h6, h7, h8⟩ := hKC.2.2.2.2.1
  exact W.gets hx hb hown (hts _ hl) h1 h2 h3 h4 h5 (fun e => by rw [e] at h6; cases h6) h7 rfl d_ (hP _ _ _ _ _ _ hop ad H locs ls hE hHP hKC hvl (ai_okc (show 0 < h.2.2.2.1 20 by omega) hvs) hlv hS hu hw)
/-- a decode row, by the kernel -/
def ai_deq (r : Except DecodeError (Instr × Nat)) (i : Instr) (n : Nat) : Bool := match r with | .ok q => decide (q.1 = i) && decide (q.2 = n) | .error _ => false
theorem ai_dc {cc : ByteArray} {pc n : Nat} {i : Instr} (h : ai_deq (decode cc pc) i n = true) : decode cc pc = .ok (i, n) := by
  unfold ai_deq at h
  split at h
  · rename_i q hq
    simp only [Bool.and_eq_true, decide_eq_true_eq] at h
    rw [hq]
    exact congrArg Except.ok (Prod.ext h.1 h.2)
  · cases h
