/-! THE CLAIM OUT OF ONE WALK OF THE LAW'S BODY. Your part is whole_start (and what it stands on); all else here is the same for every law, but numbers. -/
def R_law : String := "CoinBoatsLaw"
def lw_P (b : Addr) (xs : List Int32) (args : Array Value) (s : State) : Prop := args = #[.ref b] ∧ s.IntsAt b xs ∧ xs.length ≤ 4096 ∧ (Jvm.Cond.and given_1 narrow_1).before args s = true
def lw_Q (_ : Array Value) (s : State) (o : Outcome) (t : State) : Prop := o = .returned (some (.int 1)) ∧ Framed s o t [] 600000 7302249
def lw_Z (below : List Frame) (a : Array Value) (s : State) : State → Prop := fun t => ∃ o, t.status = .running ∧ Ended t below o ∧ lw_Q a s o t
/-- the law's own end, with 1 on the stack, nothing written that was there before, its room as the claim has it -/
theorem lw_ret {p : Program} {l : Launch} {e : Env} {s : State} {m : MethodId} {below : List Frame} {meth : Method} {c : Code} {b : Nat} (hx : p.tables.exec = Jvm.exec) (hb : c.code = code) (hr : meth.sig.returnType = ret) (hlocks : meth.locks = false) {pc : Nat} {H : Heap} {ls : Array Slot} (hdg : decode code pc = .ok (.ireturn, 1)) : W p l e room_1 s m #[Value.ref b] below meth c H [] 600000 7302249 (lw_Z below #[Value.ref b] s) (F0 m pc ls [.int 1]) := by
  intro T hT X
  obtain ⟨fs, hret, hrun, hended, hW, hframe⟩ := X.leave (v := some (.int 1)) (hlocks := hlocks) (fun h => by rw [hr] at h; cases h)
  have hmeth' : T.vm.method? m = some meth := X.method'
  refine ⟨T.setFrames fs, ?_, .returned (some (.int 1)), hrun, hended, rfl, ⟨_, rfl⟩, hW, hframe⟩
  jvm_step X.here [X.here.top, hx, hb, hdg, hmeth', hr, ret, narrow_b1]
  (try refine ⟨rfl, ?_⟩); (try refine ⟨rfl, ?_⟩)
  first | (intro acts; rw [hret _ acts rfl rfl rfl]) | rw [hret _ _ rfl rfl rfl]
  exact Steps.refl _
/-- what holds at the law's entry: the machine, the code, the tables' words (any of lw_tbl by 'hts w (by decide +kernel)'), the script of L ints xs at the cell b, what the Statement gives of the start (any of its parts by flat_of_before) -/
def lw_At (p : Program) (s : State) (m : MethodId) (meth : Method) (c : Code) (b L : Nat) (xs : Nat → Int32) : Prop :=
  p.tables.exec = Jvm.exec ∧ c.code = code ∧ meth.sig.returnType = ret ∧ c.maxLocals = 4 ∧ s.vm.findClass R_law = some m.cls ∧ (∀ w ∈ lw_tbl, w.before #[Value.ref b] s = true) ∧ va_X b L xs s s.heap ∧ b < s.heap.size ∧ meth.locks = false ∧ (Jvm.Cond.and given_1 narrow_1).before #[Value.ref b] s = true

theorem st_cnt (L : Nat) (xs : Nat → Int32) : ∀ c, c < 17 → (hLi L xs).2.2.2.1 c = sh_cnt c := fun c hc => by match c, hc with | 0, _ => exact hL_c0 L xs | 1, _ => exact hL_c1 L xs | 2, _ => exact hL_c2 L xs | 3, _ => exact hL_c3 L xs | 4, _ => exact hL_c4 L xs | 5, _ => exact hL_c5 L xs | 6, _ => exact hL_c6 L xs | 7, _ => exact hL_c7 L xs | 8, _ => exact hL_c8 L xs | 9, _ => exact hL_c9 L xs | 10, _ => exact hL_c10 L xs | 11, _ => exact hL_c11 L xs | 12, _ => exact hL_c12 L xs | 13, _ => exact hL_c13 L xs | 14, _ => exact hL_c14 L xs | 15, _ => exact hL_c15 L xs | 16, _ => exact hL_c16 L xs | q + 17, h => exact absurd h (by omega)
def st_nf (c : Nat) : Nat := match c with | 0 => 3 | 1 => 4 | 2 => 5 | 3 => 8 | 4 => 1 | 5 => 8 | 6 => 4 | 7 => 9 | 8 => 3 | 9 => 8 | 10 => 7 | 11 => 13 | 12 => 44 | _ => 0
theorem st_R (L : Nat) (xs : Nat → Int32) : ∀ c, c < 13 → ∀ i, i < sh_cnt c → ∀ j, j < st_nf c → (hLi L xs).2.2.1 c i j = sh_R 0 1 c i j := fun c hc i hi j hj => by match c, hc, i, hi, j, hj with | 0, _, i, hi, j, hj => exact hL_r0 L xs i hi j hj | 1, _, i, hi, j, hj => exact hL_r1 L xs i hi j hj | 2, _, i, hi, j, hj => exact hL_r2 L xs i hi j hj | 3, _, i, hi, j, hj => exact hL_r3 L xs i hi j hj | 4, _, i, hi, j, hj => exact hL_r4 L xs i hi j hj | 5, _, i, hi, j, hj => exact hL_r5 L xs i hi j hj | 6, _, i, hi, j, hj => exact hL_r6 L xs i hi j hj | 7, _, i, hi, j, hj => exact hL_r7 L xs i hi j hj | 8, _, i, hi, j, hj => exact hL_r8 L xs i hi j hj | 9, _, i, hi, j, hj => exact hL_r9 L xs i hi j hj | 10, _, i, hi, j, hj => exact hL_r10 L xs i hi j hj | 11, _, i, hi, j, hj => exact hL_r11 L xs i hi j hj | 12, _, i, hi, j, hj => exact hL_r12 L xs i hi j hj | q + 13, h, _, _, _, _ => exact absurd h (by omega)
theorem st_len (L : Nat) (xs : Nat → Int32) : ∀ c i, 13 ≤ c → c < 17 → i < sh_cnt c → (hLi L xs).2.2.2.2 c i = sh_len L c i := by
  intro c i h1 h2 hi
  rcases (show c = 13 ∨ c = 14 ∨ c = 15 ∨ c = 16 by omega) with rfl | rfl | rfl | rfl
  · exact hL_l13 L xs i hi
  · exact hL_l14 L xs i hi
  · exact hL_l15 L xs i hi
  · exact hL_l16 L xs i hi
theorem st_R0 (c i j : Nat) (hc : c < 13) (hj : st_nf c ≤ j) : sh_R 0 1 c i j = 0 := by
  have hk : ∀ c, c < 13 → ∀ j, j < 44 → st_nf c ≤ j → sh_R 0 1 c i j = 0 := by
    intro c hc j hj h
    rcases (show c = 0 ∨ c = 1 ∨ c = 2 ∨ c = 3 ∨ c = 4 ∨ c = 5 ∨ c = 6 ∨ c = 7 ∨ c = 8 ∨ c = 9 ∨ c = 10 ∨ c = 11 ∨ c = 12 by omega) with rfl | rfl | rfl | rfl | rfl | rfl | rfl | rfl | rfl | rfl | rfl | rfl | rfl <;> (simp only [st_nf] at h; unfold sh_R; simp only []; split <;> first | rfl | omega)
  by_cases h44 : j < 44
  · exact hk c hc j h44 hj
  · rcases (show c = 0 ∨ c = 1 ∨ c = 2 ∨ c = 3 ∨ c = 4 ∨ c = 5 ∨ c = 6 ∨ c = 7 ∨ c = 8 ∨ c = 9 ∨ c = 10 ∨ c = 11 ∨ c = 12 by omega) with rfl | rfl | rfl | rfl | rfl | rfl | rfl | rfl | rfl | rfl | rfl | rfl | rfl <;> (unfold sh_R; simp only []; split <;> first | rfl | omega)
theorem st_nfv : ∀ (c : Nat) (r : vw_C), vwCl[c]? = some r → r.2.2 = st_nf c := fun c r h => by match c, r, h with | 0, r, h => cases h; rfl | 1, r, h => cases h; rfl | 2, r, h => cases h; rfl | 3, r, h => cases h; rfl | 4, r, h => cases h; rfl | 5, r, h => cases h; rfl | 6, r, h => cases h; rfl | 7, r, h => cases h; rfl | 8, r, h => cases h; rfl | 9, r, h => cases h; rfl | 10, r, h => cases h; rfl | 11, r, h => cases h; rfl | 12, r, h => cases h; rfl | c + 13, r, h => cases h
theorem st_kd (t : FieldType) : ai_kd t < 17 ∨ ai_kd t = 99 := by
  have hn : ∀ n, ai_kn n < 17 ∨ ai_kn n = 99 := by
    intro n
    unfold ai_kn
    repeat' (split; · exact Or.inl (by decide))
    exact Or.inr rfl
  unfold ai_kd
  split <;> first | exact Or.inl (by decide) | exact hn _ | exact Or.inr rfl
/-- the heap behind the constructors, as the shallow functions see it -/
theorem st_move0 {D : va_G} {cA : Nat → ClassId} {n0 L : Nat} {xs : Nat → Int32} {ad : Nat → Nat → Nat} {H : Heap} {g : ai_H} (sC : ∀ c, c < 17 → g.2.2.2.1 c = sh_cnt c) (s99 : g.2.2.2.1 99 = sh_cnt 99) (sR : ∀ c, c < 13 → ∀ i, i < sh_cnt c → ∀ j, j < st_nf c → g.2.2.1 c i j = sh_R 0 1 c i j) (sL : ∀ c i, 13 ≤ c → c < 17 → i < sh_cnt c → g.2.2.2.2 c i = sh_len L c i) (h : ai_HP D cA n0 L xs ad g H) : ai_HP D cA n0 L xs ad (sh_E (g.1, g.2.1, 0, 1, L)) H := by
  obtain ⟨h1, h2, h3, h4, h5⟩ := h
  have hc : ∀ c, c < 17 → (sh_E (g.1, g.2.1, 0, 1, L)).2.2.2.1 c = g.2.2.2.1 c := fun c h => (sC c h).symm
  refine ⟨fun c i hc1 hi => ?_, fun c i c' i' a1 a2 a3 a4 a5 => ?_, fun c i j b a1 a2 a3 a4 => ?_, ⟨h4.1, rfl, fun i hi => ⟨rfl, (h4.2.2.1 i hi).2⟩, rfl, rfl, rfl, rfl⟩, h5⟩
  · have hi2 : i < g.2.2.2.1 c := by rw [← hc c hc1]; exact hi
    obtain ⟨g1, g2, g3⟩ := h1 c i hc1 hi2
    refine ⟨⟨fun r hr => ?_, fun e => ?_, fun e => ?_⟩, g2, g3⟩
    · refine (g1.1 r hr).to (fun k hk => ?_)
      rw [st_nfv c r hr] at hk
      have hc13 : c < 13 := (List.getElem?_eq_some_iff.mp hr).1
      exact ai_fv_eq rfl rfl (sR c hc13 i hi k hk) (fun _ _ _ => rfl)
    · rw [g1.2.1 e, sL c i (by omega) hc1 hi]; rfl
    · rw [g1.2.2 e, sL c i (by omega) hc1 hi]; rfl
  · exact h2 c i c' i' a1 (by rw [← hc c a1]; exact a2) a3 (by rw [← hc c' a3]; exact a4) a5
  · have a2' : i < g.2.2.2.1 c := by rw [← hc c (by omega)]; exact a2
    have hj : j < st_nf c := by
      rcases Nat.lt_or_ge j (st_nf c) with q | q
      · exact q
      · have a3 : sh_R 0 1 c i j = b + 1 := a3
        rw [st_R0 c i j a1 q] at a3
        cases a3
    have e := h3 c i j b a1 a2' ((sR c a1 i a2 j hj).trans a3) a4
    rcases st_kd (ai_ty c j) with q | q
    · rw [hc _ q]; exact e
    · rw [q] at e ⊢
      rw [s99] at e
      exact e
theorem st_move {D : va_G} {cA : Nat → ClassId} {n0 L : Nat} {xs : Nat → Int32} {ad : Nat → Nat → Nat} {H : Heap} (h : ai_HP D cA n0 L xs ad (hLi L xs) H) : ai_HP D cA n0 L xs ad (sh_E (sh_0 L xs)) H := st_move0 (st_cnt L xs) (hL_c99 L xs) (st_R L xs) (st_len L xs) h
theorem st_ret {p : Program} {l : Launch} {e : Env} {s : State} {m : MethodId} {below : List Frame} {meth : Method} {c : Code} {b : Nat} (hx : p.tables.exec = Jvm.exec) (hb : c.code = code) (hr : meth.sig.returnType = ret) (hlocks : meth.locks = false) {pc : Nat} {H : Heap} {ls : Array Slot} {x : Int32} (hn : narrow .boolean (.int x) = .int 1) (hdg : decode code pc = .ok (.ireturn, 1)) : W p l e room_1 s m #[Value.ref b] below meth c H [] 600000 7302249 (lw_Z below #[Value.ref b] s) (F0 m pc ls [.int x]) := by
  intro T hT X
  obtain ⟨fs, hret, hrun, hended, hW, hframe⟩ := X.leave (v := some (.int 1)) (hlocks := hlocks) (fun h => by rw [hr] at h; cases h)
  have hmeth' : T.vm.method? m = some meth := X.method'
  refine ⟨T.setFrames fs, ?_, .returned (some (.int 1)), hrun, hended, rfl, ⟨_, rfl⟩, hW, hframe⟩
  jvm_step X.here [X.here.top, hx, hb, hdg, hmeth', hr, ret, hn]
  (try refine ⟨rfl, ?_⟩); (try refine ⟨rfl, ?_⟩)
  first | (intro acts; rw [hret _ acts rfl rfl rfl]) | rw [hret _ _ rfl rfl rfl]
  exact Steps.refl _
set_option maxRecDepth 100000 in
theorem e_law0 {Γ : ai_X} {Q0 : ai_Q} (hCx : ai_Cx Γ M_L) (hRo : ai_Ro Γ 1000) (hCl : ai_Cl (fun m => (sh_TT m).2) Γ 1000 (ai_Ex sh_T 1000)) (hRO : ai_RO Γ M_L Q0) (I1 I2 : ai_H → Nat → ai_H) (h1 : ∀ (h : ai_H) (a : Nat) (Q : ai_Q), Q none (I1 h a) → ai_Ex sh_T 1000 146 [aR 11 a] h Q) (h2 : ∀ (h : ai_H) (a : Nat) (Q : ai_Q), Q none (I2 h a) → ai_Ex sh_T 1000 206 [aR 12 a] h Q) (g0 : ai_H)
    (k : ai_Wd Γ M_L 126 102108 16 [oR 17 0, oR 11 (g0.2.2.2.1 11), oR 12 ((I1 (ai_new g0 11 0) (g0.2.2.2.1 11)).2.2.2.1 12), none] [] (I2 (ai_new (I1 (ai_new g0 11 0) (g0.2.2.2.1 11)) 12 0) ((I1 (ai_new g0 11 0) (g0.2.2.2.1 11)).2.2.2.1 12))) : ai_Wd Γ M_L 0 0 0 [oR 17 0, none, none, none] [] g0 := by
  refine ai_Wd_steps (C := ai_Ex sh_T 1000) sn_L (sh_CM 1000) hCx hRo hCl hRO 1 (And.intro ⟨Nat.le_of_ble_eq_true rfl, Nat.le_of_ble_eq_true rfl⟩ ?_)
  refine ai_Wd_steps (C := ai_Ex sh_T 1000) sn_L (sh_CM 1000) hCx hRo hCl hRO 2 (And.intro ⟨Nat.le_of_ble_eq_true rfl, Nat.le_of_ble_eq_true rfl, Nat.le_of_ble_eq_true rfl⟩ (h1 _ _ _ ⟨rfl, ?_⟩))
  refine ai_Wd_steps (C := ai_Ex sh_T 1000) sn_L (sh_CM 1000) hCx hRo hCl hRO 2 (And.intro ⟨Nat.le_of_ble_eq_true rfl, Nat.le_of_ble_eq_true rfl⟩ ?_)
  refine ai_Wd_steps (C := ai_Ex sh_T 1000) sn_L (sh_CM 1000) hCx hRo hCl hRO 2 (And.intro ⟨Nat.le_of_ble_eq_true rfl, Nat.le_of_ble_eq_true rfl, Nat.le_of_ble_eq_true rfl⟩ (h2 _ _ _ ⟨rfl, ?_⟩))
  exact ai_Wd_steps (C := ai_Ex sh_T 1000) sn_L (sh_CM 1000) hCx hRo hCl hRO 1 k
set_option maxRecDepth 100000 in
/-- from the entry, out of the law's loop over the shallow heap -/
theorem whole_open (N : Nat) (hmain : ∀ (L : Nat) (xs : Nat → Int32), L ≤ 4096 → sh_ok (f_law N (sh_0 L xs)) (fun q => q.1 = 1)) {p : Program} {e : Env} {s : State} {m : MethodId} {below : List Frame} {meth : Method} {c : Code} (l : Launch) {b L : Nat} {xs : Nat → Int32} (hL : L ≤ 4096) (C0 : lw_At p s m meth c b L xs) (hnm : meth.name = "law") : W p l e room_1 s m #[Value.ref b] below meth c s.heap [] 0 0 (lw_Z below #[Value.ref b] s) (entryFrame m ([Value.ref b] : List Value).toArray 4) := by
  obtain ⟨hx, hb, hr, hml, hown, hts, hX, hbl, hlocks, hgv⟩ := id C0
  obtain ⟨D, cA, vz, ad, had, hHP, hKC⟩ := st_world hts hX hbl hgv
  have hz := hKC.2.2.2.2.2.2.2.2
  have hl := lv_entry ([.ref b]) (n := 4) (Nat.le_of_ble_eq_true rfl)
  rw [lg_entry_eq]
  let Γ : ai_X := (l, room_1, p, e, s, m, #[Value.ref b], below, meth, c, lw_Z below #[Value.ref b] s, D, cA, s.heap.size, vz, L, xs, ad, ini0 L xs)
  have hCx : ai_Cx Γ M_L := ⟨hx, hb, hml, hown, fun w hw => hts w (ai_tb_sub w hw), hnm, rfl, rfl⟩
  have hRo : ai_Ro Γ 1000 := ⟨Nat.le_of_ble_eq_true rfl, Nat.le_of_ble_eq_true rfl⟩
  have hs : ∀ mm pc op, (sh_TT mm).1 pc = some op → ai_Sn (fun m => (sh_TT m).2) (sh_TT mm).2 pc op := sh_SN
  have hCl : ai_Cl (fun m => (sh_TT m).2) Γ 1000 (ai_Ex sh_T 1000) := ai_main2 sh_TT hs sh_PL l D cA s.heap.size vz L xs 1000
  have hRO : ai_RO Γ M_L (fun v _ => v = some (aI 1)) := by
    intro ad' H locs ls h u w pc hE hHP' hKC' hS hu hw
    refine ⟨fun hq => (by cases hq), fun y hq => (by cases hq), fun x y ty hq hty hn hd => ?_⟩
    have hy : y = 1 := by injection hq with hq; injection hq
    subst hy
    have hty' : ty = .boolean := by
      have h1 : (ret : Option FieldType) = some ty := hty
      rw [show ret = some FieldType.boolean from rfl] at h1
      exact (Option.some.inj h1).symm
    subst hty'
    refine va_forget (fun q hq => hS.2.2 q hq) ?_
    exact W.widen hu hw (st_ret hx hb hr hlocks hn hd)
  have hlv : lv_has ((lg_sl ([.ref b]) ++ List.replicate (4 - (lg_sl ([.ref b])).length) Slot.unset).toArray) 4 (ai_lv vz ad 4 [oR 17 0, none, none, none]) := by
    refine ai_lv_sub hl fun q hq => ?_
    obtain ⟨hq1, w, hw, e⟩ := ai_lv_mem.mp hq
    have h2 := (ai_args_lg vz ad hz [aR 17 0] 0 q.1 w (by rw [← ai_lg_pad 4]; exact hw)).2
    rw [Nat.zero_add, ← e] at h2
    have e17 : ai_cv vz ad (aR 17 0) = .ref b := by rw [ai_cvr vz ad (by decide), had]
    rw [List.map_cons, List.map_nil, e17] at h2
    exact h2
  have key : ai_Wd Γ M_L 0 0 0 [oR 17 0, none, none, none] [] (ini0 L xs) := by
    refine e_law0 hCx hRo hCl hRO ini_CB ini_M (fun h a Q H => e_CB_init (Nat.le_of_ble_eq_true rfl) H) (fun h a Q H => e_M_init (Nat.le_of_ble_eq_true rfl) H) (ini0 L xs) ?_
    show ai_Wd Γ M_L 126 102108 16 [oR 17 0, oR 11 ((ini0 L xs).2.2.2.1 11), oR 12 ((hXi L xs).2.2.2.1 12), none] [] (hLi L xs)
    rw [hXi_12, show (ini0 L xs).2.2.2.1 11 = 0 from rfl]
    intro ad' H locs ls hE hHP' hKC' hvl hvs hlv' hS hu hw
    have hwp : ai_WP cd_L (ai_Ex sh_T 1000) (fun v _ => v = some (aI 1)) 126 102108 16 [oR 17 0, oR 11 0, oR 12 0, none] [] (sh_E (sh_0 L xs)) := x_law N (Nat.le_of_ble_eq_true rfl) (sh_0 L xs) (hmain L xs hL) (fun r h e => by rw [show r = 1 from e])
    have hcnt : ∀ c, c < 21 → (sh_E (sh_0 L xs)).2.2.2.1 c = (hLi L xs).2.2.2.1 c := by
      intro c hc
      rcases Nat.lt_or_ge c 17 with q | q
      · exact (st_cnt L xs c q).symm
      · rcases (show c = 17 ∨ c = 18 ∨ c = 19 ∨ c = 20 by omega) with rfl | rfl | rfl | rfl
        · exact (hL_c17 L xs).symm
        · exact (hL_c18 L xs).symm
        · exact (hL_c19 L xs).symm
        · exact (hL_c20 L xs).symm
    refine ai_sound (T := fun m => (sh_TT m).2) (fun pc op h => (sn_L pc op h).1) hCx hRo hCl hRO hwp ad' H locs ls ⟨fun c => ?_, hE.2⟩ (st_move hHP') hKC' ?_ (fun v hv => by cases hv) hlv' hS hu hw
    · rcases Nat.lt_or_ge c 21 with q | q
      · rw [hcnt c q]; exact hE.1 c
      · rw [show (ini0 L xs).2.2.2.1 c = 0 from by
          show (match c with | 17 => 1 | 18 => 2 | 19 => 2 | 20 => 1 | _ => 0) = 0
          split <;> first | rfl | omega]
        exact Nat.zero_le _
    · intro j v hv
      match j, hv with
      | 0, hv => cases hv; exact (by decide : 0 < 1)
      | 1, hv => cases hv; exact (by decide : 0 < 1)
      | 2, hv => cases hv; exact (by decide : 0 < 1)
      | 3, hv => cases hv
      | j + 4, hv =>
        have : ai_lg ([oR 17 0, oR 11 0, oR 12 0, none] : ai_L) (j + 4) = none := by cases j <;> rfl
        rw [this] at hv
        cases hv
  exact key ad s.heap [] _ ⟨fun _ => Nat.le_refl _, fun _ _ _ => rfl⟩ hHP hKC (fun j v hv => by
    match j, hv with
    | 0, hv => cases hv; exact (by decide : 0 < 1)
    | 1, hv => cases hv
    | 2, hv => cases hv
    | 3, hv => cases hv
    | j + 4, hv =>
      have : ai_lg ([oR 17 0, none, none, none] : ai_L) (j + 4) = none := by cases j <;> rfl
      rw [this] at hv
      cases hv) (fun v hv => by cases hv) hlv va_S.rf (Nat.zero_le _) (Nat.zero_le _)
