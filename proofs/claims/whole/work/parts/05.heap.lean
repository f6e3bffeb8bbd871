/-! HEAP OPERATIONS, SOUND -/
theorem ai_fv_eq {ad ad1 : Nat → Nat → Nat} {h h1 : ai_H} {c i j : Nat} (h1e : h1.1 c i j = h.1 c i j) (h2e : h1.2.1 c i j = h.2.1 c i j) (h3e : h1.2.2.1 c i j = h.2.2.1 c i j) (hr : ∀ b, h.2.2.1 c i j = b + 1 → (∃ n, ai_ty c j = .object n) ∨ (∃ t, ai_ty c j = .array t) → ad1 (ai_kd (ai_ty c j)) b = ad (ai_kd (ai_ty c j)) b) : ai_fv ad1 h1 c i j = ai_fv ad h c i j := by
  unfold ai_fv
  rw [h1e, h2e, h3e]
  cases ht : ai_ty c j with
  | object n =>
    cases hb : h.2.2.1 c i j with
    | zero => rfl
    | succ b =>
      have e := hr b hb (Or.inl ⟨n, ht⟩)
      rw [ht] at e
      exact congrArg Value.ref e
  | array t =>
    cases hb : h.2.2.1 c i j with
    | zero => rfl
    | succ b =>
      have e := hr b hb (Or.inr ⟨t, ht⟩)
      rw [ht] at e
      exact congrArg Value.ref e
  | _ => rfl
/-- one instance changed, all else as it was -/
theorem ai_HP_put {D : va_G} {cA : Nat → ClassId} {n0 L : Nat} {xs : Nat → Int32} {ad : Nat → Nat → Nat} {h h1 : ai_H} {H H1 : Heap} (hHP : ai_HP D cA n0 L xs ad h H) {c0 i0 : Nat} (hc : c0 < 17) (hi : i0 < h.2.2.2.1 c0) (hs : h1.2.2.2 = h.2.2.2)
    (hoff : ∀ c i, ¬ (c = c0 ∧ i = i0) → (∀ j, h1.1 c i j = h.1 c i j) ∧ (∀ j, h1.2.1 c i j = h.2.1 c i j) ∧ (∀ j, h1.2.2.1 c i j = h.2.2.1 c i j)) (hz : H1.size = H.size) (hq : ∀ q : Nat, q ≠ ad c0 i0 → H1[q]? = H[q]?) (hcell : ai_cell D cA ad h1 c0 i0 H1) (hcl : ai_cl h1) : ai_HP D cA n0 L xs ad h1 H1 := by
  obtain ⟨hA, hB, hC, hD, hE⟩ := hHP
  have hcnt : h1.2.2.2.1 = h.2.2.2.1 := by rw [hs]
  have hlen : h1.2.2.2.2 = h.2.2.2.2 := by rw [hs]
  refine ⟨fun c i hc1 hi1 => ?_, fun c i c' i' h1' h2' h3' h4' => ?_, hcl, ?_, by rw [hz]; exact hE⟩
  · rw [hcnt] at hi1
    obtain ⟨g1, g2, g3⟩ := hA c i hc1 hi1
    refine ⟨?_, g2, by rw [hz]; exact g3⟩
    by_cases he : c = c0 ∧ i = i0
    · obtain ⟨rfl, rfl⟩ := he; exact hcell
    · obtain ⟨o1, o2, o3⟩ := hoff c i he
      have hne : ad c i ≠ ad c0 i0 := fun q => he (hB c i c0 i0 hc1 hi1 hc hi q)
      have hk : H1[ad c i]? = H[ad c i]? := hq _ hne
      refine ⟨fun r hr => ?_, fun e => ?_, fun e => ?_⟩
      · exact ((g1.1 r hr).kept hk).to (fun k _ => (ai_fv_eq (o1 k) (o2 k) (o3 k) (fun _ _ _ => rfl)).symm)
      · rw [hk, g1.2.1 e, hlen]
        congr 2
        funext j; rw [o2 j]
      · rw [hk, g1.2.2 e, hlen]
        congr 2
        funext j; rw [o1 j]
  · rw [hcnt] at h2' h4'
    exact hB c i c' i' h1' h2' h3' h4'
  · obtain ⟨d1, d2, d3, d4, d5, d6, d7⟩ := hD
    refine ⟨fun j => ?_, by rw [hlen]; exact d2, fun i hi2 => ⟨by rw [hlen]; exact (d3 i hi2).1, fun j => ?_⟩, by rw [hcnt]; exact d4, by rw [hcnt]; exact d5, by rw [hcnt]; exact d6, by rw [hcnt]; exact d7⟩
    · rw [(hoff 17 0 (fun q => by omega)).1 j]; exact d1 j
    · rw [(hoff 19 i (fun q => by omega)).1 j]; exact (d3 i hi2).2 j
theorem ai_KC_kept {D : va_G} {cA : Nat → ClassId} {n0 L : Nat} {xs : Nat → Int32} {vz : Value} {ad : Nat → Nat → Nat} {U : State} {H H1 : Heap} (h : ai_KC D cA n0 L xs vz ad U H) (hq : ∀ a : Nat, a < H.size → ¬ n0 ≤ a → H1[a]? = H[a]?) (hz : n0 ≤ H1.size) : ai_KC D cA n0 L xs vz ad U H1 := by
  obtain ⟨k1, ⟨⟨scr, x1, x2⟩, k3⟩, k4, k5, k6, k7, k8, k9, k10⟩ := h
  refine ⟨k1, ⟨⟨scr, ?_, x2⟩, k3⟩, k4.kept hq, k5.kept hq, k6.kept hq, k7, k8, hz, k10⟩
  rw [hq _ (Array.getElem?_eq_some_iff.mp x1).1 (Nat.not_le.mpr k3)]
  exact x1
theorem ai_KC_warm {D : va_G} {cA : Nat → ClassId} {n0 L : Nat} {xs : Nat → Int32} {vz : Value} {ad : Nat → Nat → Nat} {s U : State} {H : Heap} (h : ai_KC D cA n0 L xs vz ad s H) (hW : s.WarmedH U.vm) : ai_KC D cA n0 L xs vz ad U H := by
  obtain ⟨k1, ⟨⟨scr, x1, x2, x3⟩, k3⟩, k4, k5, k6, k7, k8, k9, k10⟩ := h
  exact ⟨k1.moved hW.alike, ⟨⟨scr, x1, State.isArrayOf_alike hW.alike x2, x3⟩, k3⟩, k4.moved hW.alike, k5.moved hW.alike, k6.moved hW.alike, k7.warm hW, ⟨k8.1.warm hW, ⟨fun q hq => (k8.2.1 q hq).warmF hW, fun q hq => (k8.2.2 q hq).warmM hW⟩⟩, k9, k10⟩
theorem ai_KC_ad {D : va_G} {cA : Nat → ClassId} {n0 L : Nat} {xs : Nat → Int32} {vz : Value} {ad ad' : Nat → Nat → Nat} {U : State} {H : Heap} (h : ai_KC D cA n0 L xs vz ad U H) (e : ∀ c i, 17 ≤ c → ad' c i = ad c i) : ai_KC D cA n0 L xs vz ad' U H := by
  obtain ⟨k1, ⟨k2, k3⟩, k4, k5, k6, k7, k8, k9, k10⟩ := h
  have e18 : ad' 18 = ad 18 := funext fun i => e 18 i (by decide)
  have e19 : ad' 19 = ad 19 := funext fun i => e 19 i (by decide)
  have e17 : ad' 17 0 = ad 17 0 := e 17 0 (by decide)
  exact ⟨k1, ⟨by rw [e17]; exact k2, by rw [e17]; exact k3⟩, by rw [e18, e19]; exact k4, k5, k6, by rw [e18]; exact k7, ⟨by rw [e18]; exact k8.1, k8.2⟩, k9, k10⟩
/-- the tables of a class -/
def ai_Tb (c : Nat) (C : String) (T : u_T) (N : Nat) : Prop := vwCl[c]? = some (C, T, N) ∧ (∀ w ∈ u_ws C T N, w ∈ ai_tb) ∧ (∀ k, k < N → parseFieldDescriptor (T k).2.2.1 = some (ai_ty c k)) ∧ (∀ a, a < N → ∀ b, b < N → a ≠ b → (T a).2.1 ≠ (T b).2.1) ∧ (∀ k, k < N → (T k).1 = C) ∧ c < 13
theorem ai_getf {Tm : Nat → ai_Mt} {M : ai_Mt} {pc nx c j i : Nat} {C : String} {T : u_T} {N : Nat} (hT : ai_Tb c C T N) (hj : j < N) (hlk : Cond.fieldLink M.1.cls i C (T j).2.1 (T j).2.2.1 ∈ ai_tb ∨ (∃ host, (M.1.cls, i, C, (T j).2.1, (T j).2.2.1, host) ∈ ai_nfl)) (d_ : decode M.2.1 pc = .ok (.getfield i, 3)) (hn : pc + 3 = nx)
    {Γ : ai_X} (hC : ai_Cx Γ M) {P : ai_P} (hP : ∀ u w pc lo st h, P u w pc lo st h → ai_Wd Γ M u w pc lo st h) {u w : Nat} {lo : ai_L} {st : ai_S} {h : ai_H} {a : Nat}
    (k : ∀ (ad : Nat → Nat → Nat), a < h.2.2.2.1 c → ∃ v : ai_V, ai_fv ad h c a j = ai_cv (match Γ with | (_, _, _, _, _, _, _, _, _, _, _, _, _, _, vz, _, _, _, _) => vz) ad v ∧ ((∀ c i j b, c < 13 → i < h.2.2.2.1 c → h.2.2.1 c i j = b + 1 → (∃ n, ai_ty c j = .object n) ∨ (∃ t, ai_ty c j = .array t) → b < h.2.2.2.1 (ai_kd (ai_ty c j))) → ai_ok h.2.2.2.1 v) ∧ P u w nx lo (v :: st) h) : ai_Wd Γ M u w pc lo (aR c a :: st) h := by
  obtain ⟨l, R, p, e, s, m, args, below, meth, cd, Qm, D, cA, n0, vz, L, xs, ad0, h0⟩ := Γ
  obtain ⟨hx, hb, hml, hown, hts, hnm, hrc, hrs⟩ := hC
  intro ad H locs ls hE hHP hKC hvl hvs hlv hS hu hw
  obtain ⟨hc, hin, hty, hna, hcl, hc13⟩ := hT
  have ha : a < h.2.2.2.1 c := ai_ok1 hvs
  obtain ⟨v, e1, e2, e3⟩ := k ad ha
  have e : ai_cv vz ad (aR c a) = .ref (ad c a) := by
    show cond (Nat.beq c 20) vz (.ref (ad c a)) = _
    rw [ai_nb (by omega)]
    rfl
  rw [List.map_cons, e]
  have hO := (hHP.1 c a (by omega) ha).1.1 _ hc
  have hPw : va_P D vwCl [(ad c a, .inr (c, (List.range N).map (ai_fv ad h c a)))] H := by
    intro k q hq
    have hz : k < 1 := (List.getElem?_eq_some_iff.mp hq).1
    rw [show k = 0 by omega] at hq
    cases hq
    refine ⟨_, hc, hO.to (fun k hk => ?_)⟩
    simp [vp_V, hk]
  have hv : ((List.range N).map (ai_fv ad h c a))[j]? = some (ai_cv vz ad v) := by simp [hj, e1]
  subst hn
  have kk := hP _ _ _ _ _ _ e3 ad H locs ls hE hHP hKC hvl (ai_okc (e2 hHP.2.2.1) (ai_ok2 hvs)) hlv hS hu hw
  rw [List.map_cons] at kk
  rcases hlk with hlk | ⟨host, hlk⟩
  · exact va_get hx hb hts hin hown hKC.1 hPw 0 rfl hc j hj (ref := C) (hts _ hlk) (fun x hx => by rw [hcl j hj] at hx; exact hx) hv d_ kk
  · exact va_getN hx hb hts hin hown hKC.1 hPw 0 rfl hc j hj (ref := C) (host := host) (va_Nw.use rfl (hKC.2.2.2.2.2.2.1.2.1 _ hlk)) (fun x hx => by rw [hcl j hj] at hx; exact hx) hv d_ kk
theorem s_getI {Tm : Nat → ai_Mt} {M : ai_Mt} {pc nx c j i : Nat} {C : String} {T : u_T} {N : Nat} (hT : ai_Tb c C T N) (hj : j < N) (hlk : Cond.fieldLink M.1.cls i C (T j).2.1 (T j).2.2.1 ∈ ai_tb ∨ (∃ host, (M.1.cls, i, C, (T j).2.1, (T j).2.2.1, host) ∈ ai_nfl)) (hf : ∀ ad h a, ai_fv ad h c a j = .int (h.1 c a j)) (d_ : decode M.2.1 pc = .ok (.getfield i, 3)) (hn : pc + 3 = nx) : ai_Sn Tm M pc (op_getI c j nx) := by
  intro Γ d Cc Q P hC hRo hCl hR hP u w lo st h hop
  unfold op_getI at hop
  split at hop
  · rename_i k a r
    obtain ⟨hk0, hp2⟩ := ai_condT hop
    clear hop
    have hk := Nat.eq_of_beq_eq_true hk0
    subst hk
    exact ai_getf (Tm := Tm) hT hj hlk d_ hn hC hP (fun ad ha => ⟨aI (h.1 k a j), hf ad h a, fun _ => trivial, hp2⟩)
  · exact hop.elim
theorem s_getL {Tm : Nat → ai_Mt} {M : ai_Mt} {pc nx c j i : Nat} {C : String} {T : u_T} {N : Nat} (hT : ai_Tb c C T N) (hj : j < N) (hlk : Cond.fieldLink M.1.cls i C (T j).2.1 (T j).2.2.1 ∈ ai_tb ∨ (∃ host, (M.1.cls, i, C, (T j).2.1, (T j).2.2.1, host) ∈ ai_nfl)) (hf : ∀ ad h a, ai_fv ad h c a j = .long (h.2.1 c a j)) (d_ : decode M.2.1 pc = .ok (.getfield i, 3)) (hn : pc + 3 = nx) : ai_Sn Tm M pc (op_getL c j nx) := by
  intro Γ d Cc Q P hC hRo hCl hR hP u w lo st h hop
  unfold op_getL at hop
  split at hop
  · rename_i k a r
    obtain ⟨hk0, hp2⟩ := ai_condT hop
    clear hop
    have hk := Nat.eq_of_beq_eq_true hk0
    subst hk
    exact ai_getf (Tm := Tm) hT hj hlk d_ hn hC hP (fun ad ha => ⟨aL (h.2.1 k a j), hf ad h a, fun _ => trivial, hp2⟩)
  · exact hop.elim
theorem s_getR {Tm : Nat → ai_Mt} {M : ai_Mt} {pc nx c j t i : Nat} {C : String} {T : u_T} {N : Nat} (hT : ai_Tb c C T N) (hj : j < N) (hlk : Cond.fieldLink M.1.cls i C (T j).2.1 (T j).2.2.1 ∈ ai_tb ∨ (∃ host, (M.1.cls, i, C, (T j).2.1, (T j).2.2.1, host) ∈ ai_nfl)) (hf : ∀ ad h a, ai_fv ad h c a j = ai_rv ad t (h.2.2.1 c a j)) (ht : ai_kd (ai_ty c j) = t) (ht2 : t < 20) (hrf : (∃ n, ai_ty c j = .object n) ∨ (∃ t, ai_ty c j = .array t)) (d_ : decode M.2.1 pc = .ok (.getfield i, 3)) (hn : pc + 3 = nx) : ai_Sn Tm M pc (op_getR c j t nx) := by
  intro Γ d Cc Q P hC hRo hCl hR hP u w lo st h hop
  unfold op_getR at hop
  split at hop
  · rename_i k a r
    obtain ⟨hk0, hp2⟩ := ai_condT hop
    clear hop
    have hk := Nat.eq_of_beq_eq_true hk0
    subst hk
    split at hp2
    · exact hp2.elim
    · rename_i b hb
      refine ai_getf (Tm := Tm) hT hj hlk d_ hn hC hP (fun ad ha => ⟨aR t b, ?_, fun hcl => ?_, hp2⟩)
      · rw [hf, hb]
        show Value.ref (ad t b) = cond (Nat.beq t 20) _ (.ref (ad t b))
        rw [ai_nb ht2]
        rfl
      · have h1 := hcl k a j b hT.2.2.2.2.2 ha hb hrf
        rw [ht] at h1
        exact h1
  · exact hop.elim
/-! writing a field -/
theorem ai_cell_put {D : va_G} {cA : Nat → ClassId} {ad : Nat → Nat → Nat} {h1 : ai_H} {H1 : Heap} {c a : Nat} {r0 : vw_C} (hr0 : vwCl[c]? = some r0) (hc : c < 13) (hO : t_OB (ad c a) (D.1 c) r0.2.2 (D.2 c) H1 (ai_fv ad h1 c a)) : ai_cell D cA ad h1 c a H1 := by
  refine ⟨fun r hr => ?_, fun q => by omega, fun q => by omega⟩
  cases hr0.symm.trans hr
  exact hO
theorem ai_putc {M : ai_Mt} {pc c j i : Nat} {C : String} {T : u_T} {N : Nat} (hT : ai_Tb c C T N) (hj : j < N) (hlk : (Cond.fieldLink M.1.cls i C (T j).2.1 (T j).2.2.1 ∈ ai_tb ∧ ((T j).2.2.2 = false ∨ (M.1.name = "<init>" ∧ M.1.cls = C))) ∨ ((∃ host, (M.1.cls, i, C, (T j).2.1, (T j).2.2.1, host) ∈ ai_nfl) ∧ (T j).2.2.2 = false)) (d_ : decode M.2.1 pc = .ok (.putfield i, 3))
    {l : Launch} {R : Room} {p : Program} {e : Env} {s : State} {m : MethodId} {args : Array Value} {below : List Frame} {meth : Method} {cd : Code} {Qm : State → Prop} {D : va_G} {cA : Nat → ClassId} {n0 : Nat} {vz : Value} {L : Nat} {xs : Nat → Int32} {ad0 : Nat → Nat → Nat} {h0 : ai_H} (hC : ai_Cx (l, R, p, e, s, m, args, below, meth, cd, Qm, D, cA, n0, vz, L, xs, ad0, h0) M)
    {ad : Nat → Nat → Nat} {H : Heap} {locs : List Loc} {ls : Array Slot} {u w a : Nat} {h : ai_H} (hHP : ai_HP D cA n0 L xs ad h H) (hKC : ai_KC D cA n0 L xs vz ad s H) (ha : a < h.2.2.2.1 c) (hS : va_S (fun q => n0 ≤ q) s.heap H locs) {v : Value} (hnf : narrow (ai_ty c j) v = v ∧ fits (ai_ty c j) v = true) {rest : List Value}
    (kk : ∀ (H1 : Heap) (locs1 : List Loc), t_OB (ad c a) (D.1 c) N (D.2 c) H1 (updV (ai_fv ad h c a) j v) → H1.size = H.size → (∀ q : Nat, q ≠ ad c a → H1[q]? = H[q]?) → va_S (fun q => n0 ≤ q) s.heap H1 locs1 → ai_KC D cA n0 L xs vz ad s H1 → W p l e R s m args below meth cd H1 locs1 u w Qm (F0 m (pc + 3) ls rest)) : W p l e R s m args below meth cd H locs u w Qm (F0 m pc ls (v :: .ref (ad c a) :: rest)) := by
  obtain ⟨hx, hb, hml, hown, hts, hnm, hrc, hrs⟩ := hC
  obtain ⟨hc, hin, hty, hna, hcl, hc13⟩ := hT
  have hap := va_apart (own := M.1.cls) hts hin (ai_ty c) hty hna hKC.1 hc
  obtain ⟨cell, q1, q2, q3, q4⟩ := (hHP.1 c a (by omega) ha).1.1 _ hc
  have hn0 := (hHP.1 c a (by omega) ha).2.1
  obtain ⟨hSl, hfc, kC, hkC, hkind⟩ := hKC.1.1 c _ hc
  obtain ⟨cf, kf, fi, f, hi, hsl⟩ := hSl j hj
  have hi2 : s.fieldFound? C (T j).2.1 (T j).2.2.1 = some (cf, kf, fi, f) := by rw [← hcl j hj]; exact hi
  have hst := (u_facts hfc hkC (u_lays hts hin hj) hi).1
  have fin : ∀ H' : Heap, H'[ad c a]? = some (cell.setSlot f.slot v) → H'.size = H.size → (∀ q, q ≠ ad c a → H'[q]? = H[q]?) → W p l e R s m args below meth cd H' (locs ++ [⟨ad c a, f.slot⟩]) u w Qm (F0 m (pc + 3) ls rest) := by
    intro H' e1 e2 e3
    rw [hsl] at e1 ⊢
    refine kk H' _ ⟨_, e1, q2, q3, t_set q4 hap hj v⟩ e2 e3 (hS.put e2 e3 hn0) (ai_KC_kept hKC (fun q hq1 hq2 => e3 q (fun z => hq2 (by rw [z]; exact hn0))) (by rw [e2]; exact hKC.2.2.2.2.2.2.2.1))
  have hlay := hts _ (hin _ (u_in_lay hj))
  rcases hlk with ⟨hlk, hfin | ⟨hni, hoc⟩⟩ | ⟨⟨host, hlk⟩, hfin⟩
  · unfold u_lay at hlay
    rw [if_neg (by rw [hfin]; decide)] at hlay
    have h6 := u_store hfc hkC hkind hlay hi (hty j hj) hnf.1 hnf.2
    exact W.putK hx hb (f := f) ⟨hown, hts _ hlk, ⟨_, _, _, hi2⟩, hst⟩ (by rw [q2]; exact h6) q1 q3 (by rw [hsl]; exact k2_hasslot (q4 j hj)) rfl rfl d_ fin
  · cases hfin : (T j).2.2.2 with
    | false =>
      unfold u_lay at hlay
      rw [if_neg (by rw [hfin]; decide)] at hlay
      have h6 := u_store hfc hkC hkind hlay hi (hty j hj) hnf.1 hnf.2
      exact W.putK hx hb (f := f) ⟨hown, hts _ hlk, ⟨_, _, _, hi2⟩, hst⟩ (by rw [q2]; exact h6) q1 q3 (by rw [hsl]; exact k2_hasslot (q4 j hj)) rfl rfl d_ fin
    | true =>
      unfold u_lay at hlay
      rw [if_pos hfin] at hlay
      have hcf : m.cls = cf := by
        obtain ⟨_, _, c', _, _, _, -, -, hf', -, -, -, hown2, -⟩ := Cond.laysFinal_spec hlay
        have e1 : c' = cf := by have := hi.symm.trans hf'; simp at this; exact this.1.symm
        rw [hcl j hj, ← hoc] at hown2
        rw [← e1]; exact Option.some.inj (hown.symm.trans hown2)
      have h6 := u_fits hfc hkC hkind (Or.inr hlay) hi (hty j hj) hnf.1 hnf.2
      exact W.putFinK hx hb hown (hts _ hlk) hi2 hst hcf (hnm.trans hni) (by rw [q2]; exact h6) q1 q3 (by rw [hsl]; exact k2_hasslot (q4 j hj)) rfl rfl d_ fin
  · unfold u_lay at hlay
    rw [if_neg (by rw [hfin]; decide)] at hlay
    have h6 := u_store hfc hkC hkind hlay hi (hty j hj) hnf.1 hnf.2
    exact va_WputK hx hb (f := f) hown (va_Nw.use rfl (hKC.2.2.2.2.2.2.1.2.1 _ hlk)) hi2 hst (by rw [q2]; exact h6) q1 q3 (by rw [hsl]; exact k2_hasslot (q4 j hj)) rfl rfl d_ fin
theorem ai_up3_off {α : Type} {f : Nat → Nat → Nat → α} {c0 i0 j0 : Nat} {v : α} {c i : Nat} (h : ¬ (c = c0 ∧ i = i0)) (j : Nat) : ai_up3 f c0 i0 j0 v c i j = f c i j := by
  unfold ai_up3
  rw [if_neg (fun q => h ⟨q.1, q.2.1⟩)]
theorem ai_up3_at {α : Type} {f : Nat → Nat → Nat → α} {c0 i0 j0 : Nat} {v : α} (j : Nat) : ai_up3 f c0 i0 j0 v c0 i0 j = if j = j0 then v else f c0 i0 j := by
  unfold ai_up3
  by_cases h : j = j0
  · rw [if_pos ⟨rfl, rfl, h⟩, if_pos h]
  · rw [if_neg (fun q => h q.2.2), if_neg h]
theorem s_putI {Tm : Nat → ai_Mt} {M : ai_Mt} {pc nx t c j i : Nat} {C : String} {T : u_T} {N : Nat} (hT : ai_Tb c C T N) (hj : j < N) (hlk : (Cond.fieldLink M.1.cls i C (T j).2.1 (T j).2.2.1 ∈ ai_tb ∧ ((T j).2.2.2 = false ∨ (M.1.name = "<init>" ∧ M.1.cls = C))) ∨ ((∃ host, (M.1.cls, i, C, (T j).2.1, (T j).2.2.1, host) ∈ ai_nfl) ∧ (T j).2.2.2 = false)) (hf : ∀ ad h a, ai_fv ad h c a j = .int (h.1 c a j)) (hnf : ∀ x : Int32, ai_pk t x → narrow (ai_ty c j) (.int x) = .int x ∧ fits (ai_ty c j) (.int x) = true) (d_ : decode M.2.1 pc = .ok (.putfield i, 3)) (hn : pc + 3 = nx) : ai_Sn Tm M pc (op_putI t c j nx) := by
  intro Γ d Cc Q P hC hRo hCl hR hP u w lo st h hop
  obtain ⟨l, R, p, e, s, m, args, below, meth, cd, Qm, D, cA, n0, vz, L, xs, ad0, h0⟩ := Γ
  unfold op_putI at hop
  split at hop
  · rename_i x k a r
    obtain ⟨hk0, hp2⟩ := ai_condT hop
    clear hop
    have hk := Nat.eq_of_beq_eq_true hk0
    subst hk
    intro ad H locs ls hE hHP hKC hvl hvs hlv hS hu hw
    have ha : a < h.2.2.2.1 k := ai_ok1 (ai_ok2 hvs)
    have hc13 := hT.2.2.2.2.2
    have e : ai_cv vz ad (aR k a) = .ref (ad k a) := by
      show cond (Nat.beq k 20) vz (.ref (ad k a)) = _
      rw [ai_nb (by omega)]
      rfl
    rw [List.map_cons, List.map_cons, e]
    subst hn
    refine ai_putc hT hj hlk d_ hC hHP hKC ha hS (hnf x hp2.1) (fun H1 locs1 hO hz hq hS1 hK1 => ?_)
    have hHP1 : ai_HP D cA n0 L xs ad (ai_up3 h.1 k a j x, h.2) H1 := by
      refine ai_HP_put hHP (by omega) ha rfl (fun c' i' ho => ⟨fun j' => ai_up3_off ho j', fun _ => rfl, fun _ => rfl⟩) hz hq (ai_cell_put hT.1 hc13 (hO.to (fun k' hk' => ?_))) hHP.2.2.1
      unfold updV
      by_cases hjj : k' = j
      · subst hjj
        rw [if_pos rfl, hf]
        show Value.int x = .int (ai_up3 h.1 k a k' x k a k')
        rw [ai_up3_at, if_pos rfl]
      · rw [if_neg hjj]
        symm
        refine ai_fv_eq ?_ rfl rfl (fun _ _ _ => rfl)
        show ai_up3 h.1 k a j x k a k' = _
        rw [ai_up3_at, if_neg hjj]
    exact hP _ _ _ _ _ _ hp2.2 ad H1 locs1 ls hE hHP1 hK1 hvl (ai_ok2 (ai_ok2 hvs)) hlv hS1 hu hw
  · exact hop.elim
theorem s_putL {Tm : Nat → ai_Mt} {M : ai_Mt} {pc nx c j i : Nat} {C : String} {T : u_T} {N : Nat} (hT : ai_Tb c C T N) (hj : j < N) (hlk : (Cond.fieldLink M.1.cls i C (T j).2.1 (T j).2.2.1 ∈ ai_tb ∧ ((T j).2.2.2 = false ∨ (M.1.name = "<init>" ∧ M.1.cls = C))) ∨ ((∃ host, (M.1.cls, i, C, (T j).2.1, (T j).2.2.1, host) ∈ ai_nfl) ∧ (T j).2.2.2 = false)) (hf : ∀ ad h a, ai_fv ad h c a j = .long (h.2.1 c a j)) (hnf : ∀ x : Int64, narrow (ai_ty c j) (.long x) = .long x ∧ fits (ai_ty c j) (.long x) = true) (d_ : decode M.2.1 pc = .ok (.putfield i, 3)) (hn : pc + 3 = nx) : ai_Sn Tm M pc (op_putL c j nx) := by
  intro Γ d Cc Q P hC hRo hCl hR hP u w lo st h hop
  obtain ⟨l, R, p, e, s, m, args, below, meth, cd, Qm, D, cA, n0, vz, L, xs, ad0, h0⟩ := Γ
  unfold op_putL at hop
  split at hop
  · rename_i x k a r
    obtain ⟨hk0, hp2⟩ := ai_condT hop
    clear hop
    have hk := Nat.eq_of_beq_eq_true hk0
    subst hk
    intro ad H locs ls hE hHP hKC hvl hvs hlv hS hu hw
    have ha : a < h.2.2.2.1 k := ai_ok1 (ai_ok2 hvs)
    have hc13 := hT.2.2.2.2.2
    have e : ai_cv vz ad (aR k a) = .ref (ad k a) := by
      show cond (Nat.beq k 20) vz (.ref (ad k a)) = _
      rw [ai_nb (by omega)]
      rfl
    rw [List.map_cons, List.map_cons, e]
    subst hn
    refine ai_putc hT hj hlk d_ hC hHP hKC ha hS (hnf x) (fun H1 locs1 hO hz hq hS1 hK1 => ?_)
    have hHP1 : ai_HP D cA n0 L xs ad (h.1, ai_up3 h.2.1 k a j x, h.2.2) H1 := by
      refine ai_HP_put hHP (by omega) ha rfl (fun c' i' ho => ⟨fun _ => rfl, fun j' => ai_up3_off ho j', fun _ => rfl⟩) hz hq (ai_cell_put hT.1 hc13 (hO.to (fun k' hk' => ?_))) hHP.2.2.1
      unfold updV
      by_cases hjj : k' = j
      · subst hjj
        rw [if_pos rfl, hf]
        show Value.long x = .long (ai_up3 h.2.1 k a k' x k a k')
        rw [ai_up3_at, if_pos rfl]
      · rw [if_neg hjj]
        symm
        refine ai_fv_eq rfl ?_ rfl (fun _ _ _ => rfl)
        show ai_up3 h.2.1 k a j x k a k' = _
        rw [ai_up3_at, if_neg hjj]
    exact hP _ _ _ _ _ _ hp2 ad H1 locs1 ls hE hHP1 hK1 hvl (ai_ok2 (ai_ok2 hvs)) hlv hS1 hu hw
  · exact hop.elim
theorem s_putR {Tm : Nat → ai_Mt} {M : ai_Mt} {pc nx c j t i : Nat} {C : String} {T : u_T} {N : Nat} (hT : ai_Tb c C T N) (hj : j < N) (hlk : (Cond.fieldLink M.1.cls i C (T j).2.1 (T j).2.2.1 ∈ ai_tb ∧ ((T j).2.2.2 = false ∨ (M.1.name = "<init>" ∧ M.1.cls = C))) ∨ ((∃ host, (M.1.cls, i, C, (T j).2.1, (T j).2.2.1, host) ∈ ai_nfl) ∧ (T j).2.2.2 = false)) (hf : ∀ ad h a, ai_fv ad h c a j = ai_rv ad t (h.2.2.1 c a j)) (ht : ai_kd (ai_ty c j) = t) (ht2 : t < 20) (hnf : ∀ x : Nat, narrow (ai_ty c j) (.ref x) = .ref x ∧ fits (ai_ty c j) (.ref x) = true) (d_ : decode M.2.1 pc = .ok (.putfield i, 3)) (hn : pc + 3 = nx) : ai_Sn Tm M pc (op_putR c j t nx) := by
  intro Γ d Cc Q P hC hRo hCl hR hP u w lo st h hop
  obtain ⟨l, R, p, e, s, m, args, below, meth, cd, Qm, D, cA, n0, vz, L, xs, ad0, h0⟩ := Γ
  unfold op_putR at hop
  split at hop
  · rename_i kb b k a r
    obtain ⟨hk0, hp2⟩ := ai_condT hop
    clear hop
    rw [Bool.and_eq_true] at hk0
    have hk := Nat.eq_of_beq_eq_true hk0.1
    have hkb := Nat.eq_of_beq_eq_true hk0.2
    subst hk
    subst hkb
    intro ad H locs ls hE hHP hKC hvl hvs hlv hS hu hw
    have ha : a < h.2.2.2.1 k := ai_ok1 (ai_ok2 hvs)
    have hb : b < h.2.2.2.1 kb := ai_ok1 hvs
    have hc13 := hT.2.2.2.2.2
    have e : ai_cv vz ad (aR k a) = .ref (ad k a) := by
      show cond (Nat.beq k 20) vz (.ref (ad k a)) = _
      rw [ai_nb (by omega)]
      rfl
    have e2 : ai_cv vz ad (aR kb b) = .ref (ad kb b) := by
      show cond (Nat.beq kb 20) vz (.ref (ad kb b)) = _
      rw [ai_nb ht2]
      rfl
    rw [List.map_cons, List.map_cons, e, e2]
    subst hn
    refine ai_putc hT hj hlk d_ hC hHP hKC ha hS (hnf _) (fun H1 locs1 hO hz hq hS1 hK1 => ?_)
    have hHP1 : ai_HP D cA n0 L xs ad (h.1, h.2.1, ai_up3 h.2.2.1 k a j (b + 1), h.2.2.2) H1 := by
      refine ai_HP_put hHP (by omega) ha rfl (fun c' i' ho => ⟨fun _ => rfl, fun _ => rfl, fun j' => ai_up3_off ho j'⟩) hz hq (ai_cell_put hT.1 hc13 (hO.to (fun k' hk' => ?_))) ?_
      · unfold updV
        by_cases hjj : k' = j
        · subst hjj
          rw [if_pos rfl, hf]
          show Value.ref (ad kb b) = ai_rv ad kb (ai_up3 h.2.2.1 k a k' (b + 1) k a k')
          rw [ai_up3_at, if_pos rfl]
          rfl
        · rw [if_neg hjj]
          symm
          refine ai_fv_eq rfl rfl ?_ (fun _ _ _ => rfl)
          show ai_up3 h.2.2.1 k a j (b + 1) k a k' = _
          rw [ai_up3_at, if_neg hjj]
      · intro c' i' j' b' h1 h2 h3 h4
        by_cases ho : c' = k ∧ i' = a
        · obtain ⟨rfl, rfl⟩ := ho
          have h3 : ai_up3 h.2.2.1 c' i' j (b + 1) c' i' j' = b' + 1 := h3
          rw [ai_up3_at] at h3
          by_cases hjj : j' = j
          · subst hjj
            rw [if_pos rfl] at h3
            rw [ht, ← Nat.succ.inj h3]
            exact hb
          · rw [if_neg hjj] at h3
            exact hHP.2.2.1 c' i' j' b' h1 h2 h3 h4
        · have h3 : ai_up3 h.2.2.1 k a j (b + 1) c' i' j' = b' + 1 := h3
          rw [ai_up3_off ho] at h3
          exact hHP.2.2.1 c' i' j' b' h1 h2 h3 h4
    exact hP _ _ _ _ _ _ hp2 ad H1 locs1 ls hE hHP1 hK1 hvl (ai_ok2 (ai_ok2 hvs)) hlv hS1 hu hw
  · exact hop.elim
