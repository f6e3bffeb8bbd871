/-! NEW CELLS AND CALLS, SOUND -/
theorem ai_ok_mono {cnt cnt' : Nat → Nat} (hm : ∀ c, cnt c ≤ cnt' c) {v : ai_V} (h : ai_ok cnt v) : ai_ok cnt' v := by
  rcases v with x | x | ⟨k, a⟩
  · trivial
  · trivial
  · exact Nat.lt_of_lt_of_le (show a < cnt k from h) (hm k)
theorem ai_cv_ext {vz : Value} {ad ad' : Nat → Nat → Nat} {cnt : Nat → Nat} (he : ∀ c i, i < cnt c → ad' c i = ad c i) {v : ai_V} (h : ai_ok cnt v) : ai_cv vz ad' v = ai_cv vz ad v := by
  rcases v with x | x | ⟨k, a⟩
  · rfl
  · rfl
  · show cond (Nat.beq k 20) vz (.ref (ad' k a)) = cond (Nat.beq k 20) vz (.ref (ad k a))
    rw [he k a h]
theorem ai_map_ext {vz : Value} {ad ad' : Nat → Nat → Nat} {cnt : Nat → Nat} (he : ∀ c i, i < cnt c → ad' c i = ad c i) {st : ai_S} (h : ai_oks cnt st) : st.map (ai_cv vz ad') = st.map (ai_cv vz ad) := List.map_congr_left fun v hv => ai_cv_ext he (h v hv)
theorem ai_lv_ext {vz : Value} {ad ad' : Nat → Nat → Nat} {cnt : Nat → Nat} (he : ∀ c i, i < cnt c → ad' c i = ad c i) {lo : ai_L} (h : ai_okl cnt lo) (nL : Nat) : ai_lv vz ad' nL lo = ai_lv vz ad nL lo := by
  unfold ai_lv
  congr 1
  funext j
  cases hv : ai_lg lo j with
  | none => rfl
  | some v => exact congrArg (fun z => some (j, z)) (ai_cv_ext he (h j v hv))
def ai_adn (ad : Nat → Nat → Nat) (c i q : Nat) : Nat → Nat → Nat := fun c' i' => if c' = c ∧ i' = i then q else ad c' i'
theorem ai_adn_off {ad : Nat → Nat → Nat} {c i q c' i' : Nat} (h : ¬ (c' = c ∧ i' = i)) : ai_adn ad c i q c' i' = ad c' i' := if_neg h
theorem ai_adn_at {ad : Nat → Nat → Nat} {c i q : Nat} : ai_adn ad c i q c i = q := if_pos ⟨rfl, rfl⟩
theorem ai_z3_off {α : Type} {f : Nat → Nat → Nat → α} {c0 i0 : Nat} {v : α} {c i : Nat} (h : ¬ (c = c0 ∧ i = i0)) (j : Nat) : ai_z3 f c0 i0 v c i j = f c i j := if_neg h
theorem ai_z3_at {α : Type} {f : Nat → Nat → Nat → α} {c0 i0 : Nat} {v : α} (j : Nat) : ai_z3 f c0 i0 v c0 i0 j = v := if_pos ⟨rfl, rfl⟩
theorem ai_new_ext {h : ai_H} {c n : Nat} {ad : Nat → Nat → Nat} {q : Nat} : ai_ext ad (ai_adn ad c (h.2.2.2.1 c) q) h (ai_new h c n) := by
  refine ⟨fun c' => ?_, fun c' i hi => ai_adn_off (fun z => ?_)⟩
  · show h.2.2.2.1 c' ≤ ai_u1 h.2.2.2.1 c (h.2.2.2.1 c + 1) c'
    unfold ai_u1
    by_cases e : c' = c
    · rw [if_pos e, e]; omega
    · rw [if_neg e]; exact Nat.le_refl _
  · rw [z.1, z.2] at hi; exact Nat.lt_irrefl _ hi
theorem ai_HP_new {D : va_G} {cA : Nat → ClassId} {n0 L : Nat} {xs : Nat → Int32} {ad : Nat → Nat → Nat} {h : ai_H} {H H1 : Heap} (hHP : ai_HP D cA n0 L xs ad h H) {c n : Nat} (hc : c < 17) (hz : H1.size = H.size + 1) (hq : ∀ q : Nat, q < H.size → H1[q]? = H[q]?) (hcell : ai_cell D cA (ai_adn ad c (h.2.2.2.1 c) H.size) (ai_new h c n) c (h.2.2.2.1 c) H1) : ai_HP D cA n0 L xs (ai_adn ad c (h.2.2.2.1 c) H.size) (ai_new h c n) H1 := by
  obtain ⟨hA, hB, hC, hD, hE⟩ := hHP
  have hcnt : ∀ c' i', i' < (ai_new h c n).2.2.2.1 c' → ¬ (c' = c ∧ i' = h.2.2.2.1 c) → i' < h.2.2.2.1 c' := by
    intro c' i' h1 h2
    have h1 : i' < ai_u1 h.2.2.2.1 c (h.2.2.2.1 c + 1) c' := h1
    unfold ai_u1 at h1
    by_cases e : c' = c
    · rw [if_pos e] at h1
      subst e
      have : i' ≠ h.2.2.2.1 c' := fun q => h2 ⟨rfl, q⟩
      omega
    · rw [if_neg e] at h1; exact h1
  have hle := (ai_new_ext (h := h) (c := c) (n := n) (ad := ad) (q := H.size)).1
  refine ⟨fun c' i' hc' hi' => ?_, fun c1 i1 c2 i2 h1 h2 h3 h4 h5 => ?_, fun c' i' j b h1 h2 h3 h4 => ?_, ?_, by omega⟩
  · by_cases he : c' = c ∧ i' = h.2.2.2.1 c
    · obtain ⟨rfl, rfl⟩ := he
      refine ⟨hcell, ?_, ?_⟩
      · rw [ai_adn_at]; exact hE
      · rw [ai_adn_at]; omega
    · have hi := hcnt c' i' hi' he
      obtain ⟨g1, g2, g3⟩ := hA c' i' hc' hi
      have e1 : ai_adn ad c (h.2.2.2.1 c) H.size c' i' = ad c' i' := ai_adn_off he
      have hk : H1[ad c' i']? = H[ad c' i']? := hq _ g3
      have eL : (ai_new h c n).2.2.2.2 c' i' = h.2.2.2.2 c' i' := if_neg he
      refine ⟨⟨fun r hr => ?_, fun e => ?_, fun e => ?_⟩, by rw [e1]; exact g2, by rw [e1]; omega⟩
      · rw [e1]
        refine ((g1.1 r hr).kept hk).to (fun k _ => ?_)
        symm
        refine ai_fv_eq (ai_z3_off he k) (ai_z3_off he k) (ai_z3_off he k) (fun b hb ht => ?_)
        refine ai_adn_off (fun z => ?_)
        have hc13 : c' < 13 := by
          have := (List.getElem?_eq_some_iff.mp hr).1
          exact this
        have := hC c' i' k b hc13 hi hb ht
        rw [z.1, z.2] at this
        exact Nat.lt_irrefl _ this
      · rw [e1, hk, g1.2.1 e, eL]
        congr 2
        funext j
        exact congrArg Value.long (ai_z3_off (f := h.2.1) he j).symm
      · rw [e1, hk, g1.2.2 e, eL]
        congr 2
        funext j
        exact congrArg Value.int (ai_z3_off (f := h.1) he j).symm
  · by_cases he1 : c1 = c ∧ i1 = h.2.2.2.1 c
    · by_cases he2 : c2 = c ∧ i2 = h.2.2.2.1 c
      · exact ⟨he1.1.trans he2.1.symm, he1.2.trans he2.2.symm⟩
      · exfalso
        rw [he1.1, he1.2, ai_adn_at, ai_adn_off he2] at h5
        have := (hA c2 i2 h3 (hcnt _ _ h4 he2)).2.2
        omega
    · by_cases he2 : c2 = c ∧ i2 = h.2.2.2.1 c
      · exfalso
        rw [he2.1, he2.2, ai_adn_at, ai_adn_off he1] at h5
        have := (hA c1 i1 h1 (hcnt _ _ h2 he1)).2.2
        omega
      · rw [ai_adn_off he1, ai_adn_off he2] at h5
        exact hB _ _ _ _ h1 (hcnt _ _ h2 he1) h3 (hcnt _ _ h4 he2) h5
  · by_cases he : c' = c ∧ i' = h.2.2.2.1 c
    · obtain ⟨rfl, rfl⟩ := he
      have h3 : ai_z3 h.2.2.1 c' (h.2.2.2.1 c') 0 c' (h.2.2.2.1 c') j = b + 1 := h3
      rw [ai_z3_at] at h3
      cases h3
    · have h3 : ai_z3 h.2.2.1 c (h.2.2.2.1 c) 0 c' i' j = b + 1 := h3
      rw [ai_z3_off he] at h3
      exact Nat.lt_of_lt_of_le (hC c' i' j b h1 (hcnt _ _ h2 he) h3 h4) (hle _)
  · obtain ⟨d1, d2, d3, d4, d5, d6, d7⟩ := hD
    have o : ∀ k i, 17 ≤ k → ¬ (k = c ∧ i = h.2.2.2.1 c) := fun k i hk z => by omega
    have oc : ∀ k, 17 ≤ k → (ai_new h c n).2.2.2.1 k = h.2.2.2.1 k := fun k hk => if_neg (by omega)
    refine ⟨fun j => (ai_z3_off (o 17 0 (by decide)) j).trans (d1 j), (if_neg (o 17 0 (by decide))).trans d2, fun i hi => ⟨(if_neg (o 19 i (by decide))).trans (d3 i hi).1, fun j => (ai_z3_off (o 19 i (by decide)) j).trans ((d3 i hi).2 j)⟩, (oc 17 (by decide)).trans d4, (oc 18 (by decide)).trans d5, (oc 19 (by decide)).trans d6, (oc 20 (by decide)).trans d7⟩
theorem ai_tys_ok (c : Nat) (hc : c < 13) (C : String) (T : u_T) (N : Nat) (hv : vwCl[c]? = some (C, T, N)) : ∀ k, k < N → ai_ty c k = .int ∨ ai_ty c k = .long ∨ ai_ty c k = .boolean ∨ (∃ n, ai_ty c k = .object n) ∨ (∃ t, ai_ty c k = .array t) := by
  have key : ∀ c, c < 13 → ∀ k, k < 44 → (match ai_ty c k with | .int => true | .long => true | .boolean => true | .object _ => true | .array _ => true | _ => false) = true := by decide +kernel
  have hN : N ≤ 44 := by
    have : ∀ c, c < 13 → (match vwCl[c]? with | some q => decide (q.2.2 ≤ 44) | none => true) = true := by decide +kernel
    have h1 := this c hc
    rw [hv] at h1
    exact of_decide_eq_true h1
  intro k hk
  have h2 := key c hc k (by omega)
  cases ht : ai_ty c k with
  | int => exact Or.inl rfl
  | long => exact Or.inr (Or.inl rfl)
  | boolean => exact Or.inr (Or.inr (Or.inl rfl))
  | object n => exact Or.inr (Or.inr (Or.inr (Or.inl ⟨n, rfl⟩)))
  | array t => exact Or.inr (Or.inr (Or.inr (Or.inr ⟨t, rfl⟩)))
  | _ => rw [ht] at h2; cases h2
theorem s_new {Tm : Nat → ai_Mt} {M : ai_Mt} {pc nx c i : Nat} {C : String} {T : u_T} {N : Nat} (hT : ai_Tb c C T N) (h1 : Cond.classLink M.1.cls i C ∈ ai_tb) (h2 : Cond.instantiable C N ∈ ai_tb) (h3 : Cond.initialized C ∈ ai_tb) (d_ : decode M.2.1 pc = .ok (.new i, 3)) (hn : pc + 3 = nx) : ai_Sn Tm M pc (op_new M.2.2.2.2.1 M.2.2.2.2.2 c N nx) := by
  intro Γ d Cc Q P hC hRo hCl hR hP u w lo st h hop
  obtain ⟨l, R, p, e, s, m, args, below, meth, cd, Qm, D, cA, n0, vz, L, xs, ad0, h0⟩ := Γ
  obtain ⟨hx, hb, hml, hown, hts, hnm, hrc, hrs⟩ := hC
  obtain ⟨⟨hu1, hw1⟩, hop⟩ := hop
  intro ad H locs ls hE hHP hKC hvl hvs hlv hS hu hw
  subst hn
  obtain ⟨hc, hin, hty, hna, hcl, hc13⟩ := hT
  have hKn := hKC.1.1 c _ hc
  refine W.newcK hx hb hown (hts _ h1) (hts _ h2) (hts _ h3) rfl d_ (by rw [hrc]; exact hu1) (by rw [hrs]; exact hw1) hKn.2.1 rfl fun H1 kC hkC e1 z1 o1 => ?_
  have hext := ai_new_ext (h := h) (c := c) (n := 0) (ad := ad) (q := H.size)
  have hn0 : n0 ≤ H.size := hHP.2.2.2.2
  have hHP1 := ai_HP_new (n := 0) hHP (c := c) (by omega) z1 o1 (ai_cell_put hc hc13 (by
    rw [ai_adn_at]
    refine (u_born (ai_ty c) hts hin hKn hkC e1 hty).to (fun k hk => ?_)
    unfold ai_fv
    show defaultValue (ai_ty c k) = _
    rw [show (ai_new h c 0).1 c (h.2.2.2.1 c) k = 0 from ai_z3_at k, show (ai_new h c 0).2.1 c (h.2.2.2.1 c) k = 0 from ai_z3_at k, show (ai_new h c 0).2.2.1 c (h.2.2.2.1 c) k = 0 from ai_z3_at k]
    have hfin : ∀ k, k < N → ai_ty c k = .int ∨ ai_ty c k = .long ∨ ai_ty c k = .boolean ∨ (∃ n, ai_ty c k = .object n) ∨ (∃ t, ai_ty c k = .array t) := ai_tys_ok c hc13 _ _ _ hc
    rcases hfin k hk with q | q | q | ⟨n, q⟩ | ⟨t, q⟩ <;> rw [q] <;> rfl))
  have hk2 := hP _ _ _ _ _ _ hop (ai_adn ad c (h.2.2.2.1 c) H.size) H1 locs ls (ai_ext_trans hE hext) hHP1
    (ai_KC_ad (ai_KC_kept hKC (fun q hq1 _ => o1 q hq1) (by omega)) (fun c' i' hc' => ai_adn_off (fun z => by omega)))
    (fun j v hv => ai_ok_mono hext.1 (hvl j v hv))
    (ai_okc (show h.2.2.2.1 c < (ai_new h c 0).2.2.2.1 c from by show _ < ai_u1 h.2.2.2.1 c (h.2.2.2.1 c + 1) c; unfold ai_u1; rw [if_pos rfl]; omega) (fun v hv => ai_ok_mono hext.1 (hvs v hv)))
    (by rw [ai_lv_ext hext.2 hvl]; exact hlv) ⟨Nat.le_trans hS.1 (by omega), fun x h1 h2 => (o1 x (Nat.lt_of_lt_of_le h1 hS.1)).trans (hS.2.1 x h1 h2), hS.2.2⟩ hu1 hw1
  rw [List.map_cons, ai_cvr vz _ (by omega), ai_adn_at, ai_map_ext hext.2 hvs] at hk2
  exact hk2
theorem s_newa {Tm : Nat → ai_Mt} {M : ai_Mt} {pc nx k : Nat} {atype : ArrayType} {ty : FieldType} (hty : newarray.typeOf atype = ty) (hk : (k = 13 ∧ ty = .int) ∨ (k = 14 ∧ ty = .long) ∨ (k = 15 ∧ ty = .byte) ∨ (k = 16 ∧ ty = .boolean)) (h1 : Cond.arrayClass ty ∈ ai_tb) (d_ : decode M.2.1 pc = .ok (.newarray atype, 2)) (hn : pc + 2 = nx) : ai_Sn Tm M pc (op_newa M.2.2.2.2.1 M.2.2.2.2.2 k nx) := by
  intro Γ d Cc Q P hC hRo hCl hR hP u w lo st h hop
  obtain ⟨l, R, p, e, s, m, args, below, meth, cd, Qm, D, cA, n0, vz, L, xs, ad0, h0⟩ := Γ
  obtain ⟨hx, hb, hml, hown, hts, hnm, hrc, hrs⟩ := hC
  unfold op_newa at hop
  split at hop
  · rename_i x r
    obtain ⟨⟨hx0, hx1, hu1, hw1⟩, hop⟩ := hop
    intro ad H locs ls hE hHP hKC hvl hvs hlv hS hu hw
    subst hn
    subst hty
    have hkk : ∃ tn : Nat, (ai_tys cA)[tn]? = some (cA k, newarray.typeOf atype) := by
      rcases hk with ⟨rfl, q⟩ | ⟨rfl, q⟩ | ⟨rfl, q⟩ | ⟨rfl, q⟩ <;> rw [q]
      · exact ⟨0, rfl⟩
      · exact ⟨1, rfl⟩
      · exact ⟨2, rfl⟩
      · exact ⟨3, rfl⟩
    have hby : x.toNatClampNeg * componentBytes (newarray.typeOf atype) ≤ 536870912 := by
      rcases hk with ⟨rfl, q⟩ | ⟨rfl, q⟩ | ⟨rfl, q⟩ | ⟨rfl, q⟩ <;> rw [q] <;> simp only [componentBytes] <;> omega
    obtain ⟨tn, htn⟩ := hkk
    refine va_newaK hx hb (hts _ h1) rfl d_ rfl hx0 rfl hby (by rw [hrc]; exact hu1) (by rw [hrs]; exact hw1) rfl fun H1 cA' e1 z1 o1 hAr hNm => ?_
    have hRA := (hKC.1.2 tn _ htn).2
    have hcA : cA' = cA k := by
      have h2 : s.vm.findClass ("[" ++ (newarray.typeOf atype).toString) = some (cA k) := by
        rcases hk with ⟨rfl, q⟩ | ⟨rfl, q⟩ | ⟨rfl, q⟩ | ⟨rfl, q⟩ <;> rw [q] at hRA ⊢ <;> exact hRA
      exact Option.some.inj (hNm.symm.trans h2)
    subst hcA
    have hext := ai_new_ext (h := h) (c := k) (n := x.toNatClampNeg) (ad := ad) (q := H.size)
    have hn0 : n0 ≤ H.size := hHP.2.2.2.2
    have hk17 : k < 17 := by omega
    have eL : (ai_new h k x.toNatClampNeg).2.2.2.2 k (h.2.2.2.1 k) = x.toNatClampNeg := if_pos ⟨rfl, rfl⟩
    have hHP1 := ai_HP_new (n := x.toNatClampNeg) hHP (c := k) hk17 z1 o1 (by
      rcases hk with ⟨rfl, q⟩ | ⟨rfl, q⟩ | ⟨rfl, q⟩ | ⟨rfl, q⟩ <;> rw [q] at e1
      · refine ai_cellJ (Or.inl rfl) ?_
        rw [ai_adn_at, e1, eL]; congr 2; funext j; exact congrArg Value.int (ai_z3_at (f := h.1) j).symm
      · refine ai_cellL ?_
        rw [ai_adn_at, e1, eL]; congr 2; funext j; exact congrArg Value.long (ai_z3_at (f := h.2.1) j).symm
      · refine ai_cellJ (Or.inr (Or.inl rfl)) ?_
        rw [ai_adn_at, e1, eL]; congr 2; funext j; exact congrArg Value.int (ai_z3_at (f := h.1) j).symm
      · refine ai_cellJ (Or.inr (Or.inr rfl)) ?_
        rw [ai_adn_at, e1, eL]; congr 2; funext j; exact congrArg Value.int (ai_z3_at (f := h.1) j).symm)
    have hk2 := hP _ _ _ _ _ _ hop (ai_adn ad k (h.2.2.2.1 k) H.size) H1 locs ls (ai_ext_trans hE hext) hHP1
      (ai_KC_ad (ai_KC_kept hKC (fun q hq1 _ => o1 q hq1) (by omega)) (fun c' i' hc' => ai_adn_off (fun z => by omega)))
      (fun j v hv => ai_ok_mono hext.1 (hvl j v hv))
      (ai_okc (show h.2.2.2.1 k < (ai_new h k x.toNatClampNeg).2.2.2.1 k from by show _ < ai_u1 h.2.2.2.1 k (h.2.2.2.1 k + 1) k; unfold ai_u1; rw [if_pos rfl]; omega) (fun v hv => ai_ok_mono hext.1 (ai_ok2 hvs v hv)))
      (by rw [ai_lv_ext hext.2 hvl]; exact hlv) ⟨Nat.le_trans hS.1 (by omega), fun x h1 h2 => (o1 x (Nat.lt_of_lt_of_le h1 hS.1)).trans (hS.2.1 x h1 h2), hS.2.2⟩ hu1 hw1
    rw [List.map_cons, ai_cvr vz _ (by omega), ai_adn_at, ai_map_ext hext.2 (ai_ok2 hvs)] at hk2
    exact hk2
  · exact hop.elim
theorem s_objinit {Tm : Nat → ai_Mt} {M : ai_Mt} {pc nx i : Nat} (h1 : Cond.methodLink M.1.cls i Lib.objectInit ∈ ai_tb) (h2 : Cond.instanceMethod Lib.objectInit ∈ ai_tb) (h3 : Cond.code Lib.objectInit ⟨#[0xb1]⟩ 1 none ∈ ai_tb) (d_ : decode M.2.1 pc = .ok (.invokespecial i, 3)) (hn : pc + 3 = nx) : ai_Sn Tm M pc (op_objinit nx) := by
  intro Γ d Cc Q P hC hRo hCl hR hP u w lo st h hop
  obtain ⟨l, R, p, e, s, m, args, below, meth, cd, Qm, D, cA, n0, vz, L, xs, ad0, h0⟩ := Γ
  obtain ⟨hx, hb, hml, hown, hts, hnm, hrc, hrs⟩ := hC
  unfold op_objinit at hop
  split at hop
  · rename_i k a r
    obtain ⟨hk0, hp2⟩ := ai_condT hop
    clear hop
    have hk3 : k < 13 := Nat.blt_eq.mp hk0
    intro ad H locs ls hE hHP hKC hvl hvs hlv hS hu hw
    subst hn
    rw [List.map_cons, ai_cvr vz ad (by omega)]
    have hro : d + 1 ≤ R.frames ∧ 64 * (d + 1) + 12 ≤ R.locals := hRo
    refine W.objInit hx hb hown (hts _ h1) (hts _ h2) (hts _ h3) rfl (hlv.1.trans hml.symm) rfl d_ (by omega) ?_ ?_
    · rw [ai_cats_cv vz ad hKC.2.2.2.2.2.2.2.2]
      show 2 * 0 + _ + 12 ≤ _
      have := hp2.1
      omega
    · exact hP _ _ _ _ _ _ hp2.2 ad H locs ls hE hHP hKC hvl (ai_ok2 hvs) hlv hS hu hw
  · exact hop.elim
