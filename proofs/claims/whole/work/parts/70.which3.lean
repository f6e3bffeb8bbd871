/-! PAIRS: which, whichSum -/
def bst (f : Nat → Int32) (nk s c u : Nat) (b : Option (Nat × Nat)) : Option (Nat × Nat) :=
  if h1s f u nk 0 = true then (match b with | none => some (u, tot f nk u s c) | some (b', t) => if tot f nk u s c < t then some (u, tot f nk u s c) else some (b', t)) else b
def bss (f : Nat → Int32) (nk s c : Nat) : Nat → Nat → Option (Nat × Nat) → Option (Nat × Nat)
  | 0, _, b => b
  | q + 1, u, b => bss f nk s c q (u + 1) (bst f nk s c u b)
def e1 : Option (Nat × Nat) → Int32
  | none => -2
  | some b => nI b.1
def e2 : Option (Nat × Nat) → Int32
  | none => -2
  | some b => nI b.2
def e0 : Option (Nat × Nat) → Int32
  | none => 0
  | some b => nI b.2
def bok (f : Nat → Int32) (nk s c : Nat) : Option (Nat × Nat) → Prop
  | none => True
  | some b => b.1 < 64 ∧ b.2 = tot f nk b.1 s c
theorem sE_le {g : Nat → Nat} {B : Nat} (h : ∀ v, g v ≤ B) : ∀ q i, sE g q i ≤ q * B := by
  intro q
  induction q with
  | zero => intro i; exact Nat.zero_le _
  | succ q ih =>
    intro i
    show g i + sE g q (i + 1) ≤ (q + 1) * B
    have := ih (i + 1)
    have := h i
    rw [Nat.add_mul, Nat.one_mul]
    omega
theorem popc_le (u : Nat) : popc u ≤ 6 := by unfold popc; omega
theorem tot_lt {f : Nat → Int32} {nk u s c : Nat} (hw : ∀ k, k < nk → 1 ≤ wth f k) (hs : s ≤ 400) (hc : c ≤ 99) : tot f nk u s c < 2 ^ 31 := by
  unfold tot
  have a := sE_le (g := wE f u nk) (B := 1048576) (fun v => wE_I hw v) s 1
  have b : c * popc u ≤ 99 * 6 := Nat.mul_le_mul hc (popc_le u)
  have d : s * 1048576 ≤ 400 * 1048576 := Nat.mul_le_mul_right _ hs
  omega
theorem bok_st {f : Nat → Int32} {nk s c u : Nat} (hu : u < 64) {b : Option (Nat × Nat)} (h : bok f nk s c b) : bok f nk s c (bst f nk s c u b) := by
  unfold bst
  split
  · cases b with
    | none => exact ⟨hu, rfl⟩
    | some b =>
      show bok f nk s c (if _ then _ else _)
      split
      · exact ⟨hu, rfl⟩
      · exact h
  · exact h
theorem C_bestSet {c0 : Nat} {hc hm : sh_H} (h0 : St c0 hc hm) {nk s c : Nat} (k1 : nk ≤ 6) (hs : s ≤ 400) (hc9 : c ≤ 99) (hw : ∀ k, k < nk → 1 ≤ wth (mS hm) k ∧ wth (mS hm) k ≤ 500) {b1 b2 : Nat → Nat} (h : sh_H) (hC : RC h) (t : TL h nk (wth (mS hm)) b1 b2) : ∃ E, f_Coins_bestSet NF (nI s) (nI c) h = some (e1 (bss (mS hm) nk s c (2 ^ nk - 1) 1 none), E) ∧ rC 34 E h := by
  have p6 : 2 ^ nk ≤ 2 ^ 6 := Nat.pow_le_pow_right (by omega) k1
  have hw1 : ∀ k, k < nk → 1 ≤ wth (mS hm) k := fun k hk => (hw k hk).1
  have lp : ∀ (q u u' : Nat) (b : Option (Nat × Nat)) (H : sh_H), u + q = 2 ^ nk → q < u' → 1 ≤ u → rC 34 H h → bok (mS hm) nk s c b → ∃ E, f_Coins_bestSet_l9 NF u' (nI s) (nI c) (e1 b) (e0 b) (nI u) H = some (e1 (bss (mS hm) nk s c q u b), E) ∧ rC 34 E h := by
    intro q
    induction q with
    | zero =>
      intro u u' b H e3 e4 e5 x hb
      obtain ⟨u', rfl⟩ : ∃ m, u' = m + 1 := ⟨u' - 1, by omega⟩
      refine ⟨H, ?_, x⟩
      show f_Coins_bestSet_c9 NF (f_Coins_bestSet_l9 NF u') (nI s) (nI c) (e1 b) (e0 b) (nI u) H = _
      unfold f_Coins_bestSet_c9 f_Rows_size
      rw [(rC_TL (Or.inl rfl) x t).1, Option.bind_some, two_pow6 nk (by omega), if_neg (nI_nlt (by omega) (by omega))]
      rfl
    | succ q ih =>
      intro u u' b H e3 e4 e5 x hb
      obtain ⟨u', rfl⟩ : ∃ m, u' = m + 1 := ⟨u' - 1, by omega⟩
      have u6 : u < 64 := by omega
      have tH := rC_TL (Or.inl rfl) x t
      have hCH : RC H := RC_of hC (fun r j hr hj => x.1 6 r j (by omega))
      show ∃ E, f_Coins_bestSet_c9 NF (f_Coins_bestSet_l9 NF u') (nI s) (nI c) (e1 b) (e0 b) (nI u) H = some (e1 (bss (mS hm) nk s c q (u + 1) (bst (mS hm) nk s c u b)), E) ∧ _
      unfold f_Coins_bestSet_c9 f_Rows_size f_Coins_bestSet_b55 f_Coins_bestSet_b62
      rw [tH.1, Option.bind_some, two_pow6 nk (by omega), if_pos (nI_lt (by omega) (by omega)), C_hasOne k1 u6 (fun k hk => (hw k hk).2) H hCH tH, Option.bind_some, nI_1]
      cases o : h1s (mS hm) u nk 0 with
      | false =>
        have eb : bst (mS hm) nk s c u b = b := by unfold bst; rw [o]; exact if_neg (by decide)
        rw [if_neg (show ¬ false = true by decide), if_pos (rfl : (0 : Int32) = 0), eb]
        exact ih (u + 1) u' b H (by omega) (by omega) (by omega) x hb
      | true =>
        obtain ⟨E, E1, E2⟩ := C_sumOf h0 k1 hs hc9 u6 hw H hCH tH
        have hb' := bok_st (u := u) u6 hb
        have z : (if (1 : Int32) = 0 then (0 : Nat) else 1) = 1 := rfl
        rw [if_pos rfl, if_neg q_10, E1]
        show ∃ E', (if e1 b = -2 then f_Coins_bestSet_l9 NF u' (nI s) (nI c) (nI u) (nI (tot (mS hm) nk u s c)) (nI (u + 1)) E else if nI (tot (mS hm) nk u s c) < e0 b then f_Coins_bestSet_l9 NF u' (nI s) (nI c) (nI u) (nI (tot (mS hm) nk u s c)) (nI (u + 1)) E else f_Coins_bestSet_l9 NF u' (nI s) (nI c) (e1 b) (e0 b) (nI (u + 1)) E) = _ ∧ _
        have tl := tot_lt (f := mS hm) (u := u) hw1 hs hc9
        cases b with
        | none =>
          have eb : bst (mS hm) nk s c u none = some (u, tot (mS hm) nk u s c) := by unfold bst; rw [o]; exact if_pos rfl
          rw [if_pos (show e1 none = -2 from rfl), eb]
          exact ih (u + 1) u' (some (u, tot (mS hm) nk u s c)) E (by omega) (by omega) (by omega) (E2.tr x) ⟨u6, rfl⟩
        | some b =>
          obtain ⟨b1, b2⟩ := b
          have hb1 : b1 < 64 := hb.1
          have tb : b2 < 2 ^ 31 := by rw [show b2 = _ from hb.2]; exact tot_lt hw1 hs hc9
          have en : ¬ e1 (some (b1, b2)) = -2 := fun z => by
            have l : ¬ nI b1 < 0 := nI_nlt (b := 0) (by omega) (by omega)
            rw [show nI b1 = -2 from z] at l
            exact l (by decide)
          rw [if_neg en]
          by_cases lt : tot (mS hm) nk u s c < b2
          · have eb : bst (mS hm) nk s c u (some (b1, b2)) = some (u, tot (mS hm) nk u s c) := by unfold bst; rw [o]; exact (if_pos rfl).trans (if_pos lt)
            rw [if_pos (show nI (tot (mS hm) nk u s c) < e0 (some (b1, b2)) from nI_lt lt tb), eb]
            exact ih (u + 1) u' (some (u, tot (mS hm) nk u s c)) E (by omega) (by omega) (by omega) (E2.tr x) ⟨u6, rfl⟩
          · have eb : bst (mS hm) nk s c u (some (b1, b2)) = some (b1, b2) := by unfold bst; rw [o]; exact (if_pos rfl).trans (if_neg lt)
            rw [if_neg (show ¬ nI (tot (mS hm) nk u s c) < e0 (some (b1, b2)) from nI_nlt (by omega) tl), eb]
            exact ih (u + 1) u' (some (b1, b2)) E (by omega) (by omega) (by omega) (E2.tr x) hb
  have p0 : 0 < 2 ^ nk := Nat.pow_pos (by omega)
  have n64 : 2 ^ nk - 1 < NF := by have : 64 < NF := NF_gt (by omega); omega
  unfold f_Coins_bestSet
  exact lp (2 ^ nk - 1) 1 NF none h (by omega) n64 (by omega) (rC.rf 34 h) trivial
theorem M_chooses {c0 : Nat} {hc hm : sh_H} (h : St c0 hc hm) {nk s c : Nat} (k2 : mS hm 0 = nI nk) (k1 : nk ≤ 6) (hs : s ≤ 400) (hc9 : c ≤ 99) : ∃ E, f_M_chooses NF (nI s) (nI c) hm = some E ∧ sM E hm ∧ E.1 12 0 33 = e1 (bss (mS hm) nk s c (2 ^ nk - 1) 1 none) ∧ E.1 12 0 34 = e2 (bss (mS hm) nk s c (2 ^ nk - 1) 1 none) := by
  have p6 : 2 ^ nk ≤ 2 ^ 6 := Nat.pow_le_pow_right (by omega) k1
  have hw : ∀ k, k < nk → 1 ≤ wth (mS hm) k ∧ wth (mS hm) k ≤ 500 := fun k hk => (T_kind h k2 k1 hk).1.2
  have hw1 : ∀ k, k < nk → 1 ≤ wth (mS hm) k := fun k hk => (hw k hk).1
  have j0 : ai_in (0 : Int32) 8000 := in8 (k := 0) (by omega)
  have lp : ∀ (q u u' : Nat) (b : Option (Nat × Nat)) (H : sh_H), u + q = 2 ^ nk → q < u' → 1 ≤ u → sM H hm → H.1 12 0 33 = e1 b → H.1 12 0 34 = e2 b → bok (mS hm) nk s c b → ∃ E, f_M_chooses_l54 NF u' (nI s) (nI c) (nI (ob (mS hm) nk)) (nI u) H = some E ∧ sM E hm ∧ E.1 12 0 33 = e1 (bss (mS hm) nk s c q u b) ∧ E.1 12 0 34 = e2 (bss (mS hm) nk s c q u b) := by
    intro q
    induction q with
    | zero =>
      intro u u' b H e3 e4 e5 x h1 h2 hb
      obtain ⟨u', rfl⟩ : ∃ m, u' = m + 1 := ⟨u' - 1, by omega⟩
      refine ⟨H, ?_, x, h1, h2⟩
      show f_M_chooses_c54 NF (f_M_chooses_l54 NF u') (nI s) (nI c) (nI (ob (mS hm) nk)) (nI u) H = _
      unfold f_M_chooses_c54
      rw [if_pos j0, show H.1 13 46 (0 : Int32).toNatClampNeg = nI nk from (x.mS 0).trans k2, two_pow6 nk (by omega), if_neg (nI_nlt (by omega) (by omega))]
    | succ q ih =>
      intro u u' b H e3 e4 e5 x h1 h2 hb
      obtain ⟨u', rfl⟩ : ∃ m, u' = m + 1 := ⟨u' - 1, by omega⟩
      have u6 : u < 64 := by omega
      show ∃ E, f_M_chooses_c54 NF (f_M_chooses_l54 NF u') (nI s) (nI c) (nI (ob (mS hm) nk)) (nI u) H = some E ∧ sM E hm ∧ E.1 12 0 33 = e1 (bss (mS hm) nk s c q (u + 1) (bst (mS hm) nk s c u b)) ∧ E.1 12 0 34 = e2 (bss (mS hm) nk s c q (u + 1) (bst (mS hm) nk s c u b))
      unfold f_M_chooses_c54 f_M_chooses_b113 f_M_chooses_b125
      rw [if_pos j0, show H.1 13 46 (0 : Int32).toNatClampNeg = nI nk from (x.mS 0).trans k2, two_pow6 nk (by omega), if_pos (nI_lt (by omega) (by omega)), nI_1]
      cases o : h1s (mS hm) u nk 0 with
      | false =>
        have eb : bst (mS hm) nk s c u b = b := by unfold bst; rw [o]; exact if_neg (by decide)
        rw [if_pos ((ob_has k1 u6).mpr o), eb]
        exact ih (u + 1) u' b H (by omega) (by omega) (by omega) x h1 h2 hb
      | true =>
        obtain ⟨r, -, r2, r3, r4⟩ := h1s_iff.mp o
        obtain ⟨E, E1, E2⟩ := M_piecesOf h k2 k1 u6 hs (r := r) (by omega) r3 r4 H x
        have xE : sM E hm := E2.s.tr x
        have n : ¬ nI u &&& nI (ob (mS hm) nk) = 0 := fun z => by rw [(ob_has k1 u6).mp z] at o; cases o
        rw [if_neg n, E1]
        have e33 : E.1 12 0 33 = e1 b := (E2.1 _ _ _ (by omega)).trans h1
        have e34 : E.1 12 0 34 = e2 b := (E2.1 _ _ _ (by omega)).trans h2
        have tl := tot_lt (f := mS hm) (u := u) hw1 hs hc9
        have et : nI (sE (wE (mS hm) u nk) s 1) + nI c * nI (popc u) = nI (tot (mS hm) nk u s c) := by rw [q_mul, nI_add, Nat.add_comm]; rfl
        have new : bst (mS hm) nk s c u b = some (u, tot (mS hm) nk u s c) → ∃ E', sh_let (sh_pI E 12 0 33 (nI u)) (fun h2 => sh_let (sh_pI h2 12 0 34 (nI (tot (mS hm) nk u s c))) (fun h3 => f_M_chooses_l54 NF u' (nI s) (nI c) (nI (ob (mS hm) nk)) (nI (u + 1)) h3)) = some E' ∧ sM E' hm ∧ E'.1 12 0 33 = e1 (bss (mS hm) nk s c q (u + 1) (bst (mS hm) nk s c u b)) ∧ E'.1 12 0 34 = e2 (bss (mS hm) nk s c q (u + 1) (bst (mS hm) nk s c u b)) := by
          intro eb
          rw [sh_let, sh_let, eb]
          refine ih (u + 1) u' (some (u, tot (mS hm) nk u s c)) _ (by omega) (by omega) (by omega) ((xE.pI (by unfold scM; omega)).pI (by unfold scM; omega)) ?_ (pI_at _ _ _ _ _) ⟨u6, rfl⟩
          rw [pI_ne (by omega), pI_at]
          rfl
        rw [sh_b2_some, M_manyOf u6 E, Option.bind_some, e33, e34, et]
        cases b with
        | none =>
          have eb : bst (mS hm) nk s c u none = some (u, tot (mS hm) nk u s c) := by unfold bst; rw [o]; exact if_pos rfl
          rw [if_pos (show e1 none < 0 by decide)]
          exact new eb
        | some b =>
          obtain ⟨b1, b2⟩ := b
          have hb1 : b1 < 64 := hb.1
          have tb : b2 < 2 ^ 31 := by rw [show b2 = _ from hb.2]; exact tot_lt hw1 hs hc9
          have en : ¬ e1 (some (b1, b2)) < 0 := nI_nlt (b := 0) (a := b1) (by omega) (by omega)
          rw [if_neg en]
          by_cases lt : tot (mS hm) nk u s c < b2
          · have eb : bst (mS hm) nk s c u (some (b1, b2)) = some (u, tot (mS hm) nk u s c) := by unfold bst; rw [o]; exact (if_pos rfl).trans (if_pos lt)
            rw [if_pos (show nI (tot (mS hm) nk u s c) < e2 (some (b1, b2)) from nI_lt lt tb)]
            exact new eb
          · have eb : bst (mS hm) nk s c u (some (b1, b2)) = some (b1, b2) := by unfold bst; rw [o]; exact (if_pos rfl).trans (if_neg lt)
            rw [if_neg (show ¬ nI (tot (mS hm) nk u s c) < e2 (some (b1, b2)) from nI_nlt (by omega) tl), eb]
            exact ih (u + 1) u' (some (b1, b2)) E (by omega) (by omega) (by omega) xE e33 e34 hb
  have ones : ∀ (q k u' : Nat) (H : sh_H), k + q = nk → q < u' → sM H hm → f_M_chooses_l17 NF (f_M_chooses_b51 NF) u' (nI s) (nI c) (nI (ob (mS hm) k)) (nI k) H = f_M_chooses_b51 NF (nI s) (nI c) (nI (ob (mS hm) nk)) H := by
    intro q
    induction q with
    | zero =>
      intro k u' H e3 e4 x
      obtain ⟨u', rfl⟩ : ∃ m, u' = m + 1 := ⟨u' - 1, by omega⟩
      obtain rfl : k = nk := by omega
      show f_M_chooses_c17 NF (f_M_chooses_b51 NF) (f_M_chooses_l17 NF (f_M_chooses_b51 NF) u') (nI s) (nI c) (nI (ob (mS hm) k)) (nI k) H = _
      unfold f_M_chooses_c17
      rw [if_pos j0, show H.1 13 46 (0 : Int32).toNatClampNeg = nI k from (x.mS 0).trans k2, if_neg (nI_nlt (by omega) (by omega))]
    | succ q ih =>
      intro k u' H e3 e4 x
      obtain ⟨u', rfl⟩ : ∃ m, u' = m + 1 := ⟨u' - 1, by omega⟩
      show f_M_chooses_c17 NF (f_M_chooses_b51 NF) (f_M_chooses_l17 NF (f_M_chooses_b51 NF) u') (nI s) (nI c) (nI (ob (mS hm) k)) (nI k) H = _
      unfold f_M_chooses_c17 f_M_chooses_b45
      rw [if_pos j0, show H.1 13 46 (0 : Int32).toNatClampNeg = nI nk from (x.mS 0).trans k2, if_pos (nI_lt (by omega) (by omega)), M_worth h x k2 k1 (by omega), Option.bind_some, nI_1]
      have i := ih (k + 1) u' H (by omega) (by omega) x
      obtain ⟨w1, w2⟩ := hw k (by omega)
      by_cases e : wth (mS hm) k = 1
      · rw [if_pos (show nI (wth (mS hm) k) = 1 by rw [e]; rfl), or_bits k (by omega) _ (ob_lt _ _)]
        rw [show ob (mS hm) (k + 1) = ob (mS hm) k + 2 ^ k by show ob (mS hm) k + (if wth (mS hm) k = 1 then 2 ^ k else 0) = _; rw [if_pos e]] at i
        exact i
      · rw [if_neg (show ¬ nI (wth (mS hm) k) = 1 from fun z => e ((nI_eq (b := 1) (by omega) (by omega)).mp z))]
        rw [show ob (mS hm) (k + 1) = ob (mS hm) k by show ob (mS hm) k + (if wth (mS hm) k = 1 then 2 ^ k else 0) = _; rw [if_neg e, Nat.add_zero]] at i
        exact i
  have p0 : 0 < 2 ^ nk := Nat.pow_pos (by omega)
  have n64 : 2 ^ nk - 1 < NF := by have : 64 < NF := NF_gt (by omega); omega
  have x2 : sM (sh_pI (sh_pI hm 12 0 33 (-2)) 12 0 34 (-2)) hm := ((sM.rf hm).pI (by unfold scM; omega)).pI (by unfold scM; omega)
  unfold f_M_chooses
  rw [sh_let, sh_let]
  have o := ones nk 0 NF _ (by omega) (NF_gt (by omega)) x2
  rw [show f_M_chooses_l17 NF (f_M_chooses_b51 NF) NF (nI s) (nI c) 0 0 _ = _ from o]
  unfold f_M_chooses_b51
  refine lp (2 ^ nk - 1) 1 NF none _ (by omega) n64 (by omega) x2 ?_ (pI_at _ _ _ _ _) trivial
  rw [pI_ne (by omega), pI_at]
  rfl
theorem bss_ok {f : Nat → Int32} {nk s c : Nat} : ∀ q u b, u + q ≤ 64 → bok f nk s c b → bok f nk s c (bss f nk s c q u b) := by
  intro q
  induction q with
  | zero => intro u b _ h; exact h
  | succ q ih => intro u b e h; exact ih (u + 1) _ (by omega) (bok_st (by omega) h)
theorem C_which {c0 : Nat} {hc hm : sh_H} (h : St c0 hc hm) (hc5 : c0 ≤ 512) {nk s c : Nat} (k2 : mS hm 0 = nI nk) (k1 : nk ≤ 6) (s1 : 1 ≤ s) (hs : s ≤ 400) (hc9 : c ≤ 99) : ∃ E b1 b2, f_CB_which NF (nI s) (nI c) hc = some (e1 (bss (mS hm) nk s c (2 ^ nk - 1) 1 none), E) ∧ sC E hc ∧ RC E ∧ TL E nk (wth (mS hm)) b1 b2 := by
  have hw : ∀ k, k < nk → 1 ≤ wth (mS hm) k ∧ wth (mS hm) k ≤ 500 := fun k hk => (T_kind h k2 k1 hk).1.2
  obtain ⟨E, E1, E2, E3⟩ := C_look h hc5 k2 k1 (p := 0) (g := 0) (by omega)
  have hCE : RC E := (St_sC E2 h).1
  obtain ⟨E', e1, e2⟩ := C_bestSet h k1 hs hc9 hw E hCE E3
  refine ⟨E', _, _, ?_, (e2.s (by omega)).tr E2, RC_of hCE (fun r j hr hj => e2.1 6 r j (by omega)), rC_TL (Or.inl rfl) e2 E3⟩
  unfold f_CB_which
  have n1 : ¬ q_within (nI s) 1 400 = 0 := fun z => by
    have := q_within_eq (x := 0) (a := 1) (b := 400) (by omega) (by omega) s (by omega)
    rw [if_pos ⟨s1, hs⟩] at this
    exact q_10 (this.symm.trans z)
  have n2 : ¬ q_within (nI c) 0 99 = 0 := fun z => by
    have := q_within_eq (x := 0) (a := 0) (b := 99) (by omega) (by omega) c (by omega)
    rw [if_pos ⟨Nat.zero_le _, hc9⟩] at this
    exact q_10 (this.symm.trans z)
  rw [CB_within, Option.bind_some, if_neg n1, CB_within, Option.bind_some, if_neg n2, show f_Coins_look NF hc.2.2.1 0 0 0 hc = some E from E1, Option.bind_some, e1]
  rfl
theorem P_which (a1 a2 : Int32) : Pair (f_CB_which NF a1 a2) (f_M_which NF a1 a2) := Pair.o (by
  intro c hc hm hc5 h
  by_cases c1 : q_within a1 1 400 = 0
  · refine ⟨-1, ⟨hc, ?_, sC.rf hc⟩, ⟨hm, ?_, sM.rf hm⟩⟩
    · unfold f_CB_which; rw [CB_within, Option.bind_some, if_pos c1]
    · unfold f_M_which; rw [M_isIn, Option.bind_some, if_pos c1]
  by_cases c2 : q_within a2 0 99 = 0
  · refine ⟨-1, ⟨hc, ?_, sC.rf hc⟩, ⟨hm, ?_, sM.rf hm⟩⟩
    · unfold f_CB_which; rw [CB_within, Option.bind_some, if_neg c1, CB_within, Option.bind_some, if_pos c2]
    · unfold f_M_which; rw [M_isIn, Option.bind_some, if_neg c1, M_isIn, Option.bind_some, if_pos c2]
  obtain ⟨s, s1, s2, rfl⟩ := q_within_in (a := 1) (b := 400) (by omega) (by omega) c1
  obtain ⟨g, -, g2, rfl⟩ := q_within_in (a := 0) (b := 99) (by omega) (by omega) c2
  obtain ⟨nk, k1, k2, -⟩ := (St_T h).1
  obtain ⟨E, b1, b2, E1, E2, -, -⟩ := C_which h (by omega) k2 k1 s1 s2 g2
  obtain ⟨G, G1, G2, G3, -⟩ := M_chooses h k2 k1 s2 g2
  refine ⟨_, ⟨E, E1, E2⟩, ⟨G, ?_, G2⟩⟩
  unfold f_M_which
  rw [M_isIn, Option.bind_some, if_neg c1, M_isIn, Option.bind_some, if_neg c2, G1, Option.bind_some, G3])
theorem P_whichSum (a1 a2 : Int32) : Pair (f_CB_whichSum NF a1 a2) (f_M_whichSum NF a1 a2) := Pair.o (by
  intro c hc hm hc5 h
  by_cases c1 : q_within a1 1 400 = 0
  · refine ⟨-1, ⟨hc, ?_, sC.rf hc⟩, ⟨hm, ?_, sM.rf hm⟩⟩
    · unfold f_CB_whichSum f_CB_which
      rw [CB_within, Option.bind_some, if_pos c1, sh_b2_some, if_pos (show (-1 : Int32) < 0 by decide)]
    · unfold f_M_whichSum; rw [M_isIn, Option.bind_some, if_pos c1]
  by_cases c2 : q_within a2 0 99 = 0
  · refine ⟨-1, ⟨hc, ?_, sC.rf hc⟩, ⟨hm, ?_, sM.rf hm⟩⟩
    · unfold f_CB_whichSum f_CB_which
      rw [CB_within, Option.bind_some, if_neg c1, CB_within, Option.bind_some, if_pos c2, sh_b2_some, if_pos (show (-1 : Int32) < 0 by decide)]
    · unfold f_M_whichSum; rw [M_isIn, Option.bind_some, if_neg c1, M_isIn, Option.bind_some, if_pos c2]
  obtain ⟨s, s1, s2, rfl⟩ := q_within_in (a := 1) (b := 400) (by omega) (by omega) c1
  obtain ⟨g, -, g2, rfl⟩ := q_within_in (a := 0) (b := 99) (by omega) (by omega) c2
  obtain ⟨nk, k1, k2, -⟩ := (St_T h).1
  have hw : ∀ k, k < nk → 1 ≤ wth (mS hm) k ∧ wth (mS hm) k ≤ 500 := fun k hk => (T_kind h k2 k1 hk).1.2
  have p6 : 2 ^ nk ≤ 2 ^ 6 := Nat.pow_le_pow_right (by omega) k1
  have p0 : 0 < 2 ^ nk := Nat.pow_pos (by omega)
  obtain ⟨E, b1, b2, E1, E2, E3, E4⟩ := C_which h (by omega) k2 k1 s1 s2 g2
  obtain ⟨G, G1, G2, -, G3⟩ := M_chooses h k2 k1 s2 g2
  have ok := bss_ok (f := mS hm) (nk := nk) (s := s) (c := g) (2 ^ nk - 1) 1 none (by omega) trivial
  have m : oM (f_M_whichSum NF (nI s) (nI g) hm) (e2 (bss (mS hm) nk s g (2 ^ nk - 1) 1 none)) hm := by
    refine ⟨G, ?_, G2⟩
    unfold f_M_whichSum
    rw [M_isIn, Option.bind_some, if_neg c1, M_isIn, Option.bind_some, if_neg c2, G1, Option.bind_some, G3]
  refine ⟨_, ?_, m⟩
  unfold f_CB_whichSum
  rw [E1]
  generalize bss (mS hm) nk s g (2 ^ nk - 1) 1 none = b at ok
  cases b with
  | none =>
    refine ⟨E, ?_, E2⟩
    rw [sh_b2_some, if_pos (show e1 none < 0 by decide)]
    rfl
  | some b =>
    obtain ⟨b1, b2⟩ := b
    obtain ⟨o1, o2⟩ := ok
    have o1' : b1 < 64 := o1
    have o2' : b2 = tot (mS hm) nk b1 s g := o2
    obtain ⟨H, H1, H2⟩ := C_sumOf h k1 s2 g2 o1' hw E E3 E4
    refine ⟨H, ?_, (H2.s (by omega)).tr E2⟩
    show (if nI b1 < 0 then _ else sh_b2 (f_Coins_sumOf NF (nI b1) (nI s) (nI g) E) _) = _
    rw [if_neg (show ¬ nI b1 < 0 from nI_nlt (b := 0) (a := b1) (by omega) (by omega)), H1, o2']
    rfl)
