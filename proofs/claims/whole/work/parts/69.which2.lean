/-! PAIRS: which, whichSum -/
def pc1 (u : Nat) : Nat → Nat → Nat
  | 0, _ => 0
  | q + 1, k => u / 2 ^ k % 2 + pc1 u q (k + 1)
theorem pc1_eq : ∀ u, u < 64 → pc1 u 6 0 = popc u := by decide +kernel
theorem bn_bit2 : ∀ u, u < 64 → ∀ k, k < 6 → (nI u >>> (nI k &&& 31)) &&& 1 = nI (u / 2 ^ k % 2) := by decide +kernel
theorem M_manyOf {u : Nat} (hu : u < 64) (h : sh_H) : f_M_manyOf NF (nI u) h = some (nI (popc u)) := by
  have lp : ∀ (q k u' a : Nat), k + q = 6 → q < u' → f_M_manyOf_l4 NF u' (nI u) (nI a) (nI k) h = some (nI (a + pc1 u q k)) := by
    intro q
    induction q with
    | zero =>
      intro k u' a e1 e2
      obtain ⟨u', rfl⟩ : ∃ m, u' = m + 1 := ⟨u' - 1, by omega⟩
      obtain rfl : k = 6 := by omega
      show f_M_manyOf_c4 NF (f_M_manyOf_l4 NF u') (nI u) (nI a) (nI 6) h = _
      unfold f_M_manyOf_c4
      rw [if_neg (show ¬ nI 6 < (6 : Int32) by decide)]
      rfl
    | succ q ih =>
      intro k u' a e1 e2
      obtain ⟨u', rfl⟩ : ∃ m, u' = m + 1 := ⟨u' - 1, by omega⟩
      show f_M_manyOf_c4 NF (f_M_manyOf_l4 NF u') (nI u) (nI a) (nI k) h = some (nI (a + (u / 2 ^ k % 2 + pc1 u q (k + 1))))
      unfold f_M_manyOf_c4
      rw [if_pos (show nI k < (6 : Int32) from nI_lt (b := 6) (by omega) (by omega)), bn_bit2 u hu k (by omega), nI_add, nI_1, ih (k + 1) u' _ (by omega) (by omega), Nat.add_assoc]
  unfold f_M_manyOf
  have := lp 6 0 NF 0 (by omega) (NF_gt (by omega))
  rw [pc1_eq u hu, Nat.zero_add] at this
  exact this
theorem M_worth {c : Nat} {hc hm H : sh_H} (h : St c hc hm) (x : sM H hm) {nk k : Nat} (k2 : mS hm 0 = nI nk) (k1 : nk ≤ 6) (hk : k < nk) : f_M_worth (nI k) H = some (nI (wth (mS hm) k)) := by
  obtain ⟨⟨t1, -, -⟩, -, -⟩ := T_kind h k2 k1 hk
  have b2 : (20 : Int32) + 3 * nI k = nI (20 + 3 * k) := by rw [show (20 : Int32) = nI 20 from rfl, show (3 : Int32) = nI 3 from rfl, q_mul, nI_add]
  have v : H.1 13 46 (nI (20 + 3 * k)).toNatClampNeg = nI (wth (mS hm) k) := by rw [q_cl (by omega)]; exact (x.mS _).trans t1
  unfold f_M_worth
  rw [b2, if_pos (in8 (by omega)), v]
theorem wE_le {f : Nat → Int32} {u nk r : Nat} (hw : ∀ k, k < nk → 1 ≤ wth f k) (hr : r < nk) (hb : bn u r = true) (h1 : wth f r = 1) : ∀ v, v ≤ 4000 → wE f u nk v ≤ v := by
  intro v
  induction v with
  | zero =>
    intro _
    have z : ∀ q lo, (∀ k, lo ≤ k → k < lo + q → 1 ≤ wth f k) → mdF (wth f) (bS u) q lo (fz0 1048576) 0 = 0 := by
      intro q
      induction q with
      | zero => intro lo _; rfl
      | succ q ih =>
        intro lo h
        have w := h lo (by omega) (by omega)
        show ad (wth f lo) (bS u lo) (mdF (wth f) (bS u) q (lo + 1) (fz0 1048576)) 0 = 0
        rw [ad_lt w (by omega)]
        exact ih (lo + 1) (fun k a b => h k (by omega) (by omega))
    rw [show wE f u nk 0 = 0 from z nk 0 (fun k _ b => hw k (by omega))]
    exact Nat.le_refl _
  | succ v ih =>
    intro hv
    have i := ih (by omega)
    have up := mdF_up (w := wth f) (b := bS u) (q := nk) (lo := 0) (k := r) (v := v + 1) (F := fz0 1048576) (fun k _ b => hw k (by omega)) (by omega) (by omega) (by omega) (by rw [h1, Nat.div_one]; unfold bS; rw [if_pos hb]; omega)
    rw [h1, Nat.add_sub_cancel] at up
    show mdF (wth f) (bS u) nk 0 (fz0 1048576) (v + 1) ≤ v + 1
    have : mdF (wth f) (bS u) nk 0 (fz0 1048576) v ≤ v := i
    omega
/-- only the endless ones and the best of the model's heap -/
def eM (h g : sh_H) : Prop := (∀ c i j, ¬ (c = 13 ∧ i = 57) → h.1 c i j = g.1 c i j) ∧ h.2 = g.2
theorem eM.tr {a b c : sh_H} (x : eM a b) (y : eM b c) : eM a c := ⟨fun c i j h => (x.1 c i j h).trans (y.1 c i j h), x.2.trans y.2⟩
theorem eM.rf (h : sh_H) : eM h h := ⟨fun _ _ _ _ => rfl, rfl⟩
theorem eM.pI {h g : sh_H} {j : Nat} {v : Int32} (x : eM h g) : eM (sh_pI h 13 57 j v) g := by
  refine ⟨fun c i j' n => ?_, x.2⟩
  rw [pI_ne (fun q => n ⟨q.1, q.2.1⟩)]
  exact x.1 c i j' n
theorem eM.s {h g : sh_H} (x : eM h g) : sM h g := ⟨fun c i j n => x.1 c i j (fun q => n (by unfold scM; omega)), fun _ _ _ _ => by rw [x.2], by rw [x.2]⟩
theorem M_piecesOf {c : Nat} {hc hm : sh_H} (h : St c hc hm) {nk u s r : Nat} (k2 : mS hm 0 = nI nk) (k1 : nk ≤ 6) (hu : u < 64) (hs : s ≤ 400) (hr : r < nk) (hb : bn u r = true) (h1 : wth (mS hm) r = 1) (G0 : sh_H) (y0 : sM G0 hm) : ∃ E, f_M_piecesOf NF (nI u) (nI s) G0 = some (nI (sE (wE (mS hm) u nk) s 1), E) ∧ eM E G0 := by
  have hw : ∀ k, k < nk → 1 ≤ wth (mS hm) k ∧ wth (mS hm) k ≤ 500 := fun k hk => (T_kind h k2 k1 hk).1.2
  have j0 : ai_in (0 : Int32) 8000 := in8 (k := 0) (by omega)
  have le := wE_le (f := mS hm) (u := u) (nk := nk) (fun k hk => (hw k hk).1) hr hb h1
  have inn : ∀ (v : Nat) (hv1 : 1 ≤ v) (hv : v ≤ s) (K : Int32 → Int32 → Int32 → Int32 → sh_H → Option (Int32 × sh_H)) (a : Int32), ∀ (q k u' cur : Nat) (H : sh_H), k + q = nk → q < u' → eM H G0 → (∀ j, j < v → H.1 13 57 j = nI (wE (mS hm) u nk j)) → H.1 13 57 v = nI cur → wE (mS hm) u nk v ≤ cur → cur ≤ 1000000 → (∀ r, r < k → bn u r = true → wth (mS hm) r ≤ v → cur ≤ wE (mS hm) u nk (v - wth (mS hm) r) + 1) → ∃ E, f_M_piecesOf_l31 NF K u' (nI u) (nI s) a (nI v) (nI k) H = K (nI u) (nI s) a (nI v) E ∧ eM E G0 ∧ ∀ j, j < v + 1 → E.1 13 57 j = nI (wE (mS hm) u nk j) := by
    intro v hv1 hv K a q
    induction q with
    | zero =>
      intro k u' cur H e1 e2 x p1 p2 p3 p4 p5
      obtain ⟨u', rfl⟩ : ∃ m, u' = m + 1 := ⟨u' - 1, by omega⟩
      obtain rfl : k = nk := by omega
      have y : sM H hm := x.s.tr y0
      refine ⟨H, ?_, x, fun j hj => ?_⟩
      · show f_M_piecesOf_c31 NF K (f_M_piecesOf_l31 NF K u') (nI u) (nI s) a (nI v) (nI k) H = _
        unfold f_M_piecesOf_c31
        rw [if_pos j0, show H.1 13 46 (0 : Int32).toNatClampNeg = nI k from (y.mS 0).trans k2, if_neg (nI_nlt (by omega) (by omega))]
      · by_cases e : j = v
        · subst e
          rw [p2]
          have dn := mdF_dn (w := wth (mS hm)) (b := bS u) (I := 1048576) (q := k) (lo := 0) (fun k _ b => (hw k (by omega)).1) j (by omega)
          have l := le j (by omega)
          rcases dn with dn | ⟨r', -, d2, d3, d4, d5⟩
          · have : 1048576 ≤ wE (mS hm) u k j := dn
            omega
          · have b' : bn u r' = true := by
              unfold bS at d3
              cases b : bn u r' with
              | true => rfl
              | false => rw [b] at d3; exact absurd d3 (by decide)
            have c1 := p5 r' (by omega) b' d4
            have c2 : wE (mS hm) u k (j - wth (mS hm) r') + 1 ≤ wE (mS hm) u k j := d5
            rw [show cur = wE (mS hm) u k j by omega]
        · exact p1 j (by omega)
    | succ q ih =>
      intro k u' cur H e1 e2 x p1 p2 p3 p4 p5
      obtain ⟨u', rfl⟩ : ∃ m, u' = m + 1 := ⟨u' - 1, by omega⟩
      have y : sM H hm := x.s.tr y0
      obtain ⟨w1, w2⟩ := hw k (by omega)
      show ∃ E, f_M_piecesOf_c31 NF K (f_M_piecesOf_l31 NF K u') (nI u) (nI s) a (nI v) (nI k) H = _ ∧ _
      unfold f_M_piecesOf_c31 f_M_piecesOf_b112
      rw [if_pos j0, show H.1 13 46 (0 : Int32).toNatClampNeg = nI nk from (y.mS 0).trans k2, if_pos (nI_lt (by omega) (by omega)), bn_bit u hu k (by omega), nI_1, M_worth h y k2 k1 (by omega), Option.bind_some, Option.bind_some, Option.bind_some]
      have skip : (bn u k = true → wth (mS hm) k ≤ v → cur ≤ wE (mS hm) u nk (v - wth (mS hm) k) + 1) → ∃ E, f_M_piecesOf_l31 NF K u' (nI u) (nI s) a (nI v) (nI (k + 1)) H = K (nI u) (nI s) a (nI v) E ∧ eM E G0 ∧ ∀ j, j < v + 1 → E.1 13 57 j = nI (wE (mS hm) u nk j) := by
        intro sk
        refine ih (k + 1) u' cur H (by omega) (by omega) x p1 p2 p3 p4 (fun r' r1 r2 r3 => ?_)
        by_cases e : r' = k
        · subst e; exact sk r2 r3
        · exact p5 r' (by omega) r2 r3
      cases b : bn u k with
      | false =>
        rw [if_neg (show ¬ false = true by decide), if_neg (show ¬ (0 : Int32) = 1 by decide)]
        exact skip (fun z => by rw [b] at z; cases z)
      | true =>
        rw [if_pos rfl, if_pos rfl]
        by_cases lw : v < wth (mS hm) k
        · rw [if_pos (nI_lt lw (by omega))]
          exact skip (fun _ z => by omega)
        have bu : bS u k = 4000 := by unfold bS; rw [if_pos b]
        have up := mdF_up (w := wth (mS hm)) (b := bS u) (q := nk) (lo := 0) (k := k) (v := v) (F := fz0 1048576) (fun k _ b => (hw k (by omega)).1) (by omega) (by omega) (by omega) (by rw [bu]; exact Nat.le_trans (Nat.div_le_self _ _) (by omega))
        have up' : wE (mS hm) u nk v ≤ wE (mS hm) u nk (v - wth (mS hm) k) + 1 := up
        have l := le (v - wth (mS hm) k) (by omega)
        have iv : ai_in (nI v) 401 := q_in (by omega) (by omega)
        have iw : ai_in (nI (v - wth (mS hm) k)) 401 := q_in (by omega) (by omega)
        have cw : H.1 13 57 (nI (v - wth (mS hm) k)).toNatClampNeg = nI (wE (mS hm) u nk (v - wth (mS hm) k)) := by rw [q_cl (by omega)]; exact p1 _ (by omega)
        have cv : H.1 13 57 (nI v).toNatClampNeg = nI cur := by rw [q_cl (by omega)]; exact p2
        have ev : (nI v).toNatClampNeg = v := q_cl (by omega)
        rw [if_neg (nI_nlt (by omega) (by omega)), q_sub (by omega), if_pos iw, if_pos iv, if_pos iw, if_pos iv, cw, cv, nI_1, sh_let, ev]
        by_cases ls : wE (mS hm) u nk (v - wth (mS hm) k) + 1 < cur
        · rw [if_pos (nI_lt ls (by omega))]
          refine ih (k + 1) u' _ _ (by omega) (by omega) x.pI (fun j hj => ?_) (pI_at _ _ _ _ _) up' (by omega) (fun r' r1 r2 r3 => ?_)
          · rw [pI_ne (by omega)]; exact p1 j hj
          · by_cases e : r' = k
            · subst e; exact Nat.le_refl _
            · have := p5 r' (by omega) r2 r3; omega
        · rw [if_neg (nI_nlt (by omega) (by omega))]
          exact skip (fun _ _ => by omega)
  have out : ∀ (q v u' a : Nat) (H : sh_H), v + q = s + 1 → q < u' → 1 ≤ v → eM H G0 → (∀ j, j < v → H.1 13 57 j = nI (wE (mS hm) u nk j)) → ∃ E, f_M_piecesOf_l12 NF u' (nI u) (nI s) (nI a) (nI v) H = some (nI (a + sE (wE (mS hm) u nk) q v), E) ∧ eM E G0 := by
    intro q
    induction q with
    | zero =>
      intro v u' a H e1 e2 e3 x p1
      obtain ⟨u', rfl⟩ : ∃ m, u' = m + 1 := ⟨u' - 1, by omega⟩
      refine ⟨H, ?_, x⟩
      show f_M_piecesOf_c12 NF (f_M_piecesOf_l12 NF u') (nI u) (nI s) (nI a) (nI v) H = _
      unfold f_M_piecesOf_c12
      rw [if_pos (nI_lt (by omega) (by omega))]
      rfl
    | succ q ih =>
      intro v u' a H e1 e2 e3 x p1
      obtain ⟨u', rfl⟩ : ∃ m, u' = m + 1 := ⟨u' - 1, by omega⟩
      show ∃ E, f_M_piecesOf_c12 NF (f_M_piecesOf_l12 NF u') (nI u) (nI s) (nI a) (nI v) H = some (nI (a + (wE (mS hm) u nk v + sE (wE (mS hm) u nk) q (v + 1))), E) ∧ _
      unfold f_M_piecesOf_c12
      have iv : ai_in (nI v) 401 := q_in (by omega) (by omega)
      have ev : (nI v).toNatClampNeg = v := q_cl (by omega)
      have l := le v (by omega)
      rw [if_neg (nI_nlt (by omega) (by omega)), if_pos iv, sh_let, ev]
      obtain ⟨E, E1, E2, E3⟩ := inn v e3 (by omega) (f_M_piecesOf_b118 NF (f_M_piecesOf_l12 NF u')) (nI a) nk 0 NF 1000000 (sh_pI H 13 57 v (nI 1000000)) (by omega) (NF_gt (by omega)) x.pI (fun j hj => by rw [pI_ne (by omega)]; exact p1 j hj) (pI_at _ _ _ _ _) (by omega) (Nat.le_refl _) (fun r' r1 => by omega)
      rw [show f_M_piecesOf_l31 NF (f_M_piecesOf_b118 NF (f_M_piecesOf_l12 NF u')) NF (nI u) (nI s) (nI a) (nI v) 0 (sh_pI H 13 57 v (1000000 : Int32)) = _ from E1]
      unfold f_M_piecesOf_b118
      have cv : E.1 13 57 (nI v).toNatClampNeg = nI (wE (mS hm) u nk v) := by rw [ev]; exact E3 v (by omega)
      rw [if_pos iv, cv, nI_add, nI_1, ← Nat.add_assoc]
      exact ih (v + 1) u' _ E (by omega) (by omega) (by omega) E2 E3
  have i0 : ai_in (0 : Int32) 401 := q_in (k := 0) (n := 401) (by omega) (by omega)
  unfold f_M_piecesOf
  rw [if_pos i0, sh_let]
  have := out s 1 NF 0 (sh_pI G0 13 57 0 0) (by omega) (NF_gt (by omega)) (by omega) (eM.rf G0).pI (fun j hj => by
    obtain rfl : j = 0 := by omega
    have := le 0 (by omega)
    rw [pI_at, show wE (mS hm) u nk 0 = 0 by omega]
    rfl)
  rw [Nat.zero_add] at this
  exact this
/-- the kinds of worth 1, as bits -/
def ob (f : Nat → Int32) : Nat → Nat
  | 0 => 0
  | j + 1 => ob f j + if wth f j = 1 then 2 ^ j else 0
theorem ob_lt (f : Nat → Int32) : ∀ j, ob f j < 2 ^ j := by
  intro j
  induction j with
  | zero => show 0 < 2 ^ 0; decide
  | succ j ih =>
    show ob f j + (if wth f j = 1 then 2 ^ j else 0) < 2 ^ (j + 1)
    rw [Nat.pow_succ]
    split <;> omega
theorem ob_add : ∀ j, j < 6 → ∀ a, a < 2 ^ j → ∀ k, k < 6 → bn (a + 2 ^ j) k = (decide (k = j) || bn a k) := by decide +kernel
theorem ob_big : ∀ j, j < 7 → ∀ a, a < 2 ^ j → ∀ k, k < 6 → j ≤ k → bn a k = false := by decide +kernel
theorem ob_bn (f : Nat → Int32) : ∀ j, j ≤ 6 → ∀ k, k < 6 → bn (ob f j) k = decide (k < j ∧ wth f k = 1) := by
  intro j
  induction j with
  | zero =>
    intro _ k hk
    rw [show ob f 0 = 0 from rfl, ob_big 0 (by omega) 0 (by decide) k hk (by omega)]
    exact (decide_eq_false (fun z => by omega)).symm
  | succ j ih =>
    intro hj k hk
    have lt := ob_lt f j
    have i := ih (by omega) k hk
    show bn (ob f j + (if wth f j = 1 then 2 ^ j else 0)) k = _
    by_cases e : wth f j = 1
    · rw [if_pos e, ob_add j (by omega) _ lt k hk, i]
      by_cases kj : k = j
      · subst kj
        rw [decide_eq_true rfl, Bool.true_or]
        exact (decide_eq_true ⟨by omega, e⟩).symm
      · rw [decide_eq_false kj, Bool.false_or]
        exact decide_eq_decide.mpr ⟨fun z => ⟨by omega, z.2⟩, fun z => ⟨by omega, z.2⟩⟩
    · rw [if_neg e, Nat.add_zero, i]
      exact decide_eq_decide.mpr ⟨fun z => ⟨by omega, z.2⟩, fun z => ⟨by
        have : k ≠ j := fun q => e (by rw [← q]; exact z.2)
        omega, z.2⟩⟩
theorem and_b1 : ∀ u, u < 64 → ∀ o, o < 64 → ∀ k, k < 6 → nI u &&& nI o = 0 → (bn u k && bn o k) = false := by decide +kernel
def nob (u o : Nat) : Bool := (bn u 0 && bn o 0) || (bn u 1 && bn o 1) || (bn u 2 && bn o 2) || (bn u 3 && bn o 3) || (bn u 4 && bn o 4) || (bn u 5 && bn o 5)
theorem and_b3 : ∀ u, u < 64 → ∀ o, o < 64 → nob u o = false → nI u &&& nI o = 0 := by decide +kernel
theorem and_b2 (u : Nat) (hu : u < 64) (o : Nat) (ho : o < 64) (h : ∀ k, k < 6 → (bn u k && bn o k) = false) : nI u &&& nI o = 0 := by
  apply and_b3 u hu o ho
  unfold nob
  rw [h 0 (by omega), h 1 (by omega), h 2 (by omega), h 3 (by omega), h 4 (by omega), h 5 (by omega)]
  rfl
theorem or_bits : ∀ j, j < 6 → ∀ o, o < 2 ^ j → nI o ||| ((1 : Int32) <<< (nI j &&& 31)) = nI (o + 2 ^ j) := by decide +kernel
theorem ob_has {f : Nat → Int32} {nk u : Nat} (k1 : nk ≤ 6) (hu : u < 64) : (nI u &&& nI (ob f nk) = 0) ↔ h1s f u nk 0 = false := by
  have lt := ob_lt f nk
  have p6 : 2 ^ nk ≤ 2 ^ 6 := Nat.pow_le_pow_right (by omega) k1
  have lo : ob f nk < 64 := Nat.lt_of_lt_of_le lt p6
  refine Iff.trans (b := ∀ k, k < 6 → (bn u k && bn (ob f nk) k) = false) ⟨fun z k hk => and_b1 u hu _ lo k hk z, fun z => and_b2 u hu _ lo z⟩ ?_
  constructor
  · intro z
    cases c : h1s f u nk 0 with
    | false => rfl
    | true =>
      obtain ⟨r, -, r2, r3, r4⟩ := h1s_iff.mp c
      have b2 : bn (ob f nk) r = true := by rw [ob_bn f nk k1 r (by omega)]; exact decide_eq_true ⟨by omega, r4⟩
      have := z r (by omega)
      rw [r3, b2] at this
      cases this
  · intro z k hk
    cases b : bn u k with
    | false => rfl
    | true =>
      rw [ob_bn f nk k1 k hk, Bool.true_and]
      refine decide_eq_false (fun zz => ?_)
      rw [h1s_iff.mpr ⟨k, by omega, by omega, b, zz.2⟩] at z
      cases z
