/-! PAIR: months: what is lacked -/
theorem nv_to {f g : Nat → Int32} {k : Nat} (e : g k = f k) : nv g k = nv f k := by unfold nv; rw [e]
theorem fgo_to {f g : Nat → Int32} {q : Nat → Int32} : ∀ (n k : Nat) (s : Nat → Int32) (d : Nat), (∀ i, k ≤ i → i < k + n → g (1000 + i) = f (1000 + i) ∧ g (1500 + i) = f (1500 + i)) → fgo g q n k s d = fgo f q n k s d := by
  intro n
  induction n with
  | zero => intro k s d _; rfl
  | succ n ih =>
    intro k s d h
    obtain ⟨e1, e2⟩ := h k (Nat.le_refl _) (by omega)
    have h' : ∀ i, k + 1 ≤ i → i < k + 1 + n → g (1000 + i) = f (1000 + i) ∧ g (1500 + i) = f (1500 + i) := fun i h1 h2 => h i (by omega) (by omega)
    unfold fgo
    rw [nv_to e1, nv_to e2, e2, ih _ _ _ h', ih _ _ _ h', ih _ _ _ h']
theorem fval_to {f g : Nat → Int32} {q : Nat → Int32} {c : Nat} (h : FE f c) (e0 : g c = f c) (e1 : g (c + 1) = f (c + 1)) (e2 : ∀ k, 1000 ≤ k → k < 2000 → g k = f k) : fval g q c = fval f q c := by
  obtain ⟨a, b, n, h1, h2, h3, h4, h5, h6, -⟩ := h
  unfold fval
  rw [nv_to e0, nv_to e1, nv_of h5 (by omega), nv_of h6 (by omega)]
  exact fgo_to _ _ _ _ (fun i i1 i2 => ⟨e2 _ (by omega) (by omega), e2 _ (by omega) (by omega)⟩)
theorem lro_to {f g : Nat → Int32} {b : Nat} {p k : Int32} : ∀ {n : Nat}, (∀ r, r < n → g (b + 4 * r) = f (b + 4 * r) ∧ g (b + 4 * r + 1) = f (b + 4 * r + 1)) → lro g b p k n = lro f b p k n := by
  intro n
  induction n with
  | zero => intro _; rfl
  | succ n ih =>
    intro h
    obtain ⟨e1, e2⟩ := h n (by omega)
    unfold lro
    rw [e1, e2, ih (fun r hr => h r (by omega))]
theorem wnt_to {f g : Nat → Int32} (h : IT f) (e : ∀ k, kT k → g k = f k) (p k m : Int32) : wnt g p k m = wnt f p k m := by
  obtain ⟨n, n1, n2, n3⟩ := h.2.2.1
  have e2 : g 2 = f 2 := e 2 (by unfold kT; omega)
  unfold wnt
  rw [nv_to e2, nv_of n2 (by omega), lro_to (fun r hr => ⟨e _ (by unfold kT; omega), e _ (by unfold kT; omega)⟩)]
  cases el : lro f 50 p k n with
  | none => rfl
  | some r =>
    obtain ⟨r1, -, -⟩ := lro_some el
    have fe := (n3 r r1).2.2
    rw [show 50 + 4 * r + 2 = 52 + 4 * r by omega] at fe
    show clN (fval g (fq m 0 0 0) (52 + 4 * r)) 9999 = clN (fval f (fq m 0 0 0) (52 + 4 * r)) 9999
    rw [fval_to fe (e _ (by unfold kT; omega)) (e _ (by unfold kT; omega)) (fun k h1 h2 => e k (by unfold kT; omega))]
theorem al_to {f g : Nat → Int32} (e : ∀ k, 800 ≤ k → k < 920 → g k = f k) {p k : Nat} (hp : p < 5) (hk : k < 6) : al g p k = al f p k := by
  unfold al
  rw [nv_to (e _ (by omega) (by omega)), nv_to (e _ (by omega) (by omega)), nv_to (e _ (by omega) (by omega)), nv_to (e _ (by omega) (by omega))]
/-- lacked of a place and a kind: q = 6 (place - 1) + kind -/
def lkq (f : Nat → Int32) (m q : Nat) : Nat := wnt f (nI (q / 6 + 1)) (nI (q % 6)) (nI m) - al f (q / 6 + 1) (q % 6)
def Phi (f : Nat → Int32) (m ni nk q : Nat) : Nat := if q / 6 + 1 ≤ ni ∧ q % 6 < nk then lkq f m q else 0
def hmq (f : Nat → Int32) (q : Nat) : Nat := wX f (q / 6 + 1)
def LV (hm : sh_H) (X : Nat → Nat) (A : Nat → Nat) (V : sh_H) : Prop := (∀ c i j, ¬ (c = 13 ∧ i = 46 ∧ 926 ≤ j ∧ j < 950) → V.1 c i j = hm.1 c i j) ∧ (∀ q, q < 24 → V.1 13 46 (926 + q) = hm.1 13 46 (926 + q) + nI (A q)) ∧ (∀ c i j, ¬ (c = 14 ∧ i = 6 ∧ j = 0) → V.2.1 c i j = hm.2.1 c i j) ∧ V.2.1 14 6 0 = hm.2.1 14 6 0 + lN (sumN (fun q => A q * X q) 24) ∧ V.2.2 = hm.2.2
theorem LV_eq {hm V V' : sh_H} {X A A' : Nat → Nat} (a : LV hm X A V) (b : LV hm X A' V') (e : ∀ q, q < 24 → A q = A' q) : V = V' := by
  obtain ⟨a1, a2, a3, a4, a5⟩ := a
  obtain ⟨b1, b2, b3, b4, b5⟩ := b
  refine Prod.ext ?_ (Prod.ext ?_ (a5.trans b5.symm))
  · funext c i j
    by_cases z : c = 13 ∧ i = 46 ∧ 926 ≤ j ∧ j < 950
    · obtain ⟨rfl, rfl, z1, z2⟩ := z
      obtain ⟨q, rfl⟩ : ∃ q, j = 926 + q := ⟨j - 926, by omega⟩
      rw [a2 q (by omega), b2 q (by omega), e q (by omega)]
    · rw [a1 c i j z, b1 c i j z]
  · funext c i j
    by_cases z : c = 14 ∧ i = 6 ∧ j = 0
    · obtain ⟨rfl, rfl, rfl⟩ := z
      rw [a4, b4, sumN_cg (fun q hq => by rw [e q hq])]
    · rw [a3 c i j z, b3 c i j z]
theorem LV_0 {hm : sh_H} {X : Nat → Nat} : LV hm X (fun _ => 0) hm := by
  refine ⟨fun _ _ _ _ => rfl, fun q _ => ?_, fun _ _ _ _ => rfl, ?_, rfl⟩
  · show _ = _ + (0 : Int32)
    rw [Int32.add_zero]
  · rw [sumN_cg (g' := fun _ => 0) (fun q _ => Nat.zero_mul _), sumN_0]
    show _ = _ + (0 : Int64)
    rw [Int64.add_zero]
theorem LV_up {hm V : sh_H} {X A : Nat → Nat} (a : LV hm X A V) {q d : Nat} (hq : q < 24) : LV hm X (up0 A q (A q + d)) (sh_pJ (sh_pI V 13 46 (926 + q) (V.1 13 46 (926 + q) + nI d)) 14 6 0 (V.2.1 14 6 0 + lN (d * X q))) := by
  obtain ⟨a1, a2, a3, a4, a5⟩ := a
  refine ⟨fun c i j n => ?_, fun q' hq' => ?_, fun c i j n => ?_, ?_, a5⟩
  · show (sh_pI V 13 46 (926 + q) _).1 c i j = _
    rw [pI_ne (by omega)]
    exact a1 c i j n
  · show (sh_pI V 13 46 (926 + q) _).1 13 46 (926 + q') = _
    by_cases z : q' = q
    · rw [z, pI_at, a2 q hq, show up0 A q (A q + d) q = A q + d from if_pos rfl, Int32.add_assoc, nI_add]
    · rw [pI_ne (by omega), show up0 A q (A q + d) q' = A q' from if_neg z]
      exact a2 q' hq'
  · rw [pJ_2, if_neg n]
    exact a3 c i j n
  · rw [pJ_2, if_pos ⟨rfl, rfl, rfl⟩, a4, Int64.add_assoc, lN_add]
    congr 2
    have e : sumN (fun q' => up0 A q (A q + d) q' * X q') 24 = sumN (fun q' => if q' = q then (A q + d) * X q else A q' * X q') 24 := sumN_cg (fun q' _ => by
      unfold up0
      by_cases z : q' = q
      · rw [if_pos z, if_pos z, z]
      · rw [if_neg z, if_neg z])
    have p := sumN_put (fun q' => A q' * X q') q ((A q + d) * X q) 24
    rw [if_pos hq, if_pos hq, Nat.add_mul] at p
    rw [e, Nat.add_mul]
    omega
theorem LV_mS {hm V : sh_H} {X A : Nat → Nat} (a : LV hm X A V) {k : Nat} (hk : k < 926 ∨ 950 ≤ k) : mS V k = mS hm k := a.1 13 46 k (by omega)
theorem LV_IT {hm V : sh_H} {X A : Nat → Nat} (a : LV hm X A V) (h : IT (mS hm)) : IT (mS V) := IT_to (fun k hk => LV_mS a (by unfold kT at hk; omega)) h
theorem LV_IS {hm V : sh_H} {X A : Nat → Nat} {c : Nat} (a : LV hm X A V) (h : IS c (mS hm)) : IS c (mS V) := IS_rs (fun k hk _ => LV_mS a (by omega)) h
theorem LV_c {hm V : sh_H} {X A : Nat → Nat} (a : LV hm X A V) : cEq V hm := by
  obtain ⟨a1, a2, a3, a4, a5⟩ := a
  refine ⟨fun c i q j => a1 c i j (fun z => ?_), fun c i q j => a3 c i j (fun z => ?_), by rw [a5], by rw [a5]⟩
  · have := lcC_of.mp q; omega
  · have := lcC_of.mp q; omega
theorem LV_x {hm V : sh_H} {X A : Nat → Nat} (a : LV hm X A V) : xEq V hm := ⟨fun j => a.1 17 0 j (by omega), by rw [a.2.2.2.2]⟩
theorem wX_to {f g : Nat → Int32} (e : ∀ k, kT k → g k = f k) {p : Nat} (hp : p < 5) (p1 : 1 ≤ p) : wX g p = wX f p := nv_to (e _ (by unfold kT; omega))
/-- the class, over a model's heap that is put alike -/
def CLs (c : Nat) (hc hm H : sh_H) (A : Nat → Nat) : Prop := ∃ V, St c H V ∧ LV hm (hmq (mS hm)) A V ∧ H.2.2 = hc.2.2 ∧ mEq H hc
theorem sh_rc17 : sh_rc 17 = 23 ∧ sh_m 17 = 4 ∧ sh_w 17 = 6 := by decide
theorem C_lack1 {c : Nat} {hc hm H : sh_H} {A : Nat → Nat} (h : St c hc hm) (hc5 : c ≤ 512) {ni nk t p k : Nat} (i2 : mS hm 1 = nI ni) (i1 : ni ≤ 4) (k2 : mS hm 0 = nI nk) (k1 : nk ≤ 6) (ht : mS hm 9 = nI t) (ht2 : t ≤ 240) (hp : p < ni) (hk : k < nk) (x : CLs c hc hm H A) (KC : Int32 → sh_H → Option (Int32 × sh_H)) (S : Int32) : ∃ E, (sh_b2 (f_Text_wanted NF hc.2.2.1 (nI (p + 1)) (nI k) ((H.1 7 0 4) - (H.1 7 0 4) / 12 * 12) H) (fun v2 h3 => Option.bind (f_Pieces_all NF 0 (nI (p + 1)) (nI k) h3) (fun v4 => Option.bind (f_Math_max 0 (v2 - v4) h3) (fun v5 => Option.bind (f_Rows_get 17 (nI (p + 1) - 1) (nI k) h3) (fun v6 => Option.bind (f_Rows_put 17 (nI (p + 1) - 1) (nI k) (v6 + v5) h3) (fun h7 => Option.bind (f_Text_harmOf hc.2.2.1 (nI (p + 1)) h7) (fun v8 => sh_let (sh_pJ h7 7 0 5 ((h7.2.1 7 0 5) + (v5.toInt64 * v8.toInt64))) (fun h9 => KC (S + v5) h9)))))))) = KC (S + nI (lkq (mS hm) (t % 12) (6 * p + k))) E ∧ CLs c hc hm E (up0 A (6 * p + k) (A (6 * p + k) + lkq (mS hm) (t % 12) (6 * p + k))) := by
  obtain ⟨V, v1, v2, v3, v4⟩ := x
  have tx : H.2.2.1 = hc.2.2.1 := by rw [v3]
  have t7 : H.1 7 0 4 = nI t := (rSt_0 v1).2.2.2.2.1.trans (by rw [Nat.zero_add]; exact (LV_mS v2 (by omega)).trans ht)
  have eT : ∀ k, kT k → mS V k = mS hm k := fun k hk => LV_mS v2 (by unfold kT at hk; omega)
  obtain ⟨E, E1, E2⟩ := C_wantedF v1 (nI (p + 1)) (nI k) (nI (t % 12))
  rw [wnt_to (St_T h) eT, tx] at E1
  have sE : sC E H := E2.s
  have hE := St_sC sE v1
  have q24 : 6 * p + k < 24 := by omega
  have ca := C_all' hE hc5 (p := p + 1) (k := k) (by omega) (by omega)
  rw [al_to (f := mS hm) (fun k h1 h2 => LV_mS v2 (by omega)) (by omega) (by omega)] at ca
  have wl := wnt_le (mS hm) (nI (p + 1)) (nI k) (nI (t % 12))
  have al1 := (al_of (St_S h) hc5 (p := p + 1) (k := k) (by omega) (by omega)).1
  have ed : wnt (mS hm) (nI (p + 1)) (nI k) (nI (t % 12)) - al (mS hm) (p + 1) k = lkq (mS hm) (t % 12) (6 * p + k) := by
    unfold lkq
    rw [show (6 * p + k) / 6 = p by omega, show (6 * p + k) % 6 = k by omega]
  have dl : lkq (mS hm) (t % 12) (6 * p + k) ≤ 9999 := by omega
  obtain ⟨e1, e2, e3⟩ := sh_rc17
  have r17 : E.1 6 17 3 = nI 4 := (rSt_0 hE).2.1.1
  have r23 : E.1 13 23 (6 * p + k) = V.1 13 46 (926 + (6 * p + k)) := by
    have := (rSt_0 hE).2.1.2 (6 * p + k) q24
    rw [Nat.zero_add] at this
    exact this
  have g17 : f_Rows_get 17 (nI p) (nI k) E = some (V.1 13 46 (926 + (6 * p + k))) := by
    rw [rows_get (s := 4) hE.1 (by omega) r17 (by rw [e2]; omega) (by omega) (by omega), if_pos ⟨by omega, by rw [e3]; omega⟩, e1, e3, show p * 6 + k = 6 * p + k by omega, r23]
  have p17 : ∀ v, f_Rows_put 17 (nI p) (nI k) v E = some (sh_pI E 13 23 (6 * p + k) v) := fun v => by
    rw [rows_put (s := 4) hE.1 (by omega) r17 (by rw [e2]; omega) (by omega) (by omega), if_pos ⟨by omega, by rw [e3]; omega⟩, e1, e3, show p * 6 + k = 6 * p + k by omega]
  have L1 := LK.lk hE q24 (V.1 13 46 (926 + (6 * p + k)) + nI (lkq (mS hm) (t % 12) (6 * p + k)))
  have hV1 : mS (sh_pI V 13 46 (926 + (6 * p + k)) (V.1 13 46 (926 + (6 * p + k)) + nI (lkq (mS hm) (t % 12) (6 * p + k)))) 1 = nI ni := (L1.2.2.2.2.2 1 (by omega)).trans ((LV_mS v2 (by omega)).trans i2)
  obtain ⟨ha, hb, -⟩ := C_harmOf L1.1 hV1 i1 (p := p + 1) (by omega) (by omega)
  have ew : wX (mS (sh_pI V 13 46 (926 + (6 * p + k)) (V.1 13 46 (926 + (6 * p + k)) + nI (lkq (mS hm) (t % 12) (6 * p + k))))) (p + 1) = hmq (mS hm) (6 * p + k) := by
    rw [wX_to (f := mS hm) (fun k hk => (L1.2.2.2.2.2 k (by unfold kT at hk; omega)).trans (eT k hk)) (by omega) (by omega)]
    unfold hmq
    rw [show (6 * p + k) / 6 = p by omega]
  have txE : E.2.2.1 = hc.2.2.1 := sE.tx.trans tx
  rw [ew, L1.tx, txE] at ha
  rw [ew] at hb
  have J5 : E.2.1 7 0 5 = V.2.1 14 6 0 := (rSt_0 hE).2.2.2.2.2.1
  have L2 := LK.J L1.1 (j := 0) (by omega) (V.2.1 14 6 0 + lN (lkq (mS hm) (t % 12) (6 * p + k) * hmq (mS hm) (6 * p + k)))
  refine ⟨sh_pJ (sh_pI E 13 23 (6 * p + k) (V.1 13 46 (926 + (6 * p + k)) + nI (lkq (mS hm) (t % 12) (6 * p + k)))) 7 0 5 (V.2.1 14 6 0 + lN (lkq (mS hm) (t % 12) (6 * p + k) * hmq (mS hm) (6 * p + k))), ?_, _, L2.1, LV_up v2 q24, L2.2.1.trans (L1.2.1.trans ((show E.2.2 = H.2.2 from sE.2.2).trans v3)), (L2.2.2.1.tr L1.2.2.1).tr (sE.mEq.tr v4)⟩
  rw [t7, q_m12 (by omega), E1, sh_b2_some, ca, Option.bind_some, Math_max0s (by omega) (by omega), Option.bind_some, ed, nI_pred, g17, Option.bind_some, p17, Option.bind_some, ha, Option.bind_some, sh_let, nI_l (by omega), nI_l (by omega), lN_mul]
  show KC _ (sh_pJ (sh_pI E 13 23 (6 * p + k) _) 7 0 5 (E.2.1 7 0 5 + _)) = _
  rw [J5]
