/-! PAIR: months: what is put on both sides -/
theorem rPcs_to {hc hm hc' hm' : sh_H} (e1 : hc'.1 6 14 3 = hc.1 6 14 3) (e2 : ∀ q, q < 120 → hc'.1 13 20 q = hc.1 13 20 q) (e3 : ∀ k, 800 ≤ k → k < 920 → mS hm' k = mS hm k) (h : rPcs hc hm 0 0) : rPcs hc' hm' 0 0 :=
  ⟨e1.trans h.1, fun q hq => by rw [e3 _ (by omega) (by omega)]; exact (e2 q hq).trans (h.2 q hq)⟩
theorem rLack_to {hc hm hc' hm' : sh_H} (e1 : hc'.1 6 17 3 = hc.1 6 17 3) (e2 : ∀ q, q < 24 → hc'.1 13 23 q = hc.1 13 23 q) (e3 : ∀ k, 926 ≤ k → k < 950 → mS hm' k = mS hm k) (h : rLack hc hm 0 0) : rLack hc' hm' 0 0 :=
  ⟨e1.trans h.1, fun q hq => by rw [e3 _ (by omega) (by omega)]; exact (e2 q hq).trans (h.2 q hq)⟩
theorem rSend_to {hc hm hc' hm' : sh_H} (e1 : hc'.1 6 15 3 = hc.1 6 15 3) (e2 : ∀ q, hc'.1 13 21 q = hc.1 13 21 q) (e3 : ∀ k, k = 7 ∨ (310 ≤ k ∧ k < 550) → mS hm' k = mS hm k) (h : rSend hc hm 0 0) : rSend hc' hm' 0 0 := by
  obtain ⟨n, n1, n2, n3, n4⟩ := h
  refine ⟨n, n1, e1.trans n2, by rw [e3 _ (by omega)]; exact n3, fun i hi c hc6 => ?_⟩
  have hs : sn_c c < 6 := (by decide +kernel : ∀ c, c < 6 → sn_c c < 6) c hc6
  rw [e3 _ (by omega)]
  exact (e2 _).trans (n4 i hi c hc6)
theorem rBook_to {hc hm hc' hm' : sh_H} (e1 : hc'.1 6 16 3 = hc.1 6 16 3) (e2 : ∀ q, hc'.1 13 22 q = hc.1 13 22 q) (e3 : ∀ k, k = 8 ∨ (550 ≤ k ∧ k < 800) → mS hm' k = mS hm k) (h : rBook hc hm 0 0) : rBook hc' hm' 0 0 := by
  obtain ⟨n, n1, n2, n3, n4⟩ := h
  refine ⟨n, n1, e1.trans n2, by rw [e3 _ (by omega)]; exact n3, fun i hi => ?_⟩
  obtain ⟨b, b1, b2, b3, b4, b5, b6⟩ := n4 i hi
  exact ⟨b, b1, by rw [e3 _ (by omega)]; exact b2, (e2 _).trans b3, fun q => by rw [e3 _ (by omega), e3 _ (by omega), e3 _ (by omega)]; exact ⟨(e2 _).trans (b4 q).1, (e2 _).trans (b4 q).2.1, (e2 _).trans (b4 q).2.2⟩, fun q => by rw [e3 _ (by omega), e3 _ (by omega), e3 _ (by omega)]; exact ⟨(e2 _).trans (b5 q).1, (e2 _).trans (b5 q).2.1, (e2 _).trans (b5 q).2.2⟩, fun q => by rw [e3 _ (by omega)]; exact (e2 _).trans (b6 q)⟩
/-- but for the reasons of the sendings -/
theorem IS_rs {c : Nat} {f g : Nat → Int32} (e : ∀ k, k < 10 ∨ (310 ≤ k ∧ k < 920) → ¬ (∃ i, i < 40 ∧ k = 315 + 6 * i) → g k = f k) (h : IS c f) : IS c g := by
  obtain ⟨⟨p, p1, p2⟩, h1, ⟨n, n1, n2, n3⟩, ⟨m, m1, m2, m3⟩⟩ := h
  have e0 : g 0 = f 0 := e 0 (by omega) (by omega)
  have e1 : g 1 = f 1 := e 1 (by omega) (by omega)
  refine ⟨⟨p, fun q hq => (e _ (by omega) (by omega)).trans (p1 q hq), p2⟩, rg_to (e 9 (by omega) (by omega)) h1, ⟨n, n1, (e 7 (by omega) (by omega)).trans n2, fun i hi => ?_⟩, ⟨m, m1, (e 8 (by omega) (by omega)).trans m2, fun i hi => BK_to (fun k h1 h2 => e k (by omega) (by omega)) e0 e1 (by omega) (m3 i hi)⟩⟩
  obtain ⟨p1, p2, p3, p4, p5⟩ := n3 i hi
  exact ⟨rg_to (e _ (by omega) (by omega)) p1, pl_to (e _ (by omega) (by omega)) e1 p2, kd_to (e _ (by omega) (by omega)) e0 p3, rg_to (e _ (by omega) (by omega)) p4, rg_to (e _ (by omega) (by omega)) p5⟩
theorem IS_sf {c : Nat} {hm hm' : sh_H} (e : ∀ k, k < 10 ∨ (310 ≤ k ∧ k < 920) → ¬ (∃ i, i < 40 ∧ k = 315 + 6 * i) → mS hm' k = mS hm k) (h : IS c (sf hm 0)) : IS c (sf hm' 0) := IS_rs (fun k hk hn => by rw [sf_at (by unfold kT kS; omega), sf_at (by unfold kT kS; omega)]; exact e k hk hn) h
theorem St_rs {c : Nat} {hc hm : sh_H} (h : St c hc hm) {i : Nat} (hi : i < 40) (v : Int32) : St c (sh_pI hc 13 21 (i * 6 + 5) v) (sh_pI hm 13 46 (315 + 6 * i) v) := by
  obtain ⟨r1, r2, ⟨n, n1, n2, n3, n4⟩, r4, r5⟩ := rSt_0 h
  have hk : ∀ k, ¬ k = 315 + 6 * i → mS (sh_pI hm 13 46 (315 + 6 * i) v) k = mS hm k := fun k hk => pI_ne (by omega)
  refine St_keep (Nat.le_refl c) h (fun c i j q => pI_ne (by omega)) (fun _ _ _ => rfl) rfl rfl (fun c i j q => pI_ne (by omega)) (fun _ _ => rfl) ⟨rPcs_to (pI_ne (by omega)) (fun q _ => pI_ne (by omega)) (fun k _ _ => hk k (by omega)) r1, rLack_to (pI_ne (by omega)) (fun q _ => pI_ne (by omega)) (fun k _ _ => hk k (by omega)) r2, ⟨n, n1, (pI_ne (by omega)).trans n2, by rw [hk _ (by omega)]; exact n3, fun i' hi' c hc6 => ?_⟩, rBook_to (pI_ne (by omega)) (fun q => pI_ne (by omega)) (fun k _ => hk k (by omega)) r4, ⟨by rw [hk _ (by omega)]; exact (pI_ne (by omega)).trans r5.1, r5.2⟩⟩ (IS_sf (fun k _ hn => hk k (fun z => hn ⟨i, hi, z⟩)) h.2.2.2.2.2.2.2.1)
  have hs : sn_c c < 6 ∧ (sn_c c = 5 ↔ c = 5) := (by decide +kernel : ∀ c, c < 6 → sn_c c < 6 ∧ (sn_c c = 5 ↔ c = 5)) c hc6
  by_cases e : i' = i ∧ c = 5
  · obtain ⟨rfl, rfl⟩ := e
    rw [show sn_c 5 = 5 from rfl, show 0 + 310 + 6 * i' + 5 = 315 + 6 * i' by omega]
    show (sh_pI hc 13 21 (i' * 6 + 5) v).1 13 21 (i' * 6 + 5) = (sh_pI hm 13 46 (315 + 6 * i') v).1 13 46 (315 + 6 * i')
    rw [pI_at, pI_at]
  · rw [hk _ (by omega)]
    exact (pI_ne (by omega)).trans (n4 i' hi' c hc6)
theorem St_lk {c : Nat} {hc hm : sh_H} (h : St c hc hm) {q : Nat} (hq : q < 24) (v : Int32) : St c (sh_pI hc 13 23 q v) (sh_pI hm 13 46 (926 + q) v) := by
  obtain ⟨r1, r2, r3, r4, r5⟩ := rSt_0 h
  have hk : ∀ k, ¬ k = 926 + q → mS (sh_pI hm 13 46 (926 + q) v) k = mS hm k := fun k hk => pI_ne (by omega)
  refine St_keep (Nat.le_refl c) h (fun c i j q => pI_ne (by omega)) (fun _ _ _ => rfl) rfl rfl (fun c i j q => pI_ne (by omega)) (fun _ _ => rfl) ⟨rPcs_to (pI_ne (by omega)) (fun q _ => pI_ne (by omega)) (fun k _ _ => hk k (by omega)) r1, ⟨r2.1, fun q' hq' => ?_⟩, rSend_to (pI_ne (by omega)) (fun q => pI_ne (by omega)) (fun k _ => hk k (by omega)) r3, rBook_to (pI_ne (by omega)) (fun q => pI_ne (by omega)) (fun k _ => hk k (by omega)) r4, ⟨by rw [hk _ (by omega)]; exact (pI_ne (by omega)).trans r5.1, r5.2⟩⟩ (IS_sf (fun k _ hn => hk k (by omega)) h.2.2.2.2.2.2.2.1)
  by_cases e : q' = q
  · subst e
    rw [Nat.zero_add]
    show (sh_pI hc 13 23 q' v).1 13 23 q' = (sh_pI hm 13 46 (926 + q') v).1 13 46 (926 + q')
    rw [pI_at, pI_at]
  · rw [hk _ (by omega)]
    exact (pI_ne (by omega)).trans (r2.2 q' hq')
theorem St_tm1 {c : Nat} {hc hm : sh_H} (h : St c hc hm) {t : Nat} (ht : t ≤ 240) : St c (sh_pI hc 7 0 4 (nI t)) (sh_pI hm 13 46 9 (nI t)) := by
  obtain ⟨r1, r2, r3, r4, r5⟩ := rSt_0 h
  have hk : ∀ k, ¬ k = 9 → mS (sh_pI hm 13 46 9 (nI t)) k = mS hm k := fun k hk => pI_ne (by omega)
  have a9 : mS (sh_pI hm 13 46 9 (nI t)) 9 = nI t := pI_at _ _ _ _ _
  refine St_keep (Nat.le_refl c) h (fun c i j q => pI_ne (by omega)) (fun _ _ _ => rfl) rfl rfl (fun c i j q => pI_ne (by omega)) (fun _ _ => rfl) ⟨rPcs_to (pI_ne (by omega)) (fun q _ => pI_ne (by omega)) (fun k _ _ => hk k (by omega)) r1, rLack_to (pI_ne (by omega)) (fun q _ => pI_ne (by omega)) (fun k _ _ => hk k (by omega)) r2, rSend_to (pI_ne (by omega)) (fun q => pI_ne (by omega)) (fun k _ => hk k (by omega)) r3, rBook_to (pI_ne (by omega)) (fun q => pI_ne (by omega)) (fun k _ => hk k (by omega)) r4, ⟨?_, r5.2⟩⟩ ?_
  · rw [Nat.zero_add, a9]
    exact pI_at _ _ _ _ _
  · obtain ⟨⟨p, p1, p2⟩, h1, ⟨n, n1, n2, n3⟩, ⟨m, m1, m2, m3⟩⟩ := h.2.2.2.2.2.2.2.1
    have es : ∀ k, ¬ k = 9 → sf (sh_pI hm 13 46 9 (nI t)) 0 k = sf hm 0 k := fun k hk2 => by
      unfold sf
      split
      · rw [Nat.zero_add, hk k hk2]
      · rfl
    refine ⟨⟨p, fun q hq => (es _ (by omega)).trans (p1 q hq), p2⟩, ⟨t, Nat.zero_le _, ht, ?_⟩, ⟨n, n1, (es _ (by omega)).trans n2, fun i hi => SD_to (fun k h1 h2 => es k (by omega)) (es 0 (by omega)) (es 1 (by omega)) (by omega) (n3 i hi)⟩, ⟨m, m1, (es _ (by omega)).trans m2, fun i hi => BK_to (fun k h1 h2 => es k (by omega)) (es 0 (by omega)) (es 1 (by omega)) (by omega) (m3 i hi)⟩⟩
    rw [sf_at (by unfold kT kS; omega)]
    exact a9
theorem St_J {c : Nat} {hc hm : sh_H} (h : St c hc hm) {j : Nat} (hj : j < 2) (v : Int64) : St c (sh_pJ hc 7 0 (5 + j) v) (sh_pJ hm 14 6 j v) := by
  obtain ⟨r1, r2, r3, r4, r5, r6, r7, r8⟩ := rSt_0 h
  have e1 : ∀ j', ¬ j' = 5 + j → (sh_pJ hc 7 0 (5 + j) v).2.1 7 0 j' = hc.2.1 7 0 j' := fun j' hj' => by rw [pJ_2, if_neg (by omega)]
  have e2 : ∀ j', ¬ j' = j → (sh_pJ hm 14 6 j v).2.1 14 6 j' = hm.2.1 14 6 j' := fun j' hj' => by rw [pJ_2, if_neg (by omega)]
  have a1 : (sh_pJ hc 7 0 (5 + j) v).2.1 7 0 (5 + j) = v := by rw [pJ_2, if_pos ⟨rfl, rfl, rfl⟩]
  have a2 : (sh_pJ hm 14 6 j v).2.1 14 6 j = v := by rw [pJ_2, if_pos ⟨rfl, rfl, rfl⟩]
  refine St_keep (Nat.le_refl c) h (fun c i j q => rfl) (fun s j' hs => by rw [pJ_2, if_neg (by omega)]) rfl rfl (fun c i j q => rfl) (fun j' hj' => e2 j' (by omega)) ⟨r1, r2, r3, r4, r5, ?_, ?_, ?_⟩ h.2.2.2.2.2.2.2.1
  · rcases (show j = 0 ∨ j = 1 by omega) with rfl | rfl
    · exact a1.trans a2.symm
    · exact (e1 5 (by omega)).trans (r6.trans (e2 0 (by omega)).symm)
  · rcases (show j = 0 ∨ j = 1 by omega) with rfl | rfl
    · exact (e1 6 (by omega)).trans (r7.trans (e2 1 (by omega)).symm)
    · exact a1.trans a2.symm
  · exact (e1 7 (by omega)).trans (r8.trans (e2 2 (by omega)).symm)
/-- one step of both -/
def TE (hm' hm : sh_H) : Prop := ∀ k, k < 310 ∨ (1000 ≤ k ∧ k < 2000) → mS hm' k = mS hm k
def LK (c : Nat) (hc hm hc' hm' : sh_H) : Prop := St c hc' hm' ∧ hc'.2.2 = hc.2.2 ∧ mEq hc' hc ∧ cEq hm' hm ∧ xEq hm' hm ∧ TE hm' hm
theorem LK.rf {c : Nat} {hc hm : sh_H} (h : St c hc hm) : LK c hc hm hc hm := ⟨h, rfl, mEq.rf _, cEq.rf _, xEq.rf _, fun _ _ => rfl⟩
theorem LK.tr {c : Nat} {a b a' b' a'' b'' : sh_H} (x : LK c a b a' b') (y : LK c a' b' a'' b'') : LK c a b a'' b'' := ⟨y.1, y.2.1.trans x.2.1, y.2.2.1.tr x.2.2.1, y.2.2.2.1.tr x.2.2.2.1, y.2.2.2.2.1.tr x.2.2.2.2.1, fun k hk => (y.2.2.2.2.2 k hk).trans (x.2.2.2.2.2 k hk)⟩
theorem LK.tx {c : Nat} {hc hm hc' hm' : sh_H} (x : LK c hc hm hc' hm') : hc'.2.2.1 = hc.2.2.1 := by rw [x.2.1]
theorem LK.sc {c : Nat} {hc hm hc' hm' : sh_H} (h : St c hc hm) (x : sC hc' hc) (y : sM hm' hm) : LK c hc hm hc' hm' := ⟨St_sM y (St_sC x h), x.2.2, x.mEq, y.cEq, y.xEq, fun k _ => y.mS k⟩
theorem LK.rs {c : Nat} {hc hm : sh_H} (h : St c hc hm) {i : Nat} (hi : i < 40) (v : Int32) : LK c hc hm (sh_pI hc 13 21 (i * 6 + 5) v) (sh_pI hm 13 46 (315 + 6 * i) v) := ⟨St_rs h hi v, rfl, mEq_pI (by decide) (mEq.rf _), cEq_pI (by decide) (cEq.rf _), xEq_pI (by decide) (xEq.rf _), fun k hk => pI_ne (by omega)⟩
theorem LK.lk {c : Nat} {hc hm : sh_H} (h : St c hc hm) {q : Nat} (hq : q < 24) (v : Int32) : LK c hc hm (sh_pI hc 13 23 q v) (sh_pI hm 13 46 (926 + q) v) := ⟨St_lk h hq v, rfl, mEq_pI (by decide) (mEq.rf _), cEq_pI (by decide) (cEq.rf _), xEq_pI (by decide) (xEq.rf _), fun k hk => pI_ne (by omega)⟩
theorem LK.J {c : Nat} {hc hm : sh_H} (h : St c hc hm) {j : Nat} (hj : j < 2) (v : Int64) : LK c hc hm (sh_pJ hc 7 0 (5 + j) v) (sh_pJ hm 14 6 j v) := ⟨St_J h hj v, rfl, mEq_pJ (by decide) (mEq.rf _), cEq_pJ (by decide) (cEq.rf _), xEq_pJ (xEq.rf _), fun k hk => rfl⟩
theorem LK.p {c : Nat} {hc hm : sh_H} (h : St c hc hm) {g : Nat → Nat} (g1 : ∀ q, q < 120 → mS hm (800 + q) = nI (g q)) {a v : Nat} (ha : a < 120) (hv : sumN g 120 + v ≤ g a + 9999 * c) : LK c hc hm (sh_pI hc 13 20 a (nI v)) (sh_pI hm 13 46 (800 + a) (nI v)) := ⟨St_put (Nat.le_refl c) h g1 ha hv, rfl, mEq_pI (by decide) (mEq.rf _), cEq_pI (by decide) (cEq.rf _), xEq_pI (by decide) (xEq.rf _), fun k hk => pI_ne (by omega)⟩
/-- only the pieces -/
def PF (hc hm hc' hm' : sh_H) : Prop := (∀ c i j, ¬ (c = 13 ∧ i = 20) → hc'.1 c i j = hc.1 c i j) ∧ ∀ c i j, ¬ (c = 13 ∧ i = 46) → hm'.1 c i j = hm.1 c i j
theorem PF.rf {hc hm : sh_H} : PF hc hm hc hm := ⟨fun _ _ _ _ => rfl, fun _ _ _ _ => rfl⟩
theorem PF.tr {a b a' b' a'' b'' : sh_H} (x : PF a b a' b') (y : PF a' b' a'' b'') : PF a b a'' b'' := ⟨fun c i j n => (y.1 c i j n).trans (x.1 c i j n), fun c i j n => (y.2 c i j n).trans (x.2 c i j n)⟩
theorem PF.p {hc hm : sh_H} {a b : Nat} {v w : Int32} : PF hc hm (sh_pI hc 13 20 a v) (sh_pI hm 13 46 b w) := ⟨fun c i j n => pI_ne (fun z => n ⟨z.1, z.2.1⟩), fun c i j n => pI_ne (fun z => n ⟨z.1, z.2.1⟩)⟩
/-- moved on both sides, a worn after the other -/
theorem LK_cells {c : Nat} {hc hm : sh_H} (h : St c hc hm) {p1 w k : Nat} {a2 : Int32} (hp1 : p1 < 5) (h2 : (∃ p2, p2 < 5 ∧ a2 = nI p2) ∨ a2 = -1) (hk : k < 6) (hw : w < 4) {l : Nat} (hl : l < 2 ^ 30) (hc5 : c ≤ 512) (KC : Int32 → sh_H → Option sh_H) (KM : Int32 → sh_H → Option sh_H) (CC : Option sh_H) (CM : Option sh_H) (ec : CC = Option.bind (f_Pieces_get 0 (nI p1) (nI k) (nI w) hc) (fun v1 => Option.bind (f_CB_limit (nI l) v1 hc) (fun v2 => Option.bind (f_Pieces_add 0 (nI p1) (nI k) (nI w) (-v2) hc) (fun h3 => if a2 = -1 then KC v2 h3 else Option.bind (f_Pieces_add 0 a2 (nI k) (nI w) v2 h3) (fun h4 => KC v2 h4))))) (em : CM = f_M_go_b27 NF (fun _ _ _ _ l _ H => KM l H) (nI p1) a2 (nI k) 0 (nI l) 0 (nI w) hm) : ∃ t hc' hm', t ≤ l ∧ CC = KC (nI t) hc' ∧ CM = KM (nI (l - t)) hm' ∧ LK c hc hm hc' hm' ∧ PF hc hm hc' hm' := by
  obtain ⟨g, g1, g2⟩ := St_g h
  have ha1 : (6 * p1 + k) * 4 + w < 120 := by omega
  have gl := sumN_le (g := g) (q := (6 * p1 + k) * 4 + w) (n := 120) ha1
  have pc := pcs_get h.1 (by omega) (rSt_0 h).1 hp1 hk hw
  have v1 := g1 _ ha1
  rw [Nat.zero_add, v1] at pc
  have t4 : min l (g ((6 * p1 + k) * 4 + w)) ≤ g ((6 * p1 + k) * 4 + w) := Nat.min_le_right _ _
  have ad1 : ∀ v, f_Pieces_add 0 (nI p1) (nI k) (nI w) v hc = some (sh_pI hc 13 20 ((6 * p1 + k) * 4 + w) (nI (g ((6 * p1 + k) * 4 + w)) + v)) := fun v => by
    have := pcs_add (v := v) h.1 (by omega) (rSt_0 h).1 hp1 hk hw
    rw [Nat.zero_add, v1] at this
    exact this
  have L1 := LK.p h g1 (v := g ((6 * p1 + k) * 4 + w) - min l (g ((6 * p1 + k) * 4 + w))) ha1 (by omega)
  have cl1 : (nI (800 + ((6 * p1 + k) * 4 + w))).toNatClampNeg = 800 + ((6 * p1 + k) * 4 + w) := cl8 (by omega)
  rw [pc, Option.bind_some, CB_lim (by omega) (by omega), Option.bind_some, ad1, Option.bind_some, q_neg t4] at ec
  have em2 : CM = f_M_go_b63 NF (fun _ _ _ _ l _ H => KM l H) (nI p1) a2 (nI k) 0 (nI l) 0 (nI w) (nI (min l (g ((6 * p1 + k) * 4 + w)))) hm := by
    rw [em]
    unfold f_M_go_b27
    rw [M_cell, Option.bind_some, if_pos (in8 (by omega)), cl1, show hm.1 13 46 (800 + ((6 * p1 + k) * 4 + w)) = _ from v1, Option.bind_some, if_pos (in8 (by omega))]
    by_cases z : g ((6 * p1 + k) * 4 + w) < l
    · rw [if_pos (nI_lt z (by omega)), Nat.min_eq_right (by omega), cl1, show hm.1 13 46 (800 + ((6 * p1 + k) * 4 + w)) = _ from v1]
    · rw [if_neg (nI_nlt (by omega) (by omega)), Nat.min_eq_left (by omega)]
  unfold f_M_go_b63 f_M_go_b103 at em2
  rw [M_cell, Option.bind_some, if_pos (in8 (by omega)), if_pos (in8 (by omega)), cl1, show hm.1 13 46 (800 + ((6 * p1 + k) * 4 + w)) = _ from v1, sh_let, q_sub t4] at em2
  generalize et : min l (g ((6 * p1 + k) * 4 + w)) = t at *
  have tl : t ≤ l := by omega
  have P1 : PF hc hm (sh_pI hc 13 20 ((6 * p1 + k) * 4 + w) (nI (g ((6 * p1 + k) * 4 + w) - t))) (sh_pI hm 13 46 (800 + ((6 * p1 + k) * 4 + w)) (nI (g ((6 * p1 + k) * 4 + w) - t))) := PF.p
  generalize eA : sh_pI hc 13 20 ((6 * p1 + k) * 4 + w) (nI (g ((6 * p1 + k) * 4 + w) - t)) = A at *
  generalize eB : sh_pI hm 13 46 (800 + ((6 * p1 + k) * 4 + w)) (nI (g ((6 * p1 + k) * 4 + w) - t)) = B at *
  rcases h2 with ⟨p2, p21, rfl⟩ | rfl
  · have m1 : ¬ nI p2 = -1 := fun z => nI_pos (n := p2) (by omega) (by rw [z]; decide)
    rw [if_neg m1] at ec
    rw [if_neg (nI_pos (by omega))] at em2
    have ha2 : (6 * p2 + k) * 4 + w < 120 := by omega
    have g1' : ∀ q, q < 120 → mS B (800 + q) = nI (up0 g ((6 * p1 + k) * 4 + w) (g ((6 * p1 + k) * 4 + w) - t) q) := by
      intro q hq
      rw [← eB]
      by_cases z : q = (6 * p1 + k) * 4 + w
      · rw [z, show up0 g ((6 * p1 + k) * 4 + w) (g ((6 * p1 + k) * 4 + w) - t) ((6 * p1 + k) * 4 + w) = g ((6 * p1 + k) * 4 + w) - t from if_pos rfl]
        exact pI_at _ _ _ _ _
      · rw [show up0 g ((6 * p1 + k) * 4 + w) (g ((6 * p1 + k) * 4 + w) - t) q = g q from if_neg z]
        exact (pI_ne (by omega)).trans (g1 q hq)
    have su := sum_up (G := g) (a := (6 * p1 + k) * 4 + w) (v := g ((6 * p1 + k) * 4 + w) - t) ha1
    generalize up0 g ((6 * p1 + k) * 4 + w) (g ((6 * p1 + k) * 4 + w) - t) = g' at g1' su
    have gl' := sumN_le (g := g') (q := (6 * p2 + k) * 4 + w) (n := 120) ha2
    have ad2 : f_Pieces_add 0 (nI p2) (nI k) (nI w) (nI t) A = some (sh_pI A 13 20 ((6 * p2 + k) * 4 + w) (nI (g' ((6 * p2 + k) * 4 + w) + t))) := by
      have := pcs_add (v := nI t) L1.1.1 (by omega) (rSt_0 L1.1).1 p21 hk hw
      rw [Nat.zero_add, g1' _ ha2, nI_add] at this
      exact this
    have L2 := LK.p L1.1 g1' (v := g' ((6 * p2 + k) * 4 + w) + t) ha2 (by omega)
    rw [ad2, Option.bind_some] at ec
    rw [M_cell, Option.bind_some, if_pos (in8 (by omega)), if_pos (in8 (by omega)), cl8 (by omega), show B.1 13 46 (800 + ((6 * p2 + k) * 4 + w)) = _ from g1' _ ha2, sh_let, nI_add, q_sub tl] at em2
    exact ⟨t, _, _, tl, ec, em2, L1.tr L2, P1.tr PF.p⟩
  · rw [if_pos rfl] at ec
    rw [if_pos (show (-1 : Int32) < 0 by decide), q_sub tl] at em2
    exact ⟨t, _, _, tl, ec, em2, L1, P1⟩
