/-! PAIR: months: sendings -/
theorem sd_to {f g : Nat → Int32} {i : Nat} (hi : i < 40) (e : ∀ k, 310 ≤ k → k < 550 → k ≠ 315 + 6 * i → g k = f k) : sT g i = sT f i ∧ sP g i = sP f i ∧ sK g i = sK f i ∧ sN g i = sN f i ∧ sB g i = sB f i := ⟨nv_to (e _ (by omega) (by omega) (by omega)), nv_to (e _ (by omega) (by omega) (by omega)), nv_to (e _ (by omega) (by omega) (by omega)), nv_to (e _ (by omega) (by omega) (by omega)), nv_to (e _ (by omega) (by omega) (by omega))⟩
/-- sendings of a month, so far -/
def SI (c : Nat) (hc hm : sh_H) (m : Nat) (H G : sh_H) (L : Nat → Nat) : Prop := LK c hc hm H G ∧ LR (mS G) m L H ∧ (∀ p, p < 5 → G.1 13 52 p = nI (L p)) ∧ (∀ p, p < 5 → L p ≤ 999) ∧ ∀ p, p < 5 → 0 < L p → 1 ≤ p ∧ ∃ b, bt (mS G) (nI p) (nI m) = some b
/-- what becomes of a sending -/
def rsR (f : Nat → Int32) (L : Nat → Nat) (T i m : Nat) (sd : Int32) : Nat := match bt f (nI (sP f i)) (nI m) with | none => 1 | some b => if ltv sd (40 * nI (sT f i) + nI b) 10 < f (254 + 5 * b) then 2 else rfT f L T i b
theorem rsR_ref {f : Nat → Int32} {L : Nat → Nat} {T i m : Nat} {sd : Int32} : (match bt f (nI (sP f i)) (nI m) with | none => (1 : Int32) | some b => if (1 : Int32) = 0 then nI (rfT f L T i b) else if ltv sd (40 * nI (sT f i) + nI b) 10 < f (254 + 5 * b) then 2 else nI (rfT f L T i b)) = nI (rsR f L T i m sd) := by
  unfold rsR
  cases bt f (nI (sP f i)) (nI m) with
  | none => rfl
  | some b =>
    refine (if_neg (by decide)).trans ?_
    show _ = nI (if ltv sd (40 * nI (sT f i) + nI b) 10 < f (254 + 5 * b) then 2 else rfT f L T i b)
    by_cases z : ltv sd (40 * nI (sT f i) + nI b) 10 < f (254 + 5 * b)
    · rw [if_pos z, if_pos z]; rfl
    · rw [if_neg z, if_neg z]
theorem rsR_le {f : Nat → Int32} {L : Nat → Nat} {T i m : Nat} {sd : Int32} : rsR f L T i m sd ≤ 4 := by
  unfold rsR rfT
  cases bt f (nI (sP f i)) (nI m) with
  | none => show 1 ≤ 4; omega
  | some b =>
    show (if _ then _ else if _ then _ else _) ≤ 4
    split
    · omega
    · split
      · omega
      · split <;> omega
theorem rsR_0 {f : Nat → Int32} {L : Nat → Nat} {T i m : Nat} {sd : Int32} (h : rsR f L T i m sd = 0) : ∃ b, bt f (nI (sP f i)) (nI m) = some b ∧ L (sP f i) + sN f i * wgt f (sK f i) ≤ nv f (252 + 5 * b) := by
  unfold rsR at h
  cases e : bt f (nI (sP f i)) (nI m) with
  | none => rw [e] at h; cases h
  | some b =>
    rw [e] at h
    have h' : (if ltv sd (40 * nI (sT f i) + nI b) 10 < f (254 + 5 * b) then 2 else rfT f L T i b) = 0 := h
    refine ⟨b, rfl, ?_⟩
    by_cases z : ltv sd (40 * nI (sT f i) + nI b) 10 < f (254 + 5 * b)
    · rw [if_pos z] at h'; cases h'
    · rw [if_neg z] at h'
      unfold rfT at h'
      by_cases y : nv f (252 + 5 * b) < L (sP f i) + sN f i * wgt f (sK f i)
      · rw [if_pos y] at h'; cases h'
      · omega
/-- a sending whose time it is -/
theorem LK_send1 {c : Nat} {hc hm H G : sh_H} (hc5 : c ≤ 512) {n i t : Nat} {L : Nat → Nat} (sd : Int32) (x : SI c hc hm (t % 12) H G L) (hn : mS G 7 = nI n) (n4 : n ≤ 40) (hi : i < n) (et : sT (mS G) i = t) (KC : sh_H → Option sh_H) (KM : sh_H → Option sh_H) (a1 a2 a3 : Int32) : ∃ H' G' L', (Option.bind (f_Calendar_refusal NF hc.2.2.1 15 (nI i) 0 sd 1 H) (fun v3 => Option.bind (f_Rows_put 15 (nI i) 5 v3 H) (fun h4 => if v3 = 0 then Option.bind (f_Calendar_carry NF hc.2.2.1 15 (nI i) 0 h4) (fun h5 => KC h5) else KC h4))) = KC H' ∧ (Option.bind (f_M_boatOf NF (nI (sP (mS G) i)) (nI (t % 12)) G) (fun v5 => Option.bind (f_M_layTills NF G) (fun h6 => Option.bind (f_M_reason NF (nI (310 + 6 * i)) (nI (t % 12)) h6) (fun v7 => if v5 < 0 then f_M_sends_b135 NF (fun _ _ _ H => KM H) a1 a2 a3 (nI (310 + 6 * i)) (nI (sP (mS G) i)) v7 h6 else Option.bind (f_M_lot sd (40 * nI t + v5) 10 h6) (fun v8 => if ai_in (250 + 5 * v5 + 4) 8000 then (if v8 < h6.1 13 46 (250 + 5 * v5 + 4).toNatClampNeg then f_M_sends_b135 NF (fun _ _ _ H => KM H) a1 a2 a3 (nI (310 + 6 * i)) (nI (sP (mS G) i)) 2 h6 else f_M_sends_b135 NF (fun _ _ _ H => KM H) a1 a2 a3 (nI (310 + 6 * i)) (nI (sP (mS G) i)) v7 h6) else none))))) = KM G' ∧ SI c hc hm (t % 12) H' G' L' := by
  obtain ⟨lk, lr, ml, hL, hbo⟩ := x
  have hH := lk.1
  have tx := lk.tx
  obtain ⟨n', m1, m2, m3, m4⟩ := St_sd hH
  obtain rfl : n' = n := (nI_eq (by omega) (by omega)).mp (m2.symm.trans hn)
  obtain ⟨S, g0, g1, g2, g3, g4⟩ := m4 i hi
  have t1 := S.t1
  have sp := S.p2
  have sp1 := S.p1
  have sn := S.n2
  have bb := S.b1
  obtain ⟨nk, k1, k2, k3⟩ := S.k1
  obtain ⟨-, ⟨w1, w2, w3⟩, -⟩ := T_kind hH k2 k1 k3
  obtain ⟨s1, s2, s3⟩ := stt_4 S
  have wl : sN (mS G) i * wgt (mS G) (sK (mS G) i) ≤ 9999 * 20 := Nat.mul_le_mul sn w3
  -- the class's refusal
  have hT := C_all' hH hc5 (p := stt (mS G) i) (k := sK (mS G) i) s1 (by omega)
  have al1 := (al_of (St_S hH) hc5 (p := stt (mS G) i) (k := sK (mS G) i) s1 (by omega)).1
  have ref := C_refusal hH hn n4 hi (L := L) (s := 0) (by rw [et]; exact lr) (hL _ (by omega)) hT (by omega) sd 1
  rw [tx, et] at ref
  have ref2 := ref.trans (congrArg some ((show _ = _ by rw [← et]; rfl).trans (rsR_ref (f := mS G) (L := L) (T := al (mS G) (stt (mS G) i) (sK (mS G) i)) (i := i) (m := t % 12) (sd := sd))))
  generalize eR : rsR (mS G) L (al (mS G) (stt (mS G) i) (sK (mS G) i)) i (t % 12) sd = R at ref2
  have R4 : R ≤ 4 := by rw [← eR]; exact rsR_le
  have pt : f_Rows_put 15 (nI i) 5 (nI R) H = some (sh_pI H 13 21 (i * 6 + 5) (nI R)) := by
    have a := rows_put (r := 15) (s := n') (a := i) (b := 5) (v := nI R) hH.1 (by omega) m3 (show n' ≤ 40 from n4) (by omega) (by omega)
    rw [if_pos ⟨hi, show 5 < 6 by omega⟩] at a
    exact a
  -- the model's reason
  obtain ⟨A, A1, A2, A3⟩ := M_layTills hH hc5 (sM.rf G)
  have xA : sM A G := A2.s
  have mlA : ML A L (tl0 (mS G)) := ⟨fun p hp => (A2.1 13 52 p (by omega)).trans (ml p hp), A3⟩
  have tle : tl0 (mS G) (6 * stt (mS G) i + sK (mS G) i) = al (mS G) (stt (mS G) i) (sK (mS G) i) := by
    unfold tl0
    rw [show (6 * stt (mS G) i + sK (mS G) i) / 6 = stt (mS G) i by omega, show (6 * stt (mS G) i + sK (mS G) i) % 6 = sK (mS G) i by omega]
  have rs := M_reason hH xA (m := t % 12) S (by omega) mlA (hL _ (by omega)) (by rw [tle]; omega)
  rw [tle] at rs
  have bo := M_boatOf (St_T hH) (nI (sP (mS G) i)) (nI (t % 12))
  have toR : (Option.bind (f_M_boatOf NF (nI (sP (mS G) i)) (nI (t % 12)) G) (fun v5 => Option.bind (f_M_layTills NF G) (fun h6 => Option.bind (f_M_reason NF (nI (310 + 6 * i)) (nI (t % 12)) h6) (fun v7 => if v5 < 0 then f_M_sends_b135 NF (fun _ _ _ H => KM H) a1 a2 a3 (nI (310 + 6 * i)) (nI (sP (mS G) i)) v7 h6 else Option.bind (f_M_lot sd (40 * nI t + v5) 10 h6) (fun v8 => if ai_in (250 + 5 * v5 + 4) 8000 then (if v8 < h6.1 13 46 (250 + 5 * v5 + 4).toNatClampNeg then f_M_sends_b135 NF (fun _ _ _ H => KM H) a1 a2 a3 (nI (310 + 6 * i)) (nI (sP (mS G) i)) 2 h6 else f_M_sends_b135 NF (fun _ _ _ H => KM H) a1 a2 a3 (nI (310 + 6 * i)) (nI (sP (mS G) i)) v7 h6) else none))))) = f_M_sends_b135 NF (fun _ _ _ H => KM H) a1 a2 a3 (nI (310 + 6 * i)) (nI (sP (mS G) i)) (nI R) A := by
    rw [bo, Option.bind_some, A1, Option.bind_some, rs, Option.bind_some, ← eR]
    unfold rsn rsR
    cases e : bt (mS G) (nI (sP (mS G) i)) (nI (t % 12)) with
    | none => rw [show oI2 none (-2) = (-2 : Int32) from rfl, if_pos (by decide)]
    | some b =>
      obtain ⟨b1, b2, -, -, -, ⟨b8, -⟩, -⟩ := T_boat hH e
      have ar : (250 : Int32) + 5 * nI b + 4 = nI (254 + 5 * b) := by rw [show (250 : Int32) = nI 250 from rfl, show (5 : Int32) = nI 5 from rfl, q_mul, nI_add, show (4 : Int32) = nI 4 from rfl, nI_add]; congr 1; omega
      rw [show oI2 (some b) (-2) = nI b from rfl, if_neg (nI_pos (by omega)), M_lot (by decide), Option.bind_some, ar, if_pos (in8 (by omega)), cl8 (by omega), show A.1 13 46 (254 + 5 * b) = mS G (254 + 5 * b) from xA.mS _]
      show _ = f_M_sends_b135 NF (fun _ _ _ H => KM H) a1 a2 a3 (nI (310 + 6 * i)) (nI (sP (mS G) i)) (nI (if ltv sd (40 * nI (sT (mS G) i) + nI b) 10 < mS G (254 + 5 * b) then 2 else rfT (mS G) L (al (mS G) (stt (mS G) i) (sK (mS G) i)) i b)) A
      rw [et]
      by_cases z : ltv sd (40 * nI t + nI b) 10 < mS G (254 + 5 * b)
      · rw [if_pos z, if_pos z]; rfl
      · rw [if_neg z, if_neg z]
  rw [toR, ref2, Option.bind_some, pt, Option.bind_some]
  -- the reason is kept
  have L1 : LK c H G (sh_pI H 13 21 (i * 6 + 5) (nI R)) (sh_pI A 13 46 (315 + 6 * i) (nI R)) := (LK.sc hH (sC.rf H) xA).tr (LK.rs (St_sM xA hH) (by omega) (nI R))
  obtain ⟨a0, ad1, ad2, ad3, ad4, ad5⟩ := sd_a (i := i)
  unfold f_M_sends_b135 f_M_sends_b261
  rw [ad5, if_pos (in8 (by omega)), sh_let, cl8 (by omega)]
  have f52 : ∀ p, p < 5 → (sh_pI A 13 46 (315 + 6 * i) (nI R)).1 13 52 p = nI (L p) := fun p hp => (pI_ne (by omega)).trans ((A2.1 13 52 p (by omega)).trans (ml p hp))
  have f32 : LR (mS (sh_pI A 13 46 (315 + 6 * i) (nI R))) (t % 12) L (sh_pI H 13 21 (i * 6 + 5) (nI R)) := by
    have := LR_to (g := mS (sh_pI A 13 46 (315 + 6 * i) (nI R))) (St_T hH) (fun k hk => L1.2.2.2.2.2 k (by omega)) lr
    exact ⟨(pI_ne (by omega)).trans this.1, fun b hb => (pI_ne (by omega)).trans (this.2 b hb)⟩
  have bo1 : ∀ p, p < 5 → 0 < L p → 1 ≤ p ∧ ∃ b, bt (mS (sh_pI A 13 46 (315 + 6 * i) (nI R))) (nI p) (nI (t % 12)) = some b := fun p hp z => by
    obtain ⟨y1, b, y2⟩ := hbo p hp z
    exact ⟨y1, b, (bt_to (St_T hH) (fun k hk => L1.2.2.2.2.2 k (by omega)) _ _).trans y2⟩
  have eS : ∀ k, 310 ≤ k → k < 550 → k ≠ 315 + 6 * i → mS (sh_pI A 13 46 (315 + 6 * i) (nI R)) k = mS G k := fun k h1 h2 h3 => (pI_ne (by omega)).trans (xA.mS k)
  by_cases z : R = 0
  · obtain ⟨b, eb, eb2⟩ := rsR_0 (eR.trans z)
    obtain ⟨b1, b2, -, ⟨b3, b4, b5⟩, -⟩ := T_boat hH eb
    rw [if_pos (show nI R = 0 by rw [z]; rfl), if_neg (show ¬ (0 : Int32) < nI R by rw [z]; decide)]
    generalize sh_pI H 13 21 (i * 6 + 5) (nI R) = H1 at *
    generalize sh_pI A 13 46 (315 + 6 * i) (nI R) = G1 at *
    obtain ⟨eT, eP, eK, eN, eB⟩ := sd_to (g := mS G1) (f := mS G) (i := i) (by omega) eS
    have kW : wgt (mS G1) (sK (mS G1) i) = wgt (mS G) (sK (mS G) i) := by rw [eK]; exact nv_to (L1.2.2.2.2.2 _ (by omega))
    have hn1 : mS G1 7 = nI n' := (L1.2.2.2.2.2 7 (by omega)).trans hn
    have ebt : bt (mS G1) (nI (sP (mS G1) i)) (nI (sT (mS G1) i % 12)) = some b := by
      rw [eP, eT, et]
      exact (bt_to (St_T hH) (fun k hk => L1.2.2.2.2.2 k (by omega)) _ _).trans eb
    obtain ⟨E, e0, e1, e2, e3⟩ := C_carry0 L1.1 hn1 n4 hi (L := L) (by rw [eT, et]; exact f32) ebt (by rw [eP]; exact hL _ (by omega)) 0
    rw [L1.tx, tx] at e3
    have hG2 : sM (sh_pI G1 13 52 (sP (mS G) i) (nI (L (sP (mS G) i) + sN (mS G) i * wgt (mS G) (sK (mS G) i)))) G1 := (sM.rf G1).pI (by unfold scM; omega)
    have L2 := LK.sc L1.1 e1 hG2
    have S1 : SD (mS G1) i := by
      obtain ⟨n'', y1, y2, -, y4⟩ := St_sd L1.1
      obtain rfl : n'' = n' := (nI_eq (by omega) (by omega)).mp (y2.symm.trans hn1)
      exact (y4 i hi).1
    have es : stt (mS G1) i = stt (mS G) i ∧ too (mS G1) i = too (mS G) i := by
      unfold stt too
      rw [eB, eP]
      exact ⟨rfl, rfl⟩
    obtain ⟨C', M', c1, c2, c3, c4⟩ := LK_goF L2.1 (p1 := stt (mS G) i) (k := sK (mS G) i) (b := sB (mS G) i) (n := sN (mS G) i) (a2 := nI (too (mS G) i)) s1 (Or.inl ⟨_, s2, rfl⟩) (by omega) bb (by omega) hc5
    have LL := (L1.tr L2).tr c3
    have crl : crL (mS G1) L i = up0 L (sP (mS G) i) (L (sP (mS G) i) + sN (mS G) i * wgt (mS G) (sK (mS G) i)) := by
      unfold crL
      rw [eP, eN, kW]
    refine ⟨C', M', crL (mS G1) L i, ?_, ?_, lk.tr LL, ?_, fun p hp => ?_, fun p hp => ?_, fun p hp w => ?_⟩
    · rw [e3, eK, es.1, es.2, eN, eB, c1]
      rfl
    · obtain ⟨-, v1, v2, v3, v4⟩ := sd_m (hm := G1) (H := G1) (fun _ => rfl) S1 (by omega)
      rw [eK] at v2
      rw [eN] at v3
      rw [eB] at v4
      have vL : G1.1 13 52 (nI (sP (mS G) i)).toNatClampNeg = nI (L (sP (mS G) i)) := by rw [q_cl (by omega)]; exact f52 _ (by omega)
      have vk : G1.1 13 46 (nI (21 + 3 * sK (mS G) i)).toNatClampNeg = nI (wgt (mS G) (sK (mS G) i)) := by rw [cl8 (by omega)]; exact (L1.2.2.2.2.2 _ (by omega)).trans w1
      have i5 : ai_in (nI (sP (mS G) i)) 5 := q_in (by omega) (by omega)
      have c5 : (nI (sP (mS G) i)).toNatClampNeg = sP (mS G) i := q_cl (by omega)
      rw [if_pos i5, ad3, if_pos (in8 (by omega)), ad2, if_pos (in8 (by omega)), v2, kd_m, if_pos (in8 (by omega)), if_pos i5, vL, v3, vk, sh_let, q_mul, nI_add, c5, ad4, if_pos (in8 (by omega))]
      generalize sh_pI G1 13 52 (sP (mS G) i) (nI (L (sP (mS G) i) + sN (mS G) i * wgt (mS G) (sK (mS G) i))) = G2 at c2 hG2 ⊢
      obtain ⟨-, v1, v2, v3, v4⟩ := sd_m (hm := G1) (H := G2) hG2.mS S1 (by omega)
      rw [eK] at v2
      rw [eN] at v3
      rw [eB] at v4
      unfold f_M_sends_b213 f_M_sends_b227 f_M_sends_b238 f_M_sends_b261
      rw [v4]
      unfold stt too at c2
      by_cases y : sB (mS G) i = 0
      · rw [if_pos y, if_pos y, y] at c2
        rw [if_neg (show ¬ nI (sB (mS G) i) = 1 by rw [y]; decide), if_pos (rfl : (0 : Int32) = 0), if_pos (rfl : (0 : Int32) = 0), ad2, ad3, if_pos (in8 (by omega)), if_pos (in8 (by omega)), v2, v3, show f_M_go NF 0 (nI (sP (mS G) i)) (nI (sK (mS G) i)) (nI (sN (mS G) i)) 0 G2 = some M' from c2]
        rfl
      · have y1 : sB (mS G) i = 1 := by omega
        rw [if_neg y, if_neg y, y1] at c2
        rw [if_pos (show nI (sB (mS G) i) = 1 by rw [y1]; rfl), if_neg q_10, if_neg q_10, ad2, ad3, if_pos (in8 (by omega)), if_pos (in8 (by omega)), v2, v3, show f_M_go NF (nI (sP (mS G) i)) 0 (nI (sK (mS G) i)) (nI (sN (mS G) i)) 1 G2 = some M' from c2]
        rfl
    · have e2' := e2
      rw [eT, et] at e2'
      have := LR_to (g := mS M') (St_T L1.1) (fun k hk => (c3.2.2.2.2.2 k (by omega)).trans (hG2.mS k)) e2'
      exact ⟨(c4.1 6 26 3 (by omega)).trans this.1, fun b hb => (c4.1 13 32 b (by omega)).trans (this.2 b hb)⟩
    · rw [crl, c4.2 13 52 p (by omega)]
      unfold up0
      by_cases w : p = sP (mS G) i
      · rw [if_pos w, w, pI_at]
      · rw [if_neg w, pI_ne (by omega)]
        exact f52 p hp
    · rw [crl]
      unfold up0
      split
      · omega
      · exact hL p hp
    · have eq2 : ∀ q, bt (mS M') (nI q) (nI (t % 12)) = bt (mS G) (nI q) (nI (t % 12)) := fun q => bt_to (St_T hH) (fun k hk => LL.2.2.2.2.2 k (by omega)) _ _
      rw [eq2]
      rw [crl] at w
      unfold up0 at w
      by_cases y : p = sP (mS G) i
      · rw [y]
        exact ⟨sp1, b, eb⟩
      · rw [if_neg y] at w
        exact hbo p hp w
  · rw [if_neg (nI_ne0 (by omega) (by omega)), if_pos (show (0 : Int32) < nI R from nI_lt (a := 0) (by omega) (by omega))]
    exact ⟨_, _, L, rfl, rfl, lk.tr L1, f32, f52, hL, bo1⟩
