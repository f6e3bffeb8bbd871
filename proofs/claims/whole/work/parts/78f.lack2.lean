/-! PAIR: months: what is lacked -/
theorem sum_add {A : Nat → Nat} {q d : Nat} (hq : q < 24) : sumN (up0 A q (A q + d)) 24 = sumN A 24 + d := by
  have := sumN_put A q (A q + d) 24
  rw [if_pos hq, if_pos hq] at this
  show sumN (fun i => if i = q then A q + d else A i) 24 = _
  omega
theorem Phi_in {f : Nat → Int32} {m ni nk p k : Nat} (hp : p < ni) (hk : k < nk) (k6 : k < 6) : Phi f m ni nk (6 * p + k) = lkq f m (6 * p + k) := if_pos ⟨by omega, by omega⟩
theorem C_lack {c : Nat} {hc hm : sh_H} (h : St c hc hm) (hc5 : c ≤ 512) {ni nk t : Nat} (i2 : mS hm 1 = nI ni) (i1 : ni ≤ 4) (k2 : mS hm 0 = nI nk) (k1 : nk ≤ 6) (ht : mS hm 9 = nI t) (ht2 : t ≤ 240) : ∃ E A, f_Calendar_lack NF hc.2.2.1 0 hc = some (nI (sumN (Phi (mS hm) (t % 12) ni nk) 24), E) ∧ CLs c hc hm E A ∧ ∀ j, j < 24 → A j = Phi (mS hm) (t % 12) ni nk j := by
  have sz : ∀ H A j, j < 7 → CLs c hc hm H A → H.1 6 (7 * hc.2.2.1 + j) 3 = mS hm j := by
    intro H A j hj x
    obtain ⟨V, v1, v2, v3, v4⟩ := x
    rw [← show H.2.2.1 = hc.2.2.1 by rw [v3]]
    exact (St_z v1 j hj).trans (LV_mS v2 (by omega))
  have inn : ∀ (K : Nat → Nat → Int32 → Int32 → sh_H → Option (Int32 × sh_H)) (p : Nat), p < ni → ∀ (q k u : Nat) (H : sh_H) (A : Nat → Nat), k + q = nk → q < u → CLs c hc hm H A → (∀ j, j < 24 → A j = if j < 6 * p + k then Phi (mS hm) (t % 12) ni nk j else 0) → ∃ E A', f_Calendar_lack_l18 NF K u hc.2.2.1 0 (nI (sumN A 24)) (nI (p + 1)) (nI k) H = K hc.2.2.1 0 (nI (sumN A' 24)) (nI (p + 1)) E ∧ CLs c hc hm E A' ∧ ∀ j, j < 24 → A' j = if j < 6 * (p + 1) then Phi (mS hm) (t % 12) ni nk j else 0 := by
    intro K p hp q
    induction q with
    | zero =>
      intro k u H A e1 e2 x dn
      obtain ⟨u, rfl⟩ : ∃ m, u = m + 1 := ⟨u - 1, by omega⟩
      obtain rfl : k = nk := by omega
      refine ⟨H, A, ?_, x, fun j hj => ?_⟩
      · show f_Calendar_lack_c18 NF K (f_Calendar_lack_l18 NF K u) hc.2.2.1 0 (nI (sumN A 24)) (nI (p + 1)) (nI k) H = _
        unfold f_Calendar_lack_c18 f_Rows_size
        rw [sz H A 0 (by omega) x, k2, Option.bind_some, if_neg (nI_nlt (by omega) (by omega))]
      · rw [dn j hj]
        by_cases z : j < 6 * p + k
        · rw [if_pos z, if_pos (by omega)]
        · rw [if_neg z]
          by_cases y : j < 6 * (p + 1)
          · rw [if_pos y]
            exact (if_neg (by omega)).symm
          · rw [if_neg y]
    | succ q ih =>
      intro k u H A e1 e2 x dn
      obtain ⟨u, rfl⟩ : ∃ m, u = m + 1 := ⟨u - 1, by omega⟩
      have q24 : 6 * p + k < 24 := by omega
      obtain ⟨E, E1, E2⟩ := C_lack1 h hc5 i2 i1 k2 k1 ht ht2 hp (k := k) (by omega) x (fun S H => f_Calendar_lack_l18 NF K u hc.2.2.1 0 S (nI (p + 1)) (nI (k + 1)) H) (nI (sumN A 24))
      have a0 : A (6 * p + k) = 0 := by rw [dn _ q24, if_neg (Nat.lt_irrefl _)]
      obtain ⟨F, A', F1, F2, F3⟩ := ih (k + 1) u E _ (by omega) (by omega) E2 (fun j hj => by
        unfold up0
        by_cases z : j = 6 * p + k
        · rw [if_pos z, a0, Nat.zero_add, z, if_pos (by omega), Phi_in hp (by omega) (by omega)]
        · rw [if_neg z, dn j hj]
          by_cases y : j < 6 * p + k
          · rw [if_pos y, if_pos (by omega)]
          · rw [if_neg y, if_neg (by omega)])
      refine ⟨F, A', ?_, F2, F3⟩
      rw [sum_add q24, show nI (sumN A 24 + lkq (mS hm) (t % 12) (6 * p + k)) = nI (sumN A 24) + nI (lkq (mS hm) (t % 12) (6 * p + k)) from (nI_add _ _).symm] at F1
      rw [← F1]
      refine Eq.trans ?_ E1
      show f_Calendar_lack_c18 NF K (f_Calendar_lack_l18 NF K u) hc.2.2.1 0 (nI (sumN A 24)) (nI (p + 1)) (nI k) H = _
      unfold f_Calendar_lack_c18 f_Rows_size
      rw [sz H A 0 (by omega) x, k2, Option.bind_some, if_pos (nI_lt (by omega) (by omega)), if_pos n12, nI_1]
  have out : ∀ (q p u : Nat) (H : sh_H) (A : Nat → Nat), p + q = ni → q < u → CLs c hc hm H A → (∀ j, j < 24 → A j = if j < 6 * p then Phi (mS hm) (t % 12) ni nk j else 0) → ∃ E A', f_Calendar_lack_l4 NF u hc.2.2.1 0 (nI (sumN A 24)) (nI (p + 1)) H = some (nI (sumN (Phi (mS hm) (t % 12) ni nk) 24), E) ∧ CLs c hc hm E A' ∧ ∀ j, j < 24 → A' j = Phi (mS hm) (t % 12) ni nk j := by
    intro q
    induction q with
    | zero =>
      intro p u H A e1 e2 x dn
      obtain ⟨u, rfl⟩ : ∃ m, u = m + 1 := ⟨u - 1, by omega⟩
      obtain rfl : p = ni := by omega
      have ea : ∀ j, j < 24 → A j = Phi (mS hm) (t % 12) p nk j := fun j hj => by
        rw [dn j hj]
        by_cases z : j < 6 * p
        · rw [if_pos z]
        · rw [if_neg z]
          exact (if_neg (by omega)).symm
      refine ⟨H, A, ?_, x, ea⟩
      show f_Calendar_lack_c4 NF (f_Calendar_lack_l4 NF u) hc.2.2.1 0 (nI (sumN A 24)) (nI (p + 1)) H = _
      unfold f_Calendar_lack_c4 f_Rows_size
      rw [sz H A 1 (by omega) x, i2, Option.bind_some, if_pos (nI_lt (by omega) (by omega)), sumN_cg ea]
    | succ q ih =>
      intro p u H A e1 e2 x dn
      obtain ⟨u, rfl⟩ : ∃ m, u = m + 1 := ⟨u - 1, by omega⟩
      obtain ⟨E, A', E1, E2, E3⟩ := inn (f_Calendar_lack_b126 NF (f_Calendar_lack_l4 NF u)) p (by omega) nk 0 NF H A (by omega) (NF_gt (by omega)) x dn
      obtain ⟨F, A'', F1, F2, F3⟩ := ih (p + 1) u E A' (by omega) (by omega) E2 E3
      refine ⟨F, A'', ?_, F2, F3⟩
      show f_Calendar_lack_c4 NF (f_Calendar_lack_l4 NF u) hc.2.2.1 0 (nI (sumN A 24)) (nI (p + 1)) H = _
      unfold f_Calendar_lack_c4 f_Rows_size
      rw [sz H A 1 (by omega) x, i2, Option.bind_some, if_neg (nI_nlt (by omega) (by omega)), show f_Calendar_lack_l18 NF (f_Calendar_lack_b126 NF (f_Calendar_lack_l4 NF u)) NF hc.2.2.1 0 (nI (sumN A 24)) (nI (p + 1)) 0 H = _ from E1]
      unfold f_Calendar_lack_b126
      rw [nI_1]
      exact F1
  unfold f_Calendar_lack
  have o := out ni 0 NF hc (fun _ => 0) (by omega) (NF_gt (by omega)) ⟨hm, h, LV_0, rfl, mEq.rf _⟩ (fun j hj => by rw [if_neg (by omega)])
  rw [sumN_0] at o
  exact o
/-- the model goes through the wants told last -/
def Psi (f : Nat → Int32) (m ni nk nw i q : Nat) : Nat := match lro f 50 (nI (q / 6 + 1)) (nI (q % 6)) nw with | some r => if r < i then Phi f m ni nk q else 0 | none => 0
theorem Psi_0 {f : Nat → Int32} {m ni nk nw q : Nat} : Psi f m ni nk nw 0 q = 0 := by
  unfold Psi
  cases lro f 50 (nI (q / 6 + 1)) (nI (q % 6)) nw with
  | none => rfl
  | some r => exact if_neg (Nat.not_lt_zero _)
theorem Psi_n {f : Nat → Int32} {m ni nk nw q : Nat} (hw : f 2 = nI nw) (n2 : nw < 2 ^ 31) : Psi f m ni nk nw nw q = Phi f m ni nk q := by
  unfold Psi
  cases e : lro f 50 (nI (q / 6 + 1)) (nI (q % 6)) nw with
  | none =>
    show 0 = Phi f m ni nk q
    have w0 : wnt f (nI (q / 6 + 1)) (nI (q % 6)) (nI m) = 0 := by
      unfold wnt
      rw [nv_of hw n2, e]
    unfold Phi lkq
    rw [w0, Nat.zero_sub]
    split <;> rfl
  | some r => exact if_pos (lro_some e).1
theorem Psi_no {f : Nat → Int32} {m ni nk nw i q : Nat} (h : lro f 50 (nI (q / 6 + 1)) (nI (q % 6)) nw ≠ some i) : Psi f m ni nk nw (i + 1) q = Psi f m ni nk nw i q := by
  unfold Psi
  cases e : lro f 50 (nI (q / 6 + 1)) (nI (q % 6)) nw with
  | none => rfl
  | some r =>
    have : r ≠ i := fun z => h (by rw [e, z])
    show (if r < i + 1 then _ else _) = (if r < i then _ else _)
    by_cases y : r < i
    · rw [if_pos y, if_pos (by omega)]
    · rw [if_neg y, if_neg (by omega)]
theorem Psi_at {f : Nat → Int32} {m ni nk nw i q : Nat} (h : lro f 50 (nI (q / 6 + 1)) (nI (q % 6)) nw = some i) : Psi f m ni nk nw (i + 1) q = Phi f m ni nk q ∧ Psi f m ni nk nw i q = 0 := by
  unfold Psi
  rw [h]
  exact ⟨if_pos (by omega), if_neg (by omega)⟩
theorem sM_pI2 {H V : sh_H} {c i j : Nat} {v : Int32} (x : sM H V) : sM (sh_pI H c i j v) (sh_pI V c i j v) := by
  refine ⟨fun c' i' j' n => ?_, x.2.1, x.2.2⟩
  rw [pI_1, pI_1]
  by_cases z : c' = c ∧ i' = i ∧ j' = j
  · rw [if_pos z, if_pos z]
  · rw [if_neg z, if_neg z]; exact x.1 c' i' j' n
theorem sM_pJ2 {H V : sh_H} {c i j : Nat} {v : Int64} (x : sM H V) : sM (sh_pJ H c i j v) (sh_pJ V c i j v) := by
  refine ⟨x.1, fun c' i' n j' => ?_, x.2.2⟩
  rw [pJ_2, pJ_2]
  by_cases z : c' = c ∧ i' = i ∧ j' = j
  · rw [if_pos z, if_pos z]
  · rw [if_neg z, if_neg z]; exact x.2.1 c' i' n j'
theorem M_lack {c : Nat} {hc hm : sh_H} (h : St c hc hm) (hc5 : c ≤ 512) {ni nk t : Nat} (i2 : mS hm 1 = nI ni) (i1 : ni ≤ 4) (k2 : mS hm 0 = nI nk) (k1 : nk ≤ 6) (ht2 : t ≤ 240) : ∃ E V A, f_M_lacking NF (nI t) hm = some (nI (sumN (Phi (mS hm) (t % 12) ni nk) 24), E) ∧ LV hm (hmq (mS hm)) A V ∧ sM E V ∧ ∀ j, j < 24 → A j = Phi (mS hm) (t % 12) ni nk j := by
  obtain ⟨nw, w1, w2, w3⟩ := (St_T h).2.2.1
  have j2 : ai_in (2 : Int32) 8000 := in8 (k := 2) (by omega)
  have lp : ∀ (q i u : Nat) (H V : sh_H) (A : Nat → Nat), i + q = nw → q < u → LV hm (hmq (mS hm)) A V → sM H V → (∀ j, j < 24 → A j = Psi (mS hm) (t % 12) ni nk nw i j) → ∃ E V A', f_M_lacking_l4 NF u (nI t) (nI (sumN A 24)) (nI i) H = some (nI (sumN (Phi (mS hm) (t % 12) ni nk) 24), E) ∧ LV hm (hmq (mS hm)) A' V ∧ sM E V ∧ ∀ j, j < 24 → A' j = Phi (mS hm) (t % 12) ni nk j := by
    intro q
    induction q with
    | zero =>
      intro i u H V A e1 e2 lv x dn
      obtain ⟨u, rfl⟩ : ∃ m, u = m + 1 := ⟨u - 1, by omega⟩
      obtain rfl : i = nw := by omega
      have ea : ∀ j, j < 24 → A j = Phi (mS hm) (t % 12) ni nk j := fun j hj => by rw [dn j hj, Psi_n w2 (by omega)]
      refine ⟨H, V, A, ?_, lv, x, ea⟩
      show f_M_lacking_c4 NF (f_M_lacking_l4 NF u) (nI t) (nI (sumN A 24)) (nI i) H = _
      unfold f_M_lacking_c4
      rw [if_pos j2, show H.1 13 46 (2 : Int32).toNatClampNeg = nI i from (x.mS 2).trans ((LV_mS lv (by omega)).trans w2), if_neg (nI_nlt (by omega) (by omega)), sumN_cg ea]
    | succ q ih =>
      intro i u H V A e1 e2 lv x dn
      obtain ⟨u, rfl⟩ : ∃ m, u = m + 1 := ⟨u - 1, by omega⟩
      have hi : i < nw := by omega
      have eH : ∀ k, k < 926 ∨ 950 ≤ k → mS H k = mS hm k := fun k hk => (x.mS k).trans (LV_mS lv hk)
      have g2 : mS H 2 = nI nw := (eH 2 (by omega)).trans w2
      obtain ⟨p1, p3, -⟩ := w3 i hi
      obtain ⟨p', pp1, p5, ep, mm, m4, pm, em⟩ := pl_n p1
      obtain ⟨p, rfl⟩ : ∃ p, p' = p + 1 := ⟨p' - 1, by omega⟩
      obtain ⟨k, k6, ek, mk, mk6, km, emk⟩ := kd_n p3
      obtain rfl : mm = ni := (nI_eq (by omega) (by omega)).mp (em.symm.trans i2)
      obtain rfl : mk = nk := (nI_eq (by omega) (by omega)).mp (emk.symm.trans k2)
      have q24 : 6 * p + k < 24 := by omega
      have mL := M_isLast (H := H) (j := 2) (b := 50) (i := i) (by omega) (by omega) g2 w1 hi
      have il : isl (mS H) 50 i nw = true ↔ lro (mS hm) 50 (nI (p + 1)) (nI k) nw = some i := by
        unfold isl
        rw [decide_eq_true_eq, eH _ (by omega), eH _ (by omega), ep, ek, lro_to (fun r hr => ⟨eH _ (by omega), eH _ (by omega)⟩)]
      have e3 : (6 * p + k) / 6 = p ∧ (6 * p + k) % 6 = k := ⟨by omega, by omega⟩
      have a0 : (50 : Int32) + 4 * nI i = nI (50 + 4 * i) := by rw [show (50 : Int32) = nI 50 from rfl, show (4 : Int32) = nI 4 from rfl, q_mul, nI_add]
      have v0 : H.1 13 46 (nI (50 + 4 * i)).toNatClampNeg = nI (p + 1) := by rw [cl8 (by omega)]; exact (eH _ (by omega)).trans ep
      have v1 : H.1 13 46 (nI (50 + 4 * i + 1)).toNatClampNeg = nI k := by rw [cl8 (by omega)]; exact (eH _ (by omega)).trans ek
      by_cases z : isl (mS H) 50 i nw = true
      · have zl := il.mp z
        have zq : lro (mS hm) 50 (nI ((6 * p + k) / 6 + 1)) (nI ((6 * p + k) % 6)) nw = some i := by rw [e3.1, e3.2]; exact zl
        obtain ⟨s1, s2⟩ := Psi_at (m := t % 12) (ni := mm) (nk := mk) zq
        rw [Phi_in (by omega) km k6] at s1
        have ot : ∀ j, j < 24 → j ≠ 6 * p + k → Psi (mS hm) (t % 12) mm mk nw (i + 1) j = Psi (mS hm) (t % 12) mm mk nw i j := fun j hj hne => Psi_no (fun y => by
          obtain ⟨-, y1, y2⟩ := lro_some y
          have := (nI_eq (by omega) (by omega)).mp (y1.symm.trans ep)
          have := (nI_eq (by omega) (by omega)).mp (y2.symm.trans ek)
          omega)
        have A0 : A (6 * p + k) = 0 := by rw [dn _ q24, s2]
        obtain ⟨F, F1, F2⟩ := M_wantedG (LV_IT lv (St_T h)) x (nI (p + 1)) (nI k) (nI (t % 12))
        rw [wnt_to (St_T h) (fun k hk => LV_mS lv (by unfold kT at hk; omega))] at F1
        have xF : sM F V := F2.s.tr x
        have ma := M_all' (LV_IS lv (St_S h)) hc5 xF (p := p + 1) (k := k) p5 k6
        rw [al_to (f := mS hm) (fun k h1 h2 => LV_mS lv (by omega)) p5 k6] at ma
        have wl := wnt_le (mS hm) (nI (p + 1)) (nI k) (nI (t % 12))
        have al1 := (al_of (St_S h) hc5 (p := p + 1) (k := k) p5 k6).1
        have ed : wnt (mS hm) (nI (p + 1)) (nI k) (nI (t % 12)) - al (mS hm) (p + 1) k = lkq (mS hm) (t % 12) (6 * p + k) := by
          unfold lkq
          rw [e3.1, e3.2]
        have new : ∀ j, j < 24 → up0 A (6 * p + k) (A (6 * p + k) + lkq (mS hm) (t % 12) (6 * p + k)) j = Psi (mS hm) (t % 12) mm mk nw (i + 1) j := fun j hj => by
          unfold up0
          by_cases y : j = 6 * p + k
          · rw [if_pos y, A0, Nat.zero_add, y, s1]
          · rw [if_neg y, dn j hj, ot j hj y]
        have cut : f_M_lacking_l4 NF (u + 1) (nI t) (nI (sumN A 24)) (nI i) H = (if 0 < nI (wnt (mS hm) (nI (p + 1)) (nI k) (nI (t % 12))) - nI (al (mS hm) (p + 1) k) then (sh_let (sh_pI F 13 46 (926 + (6 * p + k)) (F.1 13 46 (926 + (6 * p + k)) + (nI (wnt (mS hm) (nI (p + 1)) (nI k) (nI (t % 12))) - nI (al (mS hm) (p + 1) k)))) (fun h5 => Option.bind (f_M_harm (nI (p + 1)) h5) (fun v6 => sh_let (sh_pJ h5 14 6 0 (h5.2.1 14 6 0 + ((nI (wnt (mS hm) (nI (p + 1)) (nI k) (nI (t % 12))) - nI (al (mS hm) (p + 1) k)).toInt64 * v6.toInt64))) (fun h7 => f_M_lacking_l4 NF u (nI t) (nI (sumN A 24) + (nI (wnt (mS hm) (nI (p + 1)) (nI k) (nI (t % 12))) - nI (al (mS hm) (p + 1) k))) (nI (i + 1)) h7)))) else f_M_lacking_l4 NF u (nI t) (nI (sumN A 24)) (nI (i + 1)) F) := by
          show f_M_lacking_c4 NF (f_M_lacking_l4 NF u) (nI t) (nI (sumN A 24)) (nI i) H = _
          unfold f_M_lacking_c4 f_M_lacking_b134
          rw [if_pos z] at mL
          have aq : (920 : Int32) + 6 * nI (p + 1) + nI k = nI (926 + (6 * p + k)) := by rw [show (920 : Int32) = nI 920 from rfl, show (6 : Int32) = nI 6 from rfl, q_mul, nI_add, nI_add]; congr 1; omega
          have cq : (nI (926 + (6 * p + k))).toNatClampNeg = 926 + (6 * p + k) := cl8 (by omega)
          have i0 : ai_in (0 : Int32) 12 := q_in (k := 0) (n := 12) (by omega) (by omega)
          rw [if_pos j2, show H.1 13 46 (2 : Int32).toNatClampNeg = nI nw from g2, if_pos (nI_lt hi (by omega)), show f_M_isLast NF 2 50 (nI i) H = some 1 from mL, Option.bind_some, if_neg q_10, a0, nI_1, if_pos (in8 (by omega)), if_pos (in8 (by omega)), v0, v1, if_pos n12, q_m12 (by omega), F1, sh_b2_some, ma, Option.bind_some, aq, if_pos (in8 (by omega)), if_pos (in8 (by omega)), cq]
          simp only [if_pos i0, nI_1]
          rfl
        rw [cut]
        by_cases y : al (mS hm) (p + 1) k < wnt (mS hm) (nI (p + 1)) (nI k) (nI (t % 12))
        · have y' : 0 < nI (wnt (mS hm) (nI (p + 1)) (nI k) (nI (t % 12))) - nI (al (mS hm) (p + 1) k) := (d_lt2 (a := 0) (by omega) (by omega) (by omega)).mpr (by omega)
          rw [if_pos y', q_sub (by omega), ed, sh_let]
          have fv : F.1 13 46 (926 + (6 * p + k)) = V.1 13 46 (926 + (6 * p + k)) := xF.mS _
          rw [fv]
          have x5 : sM (sh_pI F 13 46 (926 + (6 * p + k)) (V.1 13 46 (926 + (6 * p + k)) + nI (lkq (mS hm) (t % 12) (6 * p + k)))) (sh_pI V 13 46 (926 + (6 * p + k)) (V.1 13 46 (926 + (6 * p + k)) + nI (lkq (mS hm) (t % 12) (6 * p + k)))) := sM_pI2 xF
          obtain ⟨-, hx, hv⟩ := C_harmOf h i2 i1 (p := p + 1) (by omega) (by omega)
          have eh : wX (mS hm) (p + 1) = hmq (mS hm) (6 * p + k) := by unfold hmq; rw [e3.1]
          have mh : f_M_harm (nI (p + 1)) (sh_pI F 13 46 (926 + (6 * p + k)) (V.1 13 46 (926 + (6 * p + k)) + nI (lkq (mS hm) (t % 12) (6 * p + k)))) = some (nI (hmq (mS hm) (6 * p + k))) := by
            unfold f_M_harm
            have b2 : (40 : Int32) + 2 * nI (p + 1) - 1 = nI (39 + 2 * (p + 1)) := by rw [show (40 : Int32) = nI 40 from rfl, show (2 : Int32) = nI 2 from rfl, q_mul, nI_add, show 40 + 2 * (p + 1) = 39 + 2 * (p + 1) + 1 by omega, nI_pred]
            rw [b2, if_pos (in8 (by omega)), cl8 (by omega), ← eh, ← hv, pI_ne (by omega)]
            exact congrArg some ((xF.mS _).trans (LV_mS lv (by omega)))
          rw [mh, Option.bind_some, sh_let, nI_l (by omega), nI_l (by omega), lN_mul, nI_add, ← sum_add q24]
          have fj : (sh_pI F 13 46 (926 + (6 * p + k)) (V.1 13 46 (926 + (6 * p + k)) + nI (lkq (mS hm) (t % 12) (6 * p + k)))).2.1 14 6 0 = V.2.1 14 6 0 := xF.2.1 14 6 (by unfold sjM; omega) 0
          rw [fj]
          exact ih (i + 1) u _ _ _ (by omega) (by omega) (LV_up lv q24) (sM_pJ2 x5) new
        · have y' : ¬ 0 < nI (wnt (mS hm) (nI (p + 1)) (nI k) (nI (t % 12))) - nI (al (mS hm) (p + 1) k) := fun q => by
            have := (d_lt2 (a := 0) (by omega) (by omega) (by omega)).mp q
            omega
          rw [if_neg y']
          refine ih (i + 1) u F V A (by omega) (by omega) lv xF (fun j hj => ?_)
          rw [← new j hj]
          unfold up0
          by_cases w : j = 6 * p + k
          · rw [if_pos w, w]; omega
          · rw [if_neg w]
      · rw [if_neg z] at mL
        have ot : ∀ j, j < 24 → Psi (mS hm) (t % 12) mm mk nw (i + 1) j = Psi (mS hm) (t % 12) mm mk nw i j := fun j hj => Psi_no (fun y => by
          obtain ⟨-, y1, y2⟩ := lro_some y
          have z1 := (nI_eq (by omega) (by omega)).mp (y1.symm.trans ep)
          have z2 := (nI_eq (by omega) (by omega)).mp (y2.symm.trans ek)
          rw [z1, z2] at y
          exact z (il.mpr y))
        have cut : f_M_lacking_l4 NF (u + 1) (nI t) (nI (sumN A 24)) (nI i) H = f_M_lacking_l4 NF u (nI t) (nI (sumN A 24)) (nI (i + 1)) H := by
          show f_M_lacking_c4 NF (f_M_lacking_l4 NF u) (nI t) (nI (sumN A 24)) (nI i) H = _
          unfold f_M_lacking_c4 f_M_lacking_b134
          rw [if_pos j2, show H.1 13 46 (2 : Int32).toNatClampNeg = nI nw from g2, if_pos (nI_lt hi (by omega)), show f_M_isLast NF 2 50 (nI i) H = some 0 from mL, Option.bind_some, if_pos (rfl : (0 : Int32) = 0), nI_1]
        rw [cut]
        exact ih (i + 1) u H V A (by omega) (by omega) lv x (fun j hj => by rw [dn j hj, ot j hj])
  unfold f_M_lacking
  have o := lp nw 0 NF hm hm (fun _ => 0) (by omega) (NF_gt (by omega)) LV_0 (sM.rf hm) (fun j _ => Psi_0.symm)
  rw [sumN_0] at o
  exact o
theorem LK_lack {c : Nat} {hc hm : sh_H} (h : St c hc hm) (hc5 : c ≤ 512) {t : Nat} (ht : mS hm 9 = nI t) (ht2 : t ≤ 240) : ∃ r hc' hm', f_Calendar_lack NF hc.2.2.1 0 hc = some (r, hc') ∧ f_M_lacking NF (nI t) hm = some (r, hm') ∧ LK c hc hm hc' hm' := by
  obtain ⟨nk, k1, k2, -⟩ := (St_T h).1
  obtain ⟨ni, i1, i2, -⟩ := (St_T h).2.1
  obtain ⟨E, A, E1, ⟨V, v1, v2, v3, v4⟩, E3⟩ := C_lack h hc5 i2 i1 k2 k1 ht ht2
  obtain ⟨G, W, B, G1, G2, G3, G4⟩ := M_lack h hc5 i2 i1 k2 k1 ht2 (t := t)
  obtain rfl : V = W := LV_eq v2 G2 (fun q hq => (E3 q hq).trans (G4 q hq).symm)
  exact ⟨_, E, G, E1, G1, St_sM G3 v1, v3, v4, G3.cEq.tr (LV_c v2), G3.xEq.tr (LV_x v2), fun k hk => (G3.mS k).trans (LV_mS v2 (by omega))⟩
