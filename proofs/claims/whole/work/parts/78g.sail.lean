/-! PAIR: months: the boats' costs -/
theorem bof_to {f g : Nat → Int32} {p m : Int32} : ∀ {n i : Nat}, (∀ b, i ≤ b → b < i + n → g (250 + 5 * b) = f (250 + 5 * b) ∧ g (251 + 5 * b) = f (251 + 5 * b)) → bof g p m n i = bof f p m n i := by
  intro n
  induction n with
  | zero => intro i _; rfl
  | succ n ih =>
    intro i h
    obtain ⟨e1, e2⟩ := h i (Nat.le_refl _) (by omega)
    unfold bof
    rw [e1, e2, ih (fun b h1 h2 => h b (by omega) (by omega))]
theorem bt_to {f g : Nat → Int32} (h : IT f) (e : ∀ k, k < 310 → g k = f k) (p m : Int32) : bt g p m = bt f p m := by
  obtain ⟨n, n1, n2, -⟩ := h.2.2.2.2.2.2
  unfold bt
  rw [nv_to (e 6 (by omega)), nv_of n2 (by omega)]
  exact bof_to (fun b h1 h2 => ⟨e _ (by omega), e _ (by omega)⟩)
theorem LR_to {f g : Nat → Int32} (h : IT f) (e : ∀ k, k < 310 → g k = f k) {m : Nat} {L : Nat → Nat} {H : sh_H} (lr : LR f m L H) : LR g m L H := by
  refine ⟨lr.1, fun b hb => ?_⟩
  rw [lr.2 b hb, e (250 + 5 * b) (by omega), bt_to h e, nv_to (e (250 + 5 * b) (by omega))]
/-- what a boat is loaded with -/
def ldB (f : Nat → Int32) (m : Nat) (L : Nat → Nat) (b : Nat) : Nat := if bt f (f (250 + 5 * b)) (nI m) = some b then L (nv f (250 + 5 * b)) else 0
def gB (f : Nat → Int32) (m : Nat) (L : Nat → Nat) (b : Nat) : Nat := if 0 < ldB f m L b then nv f (253 + 5 * b) else 0
def hPn (f : Nat → Int32) (m : Nat) (L : Nat → Nat) (n p : Nat) : Nat := if 0 < L p then (match bt f (nI p) (nI m) with | some b => if b < n then nv f (253 + 5 * b) else 0 | none => 0) else 0
theorem hPn_z {f : Nat → Int32} {m n p : Nat} {L : Nat → Nat} (h : ¬ 0 < L p) : hPn f m L n p = 0 := if_neg h
theorem hPn_s {f : Nat → Int32} {m n p b : Nat} {L : Nat → Nat} (h : 0 < L p) (e : bt f (nI p) (nI m) = some b) : hPn f m L n p = if b < n then nv f (253 + 5 * b) else 0 := by
  unfold hPn
  rw [if_pos h, e]
theorem hPn_n {f : Nat → Int32} {m n p : Nat} {L : Nat → Nat} (e : bt f (nI p) (nI m) = none) : hPn f m L n p = 0 := by
  unfold hPn
  rw [e]
  split <;> rfl
theorem cost_eq {f : Nat → Int32} {m nb : Nat} {L : Nat → Nat} (h : IT f) (hb : f 6 = nI nb) (nb12 : nb ≤ 12) : ∀ n, n ≤ nb → sumN (gB f m L) n = sumN (hPn f m L n) 5 := by
  obtain ⟨nb', n1, n2, n3⟩ := h.2.2.2.2.2.2
  obtain rfl : nb' = nb := (nI_eq (by omega) (by omega)).mp (n2.symm.trans hb)
  have bp : ∀ p b, p < 5 → bt f (nI p) (nI m) = some b → f (250 + 5 * b) = nI p := fun p b hp e => by
    unfold bt at e
    exact (bof_some e).2.2.1
  intro n
  induction n with
  | zero =>
    intro _
    show 0 = _
    rw [sumN_cg (g' := fun _ => 0) (fun p hp => ?_), sumN_0]
    by_cases y : 0 < L p
    · cases e : bt f (nI p) (nI m) with
      | none => exact hPn_n e
      | some b => rw [hPn_s y e]; exact if_neg (Nat.not_lt_zero _)
    · exact hPn_z y
  | succ n ih =>
    intro hn
    obtain ⟨q, q1, q5, eq, -⟩ := pl_n (n3 n (by omega)).1
    have i := ih (by omega)
    show sumN (gB f m L) n + gB f m L n = _
    rw [i]
    by_cases z : bt f (nI q) (nI m) = some n ∧ 0 < L q
    · obtain ⟨z1, z2⟩ := z
      have g1 : gB f m L n = nv f (253 + 5 * n) := by
        unfold gB ldB
        rw [eq, if_pos z1, nv_of eq (by omega), if_pos z2]
      have e : sumN (hPn f m L (n + 1)) 5 = sumN (up0 (hPn f m L n) q (nv f (253 + 5 * n))) 5 := sumN_cg (fun p hp => by
        unfold up0
        by_cases y : p = q
        · rw [if_pos y, y, hPn_s z2 z1, if_pos (by omega)]
        · rw [if_neg y]
          by_cases w : 0 < L p
          · cases eb : bt f (nI p) (nI m) with
            | none => rw [hPn_n eb, hPn_n eb]
            | some b =>
              have : b ≠ n := fun bn => y (by
                have := bp p b hp eb
                rw [bn, eq] at this
                exact ((nI_eq (by omega) (by omega)).mp this).symm)
              rw [hPn_s w eb, hPn_s w eb]
              by_cases v : b < n
              · rw [if_pos v, if_pos (by omega)]
              · rw [if_neg v, if_neg (by omega)]
          · rw [hPn_z w, hPn_z w])
      have s := sumN_put (hPn f m L n) q (nv f (253 + 5 * n)) 5
      rw [if_pos q5, if_pos q5, hPn_s z2 z1, if_neg (Nat.lt_irrefl n)] at s
      rw [g1, e]
      exact s.symm
    · have g1 : gB f m L n = 0 := by
        unfold gB ldB
        rw [eq, nv_of eq (by omega)]
        by_cases w : bt f (nI q) (nI m) = some n
        · rw [if_pos w, if_neg (fun y => z ⟨w, y⟩)]
        · rw [if_neg w]; rfl
      rw [g1, Nat.add_zero]
      refine sumN_cg (fun p hp => ?_)
      by_cases w : 0 < L p
      · cases eb : bt f (nI p) (nI m) with
        | none => rw [hPn_n eb, hPn_n eb]
        | some b =>
          have : b ≠ n := fun bn => by
            have e := bp p b hp eb
            rw [bn, eq] at e
            have e' := (nI_eq (by omega) (by omega)).mp e
            exact z ⟨by rw [e', eb, bn], by rw [e']; exact w⟩
          rw [hPn_s w eb, hPn_s w eb]
          by_cases v : b < n
          · rw [if_pos v, if_pos (by omega)]
          · rw [if_neg v, if_neg (by omega)]
      · rw [hPn_z w, hPn_z w]
theorem pJ_id {h : sh_H} {c i j : Nat} {v : Int64} (e : v = h.2.1 c i j) : sh_pJ h c i j v = h := by
  refine Prod.ext rfl (Prod.ext ?_ rfl)
  funext c' i' j'
  rw [pJ_2]
  by_cases z : c' = c ∧ i' = i ∧ j' = j
  · rw [if_pos z, e, z.1, z.2.1, z.2.2]
  · rw [if_neg z]
theorem pJ_pJ {h : sh_H} {c i j : Nat} {v w : Int64} : sh_pJ (sh_pJ h c i j v) c i j w = sh_pJ h c i j w := by
  refine Prod.ext rfl (Prod.ext ?_ rfl)
  funext c' i' j'
  rw [pJ_2, pJ_2, pJ_2]
  by_cases z : c' = c ∧ i' = i ∧ j' = j
  · rw [if_pos z, if_pos z]
  · rw [if_neg z, if_neg z, if_neg z]
theorem get_pJ {r : Nat} {a b : Int32} {h : sh_H} {c i j : Nat} {v : Int64} : f_Rows_get r a b (sh_pJ h c i j v) = f_Rows_get r a b h := rfl
theorem C_costs {c : Nat} {hc hm : sh_H} (h : St c hc hm) {m : Nat} {L : Nat → Nat} (hL : ∀ p, p < 5 → L p ≤ 999) (lr : LR (mS hm) m L hc) {nb : Nat} (hb : mS hm 6 = nI nb) (nb12 : nb ≤ 12) : f_Calendar_sail_b96 NF hc.2.2.1 0 hc = some (sh_pJ hc 7 0 6 (hc.2.1 7 0 6 + lN (sumN (gB (mS hm) m L) nb))) := by
  obtain ⟨nb', n1, n2, n3⟩ := (St_T h).2.2.2.2.2.2
  obtain rfl : nb' = nb := (nI_eq (by omega) (by omega)).mp (n2.symm.trans hb)
  have z6 : hc.1 6 (7 * hc.2.2.1 + 6) 3 = nI nb' := (St_z h 6 (by omega)).trans hb
  have lp : ∀ (q b u : Nat), b + q = nb' → q < u → f_Calendar_sail_l99 NF u hc.2.2.1 0 (nI b) (sh_pJ hc 7 0 6 (hc.2.1 7 0 6 + lN (sumN (gB (mS hm) m L) b))) = some (sh_pJ hc 7 0 6 (hc.2.1 7 0 6 + lN (sumN (gB (mS hm) m L) nb'))) := by
    intro q
    induction q with
    | zero =>
      intro b u e1 e2
      obtain ⟨u, rfl⟩ : ∃ m, u = m + 1 := ⟨u - 1, by omega⟩
      obtain rfl : b = nb' := by omega
      show f_Calendar_sail_c99 NF (f_Calendar_sail_l99 NF u) hc.2.2.1 0 (nI b) _ = _
      unfold f_Calendar_sail_c99 f_Rows_size
      rw [show (sh_pJ hc 7 0 6 (hc.2.1 7 0 6 + lN (sumN (gB (mS hm) m L) b))).1 6 (7 * hc.2.2.1 + 6) 3 = nI b from z6, Option.bind_some, if_neg (nI_nlt (by omega) (by omega))]
    | succ q ih =>
      intro b u e1 e2
      obtain ⟨u, rfl⟩ : ∃ m, u = m + 1 := ⟨u - 1, by omega⟩
      obtain ⟨pl1, -, -, ⟨cv, -, cv2, cv3⟩, -⟩ := n3 b (by omega)
      obtain ⟨p, p1, p5, ep, -⟩ := pl_n pl1
      have ec : nv (mS hm) (253 + 5 * b) = cv := nv_of cv3 (by omega)
      have cg : f_Rows_get (7 * hc.2.2.1 + 6) (nI b) 3 hc = some (nI cv) := (tx_get h (j := 6) (r := b) (q := 3) (by omega) hb (by omega) (by omega) (by omega) (by decide) (by decide)).trans (by show some (mS hm (250 + 5 * b + 3)) = _; rw [show 250 + 5 * b + 3 = 253 + 5 * b by omega, cv3])
      have lg : f_Rows_get 26 (nI b) 0 hc = some (nI (ldB (mS hm) m L b)) := by
        have a := rows_get (r := 26) (s := 12) (a := b) (b := 0) h.1 (by omega) lr.1 (by decide) (by omega) (by omega)
        rw [if_pos ⟨by omega, by decide⟩] at a
        refine a.trans (congrArg some ?_)
        show hc.1 13 32 (b * 1 + 0) = _
        rw [Nat.mul_one, Nat.add_zero, lr.2 b (by omega)]
        rfl
      have l9 : ldB (mS hm) m L b ≤ 999 := by
        unfold ldB
        rw [nv_of ep (by omega)]
        split
        · exact hL p p5
        · omega
      show f_Calendar_sail_c99 NF (f_Calendar_sail_l99 NF u) hc.2.2.1 0 (nI b) _ = _
      unfold f_Calendar_sail_c99 f_Rows_size f_Calendar_sail_b144
      rw [show (sh_pJ hc 7 0 6 (hc.2.1 7 0 6 + lN (sumN (gB (mS hm) m L) b))).1 6 (7 * hc.2.2.1 + 6) 3 = nI nb' from z6, Option.bind_some, if_pos (nI_lt (by omega) (by omega)), get_pJ, lg, Option.bind_some, nI_1]
      have i := ih (b + 1) u (by omega) (by omega)
      have su : sumN (gB (mS hm) m L) (b + 1) = sumN (gB (mS hm) m L) b + gB (mS hm) m L b := rfl
      by_cases z : 0 < ldB (mS hm) m L b
      · have g1 : gB (mS hm) m L b = cv := by unfold gB; rw [if_pos z, ec]
        rw [if_pos (show (0 : Int32) < nI (ldB (mS hm) m L b) from nI_lt (a := 0) z (by omega)), get_pJ, cg, Option.bind_some, sh_let, nI_l (by omega), pJ_pJ]
        rw [su, g1, ← lN_add, ← Int64.add_assoc] at i
        rw [show (sh_pJ hc 7 0 6 (hc.2.1 7 0 6 + lN (sumN (gB (mS hm) m L) b))).2.1 7 0 6 = hc.2.1 7 0 6 + lN (sumN (gB (mS hm) m L) b) by rw [pJ_2, if_pos ⟨rfl, rfl, rfl⟩]]
        exact i
      · have g1 : gB (mS hm) m L b = 0 := if_neg z
        rw [if_neg (show ¬ (0 : Int32) < nI (ldB (mS hm) m L b) from nI_nlt (a := 0) (by omega) (by omega))]
        rw [su, g1, Nat.add_zero] at i
        exact i
  unfold f_Calendar_sail_b96
  have o := lp nb' 0 NF (by omega) (NF_gt (by omega))
  rw [pJ_id (h := hc) (c := 7) (i := 0) (j := 6) (by show hc.2.1 7 0 6 + 0 = _; rw [Int64.add_zero])] at o
  exact o
theorem M_costs {c : Nat} {hc hm : sh_H} (h : St c hc hm) {t : Nat} (ht2 : t ≤ 240) {L : Nat → Nat} (hL : ∀ p, p < 5 → L p ≤ 999) (ml : ∀ p, p < 5 → hm.1 13 52 p = nI (L p)) (hbo : ∀ p, p < 5 → 0 < L p → 1 ≤ p ∧ ∃ b, bt (mS hm) (nI p) (nI (t % 12)) = some b) {nb : Nat} (hb : mS hm 6 = nI nb) (nb12 : nb ≤ 12) : f_M_sends_b267 NF (nI t) hm = some (sh_pJ hm 14 6 1 (hm.2.1 14 6 1 + lN (sumN (hPn (mS hm) (t % 12) L nb) 5))) := by
  have i1 : ai_in (1 : Int32) 12 := q_in (k := 1) (n := 12) (by omega) (by omega)
  have lp : ∀ (q p u : Nat), p + q = 5 → q < u → f_M_sends_l269 NF u (nI t) (nI p) (sh_pJ hm 14 6 1 (hm.2.1 14 6 1 + lN (sumN (hPn (mS hm) (t % 12) L nb) p))) = some (sh_pJ hm 14 6 1 (hm.2.1 14 6 1 + lN (sumN (hPn (mS hm) (t % 12) L nb) 5))) := by
    intro q
    induction q with
    | zero =>
      intro p u e1 e2
      obtain ⟨u, rfl⟩ : ∃ m, u = m + 1 := ⟨u - 1, by omega⟩
      obtain rfl : p = 5 := by omega
      show f_M_sends_c269 NF (f_M_sends_l269 NF u) (nI t) (nI 5) _ = _
      unfold f_M_sends_c269
      rw [if_neg (show ¬ nI 5 < 5 by decide)]
    | succ q ih =>
      intro p u e1 e2
      obtain ⟨u, rfl⟩ : ∃ m, u = m + 1 := ⟨u - 1, by omega⟩
      have lv : (sh_pJ hm 14 6 1 (hm.2.1 14 6 1 + lN (sumN (hPn (mS hm) (t % 12) L nb) p))).1 13 52 (nI p).toNatClampNeg = nI (L p) := by rw [q_cl (by omega)]; exact ml p (by omega)
      have l9 := hL p (by omega)
      have i := ih (p + 1) u (by omega) (by omega)
      have su : sumN (hPn (mS hm) (t % 12) L nb) (p + 1) = sumN (hPn (mS hm) (t % 12) L nb) p + hPn (mS hm) (t % 12) L nb p := rfl
      show f_M_sends_c269 NF (f_M_sends_l269 NF u) (nI t) (nI p) _ = _
      unfold f_M_sends_c269 f_M_sends_b315
      rw [if_pos (show nI p < 5 from nI_lt (b := 5) (by omega) (by omega)), if_pos (q_in (k := p) (n := 5) (by omega) (by omega)), lv, nI_1]
      by_cases z : 0 < L p
      · obtain ⟨p1, b, eb⟩ := hbo p (by omega) z
        obtain ⟨b1, b2, -, -, ⟨b6, b7⟩, -, -⟩ := T_boat h eb
        have bb : b < nb := by
          have e := eb
          unfold bt at e
          rw [nv_of hb (by omega)] at e
          have := (bof_some e).2.1
          omega
        have g1 : hPn (mS hm) (t % 12) L nb p = nv (mS hm) (253 + 5 * b) := by rw [hPn_s z eb, if_pos bb]
        have bo : f_M_boatOf NF (nI p) (nI (t % 12)) (sh_pJ hm 14 6 1 (hm.2.1 14 6 1 + lN (sumN (hPn (mS hm) (t % 12) L nb) p))) = some (oI2 (bt (mS hm) (nI p) (nI (t % 12))) (-2)) := M_boatOf (hm := sh_pJ hm 14 6 1 (hm.2.1 14 6 1 + lN (sumN (hPn (mS hm) (t % 12) L nb) p))) (show IT (mS hm) from St_T h) (nI p) (nI (t % 12))
        have ar : (250 : Int32) + 5 * nI b + 3 = nI (253 + 5 * b) := by rw [show (250 : Int32) = nI 250 from rfl, show (5 : Int32) = nI 5 from rfl, q_mul, nI_add, show (3 : Int32) = nI 3 from rfl, nI_add]; congr 1; omega
        have vr : (sh_pJ hm 14 6 1 (hm.2.1 14 6 1 + lN (sumN (hPn (mS hm) (t % 12) L nb) p))).1 13 46 (nI (253 + 5 * b)).toNatClampNeg = nI (nv (mS hm) (253 + 5 * b)) := by rw [cl8 (by omega)]; exact b6
        rw [if_pos (show (0 : Int32) < nI (L p) from nI_lt (a := 0) z (by omega)), if_pos i1, if_pos n12, q_m12 (by omega), bo, eb, Option.bind_some, show oI2 (some b) (-2) = nI b from rfl, ar, if_pos (in8 (by omega)), if_pos i1, vr, sh_let, nI_l (by omega), show (1 : Int32).toNatClampNeg = 1 from rfl, pJ_pJ]
        rw [su, g1, ← lN_add, ← Int64.add_assoc] at i
        rw [show (sh_pJ hm 14 6 1 (hm.2.1 14 6 1 + lN (sumN (hPn (mS hm) (t % 12) L nb) p))).2.1 14 6 1 = hm.2.1 14 6 1 + lN (sumN (hPn (mS hm) (t % 12) L nb) p) by rw [pJ_2, if_pos ⟨rfl, rfl, rfl⟩]]
        exact i
      · rw [if_neg (show ¬ (0 : Int32) < nI (L p) from nI_nlt (a := 0) (by omega) (by omega))]
        rw [su, hPn_z z, Nat.add_zero] at i
        exact i
  unfold f_M_sends_b267
  have l0 : hPn (mS hm) (t % 12) L nb 0 = 0 := hPn_z (fun z => by have := (hbo 0 (by omega) z).1; omega)
  have o := lp 4 1 NF (by omega) (NF_gt (by omega))
  have s1 : sumN (hPn (mS hm) (t % 12) L nb) 1 = 0 := by show 0 + hPn (mS hm) (t % 12) L nb 0 = 0; rw [l0]
  rw [s1, pJ_id (h := hm) (c := 14) (i := 6) (j := 1) (by show hm.2.1 14 6 1 + 0 = _; rw [Int64.add_zero])] at o
  exact o
