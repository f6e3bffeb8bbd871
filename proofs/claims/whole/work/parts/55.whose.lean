/-! PAIRS: whose, whoseWays -/
theorem lk_le {f : Nat → Int32} {N q p : Nat} : ∀ m, lk f N q p m ≤ lkA f N q m := by
  intro m
  induction m with
  | zero => exact Nat.le_refl _
  | succ m ih =>
    by_cases c : f (550 + 4 * m) = nI 2 ∧ vdd f m N = false
    · rw [lkA_a c]
      by_cases e : f (551 + 4 * m) = nI p
      · rw [lk_a ⟨c.1, e, c.2⟩]; omega
      · rw [lk_s (fun z => e z.2.1)]; omega
    · rw [lkA_s c, lk_s (fun z => c ⟨z.1, z.2.2⟩)]; exact ih
theorem lkA_le {f : Nat → Int32} {N n0 : Nat} (hB : ∀ i, i < n0 → BKi f i) : ∀ m, m ≤ n0 → lkA f N 553 m ≤ lkA f N 552 m ∧ lkA f N 552 m ≤ 60 * m := by
  intro m
  induction m with
  | zero => intro _; exact ⟨Nat.le_refl _, Nat.le_refl _⟩
  | succ m ih =>
    intro h
    have i := ih (by omega)
    by_cases c : f (550 + 4 * m) = nI 2 ∧ vdd f m N = false
    · rw [lkA_a c, lkA_a c]
      rcases hB m (by omega) with ⟨a, a1, a2, -⟩ | ⟨-, -, w, z, w1, w2, w3, w4⟩ | ⟨a2, -⟩
      · have := (nI_eq (by omega) (by omega)).mp (a2.symm.trans c.1); omega
      · rw [nv_of w3 (by omega), nv_of w4 (by omega)]; omega
      · have := (nI_eq (by omega) (by omega)).mp (a2.symm.trans c.1); omega
    · rw [lkA_s c, lkA_s c]; omega
/-- the model's false ones: m rows entered of N -/
def LF (G : sh_H) (f : Nat → Int32) (N m : Nat) : Prop := G.1 12 0 40 = nI (lkA f N 552 m) ∧ G.1 12 0 41 = nI (lkA f N 553 m) ∧ ∀ p, p < 5 → G.1 13 60 p = nI (lk f N 552 p m) ∧ G.1 13 61 p = nI (lk f N 553 p m)
theorem M_layF2 {hm : sh_H} {n0 n : Nat} (m0 : n0 ≤ 60) (m4 : ∀ i, i < n0 → BKi (mS hm) i) (hn : n ≤ n0) : ∀ (q i u : Nat) (G : sh_H), i + q = n → q < u → sM G hm → LF G (mS hm) n i → ∃ G', f_M_layFalse_l39 NF u (nI n) (nI i) G = some G' ∧ sM G' hm ∧ LF G' (mS hm) n n := by
  intro q
  induction q with
  | zero =>
    intro i u G e1 e2 x L
    obtain ⟨u, rfl⟩ : ∃ m, u = m + 1 := ⟨u - 1, by omega⟩
    obtain rfl : i = n := by omega
    refine ⟨G, ?_, x, L⟩
    show f_M_layFalse_c39 NF (f_M_layFalse_l39 NF u) (nI i) (nI i) G = _
    unfold f_M_layFalse_c39
    rw [if_neg (nI_nlt (by omega) (by omega))]
  | succ q ih =>
    intro i u G e1 e2 x L
    obtain ⟨u, rfl⟩ : ∃ m, u = m + 1 := ⟨u - 1, by omega⟩
    show ∃ G', f_M_layFalse_c39 NF (f_M_layFalse_l39 NF u) (nI n) (nI i) G = some G' ∧ _
    unfold f_M_layFalse_c39 f_M_layFalse_b156
    have b0 : (550 : Int32) + 4 * nI i = nI (550 + 4 * i) := by rw [show (550 : Int32) = nI 550 from rfl, show (4 : Int32) = nI 4 from rfl, q_mul, nI_add]
    have z0 : ai_in (nI (550 + 4 * i)) 8000 := in8 (by omega)
    have y0 : (nI (550 + 4 * i)).toNatClampNeg = 550 + 4 * i := cl8 (by omega)
    have f0 : G.1 13 46 (550 + 4 * i) = mS hm (550 + 4 * i) := x.mS _
    simp only [b0, if_pos z0, y0, f0, nI_1]
    rw [if_pos (nI_lt (by omega) (by omega))]
    have skip : ¬ (mS hm (550 + 4 * i) = nI 2 ∧ vdd (mS hm) i n = false) → LF G (mS hm) n (i + 1) := by
      intro c
      refine ⟨by rw [lkA_s c]; exact L.1, by rw [lkA_s c]; exact L.2.1, fun p hp => ?_⟩
      rw [lk_s (fun z => c ⟨z.1, z.2.2⟩), lk_s (fun z => c ⟨z.1, z.2.2⟩)]
      exact L.2.2 p hp
    by_cases c1 : mS hm (550 + 4 * i) = nI 2
    · rw [if_pos (show mS hm (550 + 4 * i) = 2 from c1), M_isLive x.mS m4 hn m0 (by omega), Option.bind_some]
      cases hv : vdd (mS hm) i n with
      | true =>
        rw [if_pos rfl, if_pos rfl]
        exact ih (i + 1) u G (by omega) (by omega) x (skip (fun q => by rw [hv] at q; exact absurd q.2 (by decide)))
      | false =>
        rw [if_neg (show ¬ false = true by decide), if_neg q_10]
        rcases m4 i (by omega) with ⟨a, a1, a2, -⟩ | ⟨-, ⟨p, ni, p1, p2, p3, p4, -⟩, w, z, w1, w2, w3, w4⟩ | ⟨a2, -⟩
        · have := (nI_eq (by omega) (by omega)).mp (a2.symm.trans c1); omega
        · have b1 : nI (550 + 4 * i) + 1 = nI (551 + 4 * i) := by rw [nI_1, show 550 + 4 * i + 1 = 551 + 4 * i by omega]
          have b2 : nI (550 + 4 * i) + 2 = nI (552 + 4 * i) := by rw [show (2 : Int32) = nI 2 from rfl, nI_add, show 550 + 4 * i + 2 = 552 + 4 * i by omega]
          have b3 : nI (550 + 4 * i) + 3 = nI (553 + 4 * i) := by rw [show (3 : Int32) = nI 3 from rfl, nI_add, show 550 + 4 * i + 3 = 553 + 4 * i by omega]
          have z1 : ai_in (nI (551 + 4 * i)) 8000 := in8 (by omega)
          have z2 : ai_in (nI (552 + 4 * i)) 8000 := in8 (by omega)
          have z3 : ai_in (nI (553 + 4 * i)) 8000 := in8 (by omega)
          have y1 : (nI (551 + 4 * i)).toNatClampNeg = 551 + 4 * i := cl8 (by omega)
          have y2 : (nI (552 + 4 * i)).toNatClampNeg = 552 + 4 * i := cl8 (by omega)
          have y3 : (nI (553 + 4 * i)).toNatClampNeg = 553 + 4 * i := cl8 (by omega)
          have ip : ai_in (nI p) 5 := q_in (by omega) (by omega)
          have yp : (nI p).toNatClampNeg = p := q_cl (by omega)
          have nw : nv (mS hm) (552 + 4 * i) = w := nv_of w3 (by omega)
          have nz : nv (mS hm) (553 + 4 * i) = z := nv_of w4 (by omega)
          obtain ⟨L1, L2, L3⟩ := L
          obtain ⟨L4, L5⟩ := L3 p (by omega)
          have x1 : sM (sh_pI G 12 0 40 (nI (lkA (mS hm) n 552 i + w))) hm := sM.pI (by unfold scM; omega) x
          have x2 : sM (sh_pI (sh_pI G 12 0 40 (nI (lkA (mS hm) n 552 i + w))) 12 0 41 (nI (lkA (mS hm) n 553 i + z))) hm := sM.pI (by unfold scM; omega) x1
          have x3 : sM (sh_pI (sh_pI (sh_pI G 12 0 40 (nI (lkA (mS hm) n 552 i + w))) 12 0 41 (nI (lkA (mS hm) n 553 i + z))) 13 60 p (nI (lk (mS hm) n 552 p i + w))) hm := sM.pI (by unfold scM; omega) x2
          have x4 : sM (sh_pI (sh_pI (sh_pI (sh_pI G 12 0 40 (nI (lkA (mS hm) n 552 i + w))) 12 0 41 (nI (lkA (mS hm) n 553 i + z))) 13 60 p (nI (lk (mS hm) n 552 p i + w))) 13 61 p (nI (lk (mS hm) n 553 p i + z))) hm := sM.pI (by unfold scM; omega) x3
          have f2 : G.1 13 46 (552 + 4 * i) = nI w := (x.mS _).trans w3
          have f3 : (sh_pI G 12 0 40 (nI (lkA (mS hm) n 552 i + w))).1 13 46 (553 + 4 * i) = nI z := (x1.mS _).trans w4
          have f4 : (sh_pI (sh_pI G 12 0 40 (nI (lkA (mS hm) n 552 i + w))) 12 0 41 (nI (lkA (mS hm) n 553 i + z))).1 13 46 (551 + 4 * i) = nI p := (x2.mS _).trans p4
          have f5 : (sh_pI (sh_pI G 12 0 40 (nI (lkA (mS hm) n 552 i + w))) 12 0 41 (nI (lkA (mS hm) n 553 i + z))).1 13 46 (552 + 4 * i) = nI w := (x2.mS _).trans w3
          have f6 : (sh_pI (sh_pI (sh_pI G 12 0 40 (nI (lkA (mS hm) n 552 i + w))) 12 0 41 (nI (lkA (mS hm) n 553 i + z))) 13 60 p (nI (lk (mS hm) n 552 p i + w))).1 13 46 (551 + 4 * i) = nI p := (x3.mS _).trans p4
          have f7 : (sh_pI (sh_pI (sh_pI G 12 0 40 (nI (lkA (mS hm) n 552 i + w))) 12 0 41 (nI (lkA (mS hm) n 553 i + z))) 13 60 p (nI (lk (mS hm) n 552 p i + w))).1 13 46 (553 + 4 * i) = nI z := (x3.mS _).trans w4
          have d1 : (sh_pI G 12 0 40 (nI (lkA (mS hm) n 552 i + w))).1 12 0 41 = nI (lkA (mS hm) n 553 i) := by rw [pI_ne (by omega)]; exact L2
          have d2 : (sh_pI (sh_pI G 12 0 40 (nI (lkA (mS hm) n 552 i + w))) 12 0 41 (nI (lkA (mS hm) n 553 i + z))).1 13 60 p = nI (lk (mS hm) n 552 p i) := by rw [pI_ne (by omega), pI_ne (by omega)]; exact L4
          have d3 : (sh_pI (sh_pI (sh_pI G 12 0 40 (nI (lkA (mS hm) n 552 i + w))) 12 0 41 (nI (lkA (mS hm) n 553 i + z))) 13 60 p (nI (lk (mS hm) n 552 p i + w))).1 13 61 p = nI (lk (mS hm) n 553 p i) := by rw [pI_ne (by omega), pI_ne (by omega), pI_ne (by omega)]; exact L5
          unfold f_M_layFalse_b91 f_M_layFalse_b108 f_M_layFalse_b132 f_M_layFalse_b156
          simp only [b1, b2, b3, if_pos z1, if_pos z2, if_pos z3, y1, y2, y3, f2, L1, nI_add, sh_let, f3, d1, f4, if_pos ip, yp, f5, d2, f6, f7, d3, nI_1]
          refine ih (i + 1) u _ (by omega) (by omega) x4 ⟨?_, ?_, fun p' hp' => ?_⟩
          · simp (disch := omega) only [pI_ne, pI_at]
            rw [lkA_a ⟨c1, hv⟩, nw]
          · simp (disch := omega) only [pI_ne, pI_at]
            rw [lkA_a ⟨c1, hv⟩, nz]
          · by_cases e : p' = p
            · subst e
              simp (disch := omega) only [pI_ne, pI_at]
              rw [lk_a ⟨c1, p4, hv⟩, lk_a ⟨c1, p4, hv⟩, nw, nz]
              exact ⟨rfl, rfl⟩
            · simp (disch := omega) only [pI_ne]
              rw [lk_s (fun q => nI_ne (fun z => e z.symm) (by omega) (by omega) (p4.symm.trans q.2.1)), lk_s (fun q => nI_ne (fun z => e z.symm) (by omega) (by omega) (p4.symm.trans q.2.1))]
              exact L3 p' hp'
        · have := (nI_eq (by omega) (by omega)).mp (a2.symm.trans c1); omega
    · rw [if_neg (show ¬ mS hm (550 + 4 * i) = 2 from c1)]
      exact ih (i + 1) u G (by omega) (by omega) x (skip (fun q => c1 q.1))
theorem M_layF1 {hm : sh_H} {n0 n : Nat} (m0 : n0 ≤ 60) (m4 : ∀ i, i < n0 → BKi (mS hm) i) (hn : n ≤ n0) : ∀ (q i u : Nat) (G : sh_H), i + q = 5 → q < u → sM G hm → G.1 12 0 40 = 0 → G.1 12 0 41 = 0 → (∀ p, p < i → G.1 13 60 p = 0 ∧ G.1 13 61 p = 0) → ∃ G', f_M_layFalse_l12 NF (f_M_layFalse_b37 NF) u (nI n) (nI i) G = some G' ∧ sM G' hm ∧ LF G' (mS hm) n n := by
  intro q
  induction q with
  | zero =>
    intro i u G e1 e2 x g1 g2 g3
    obtain ⟨u, rfl⟩ : ∃ m, u = m + 1 := ⟨u - 1, by omega⟩
    obtain rfl : i = 5 := by omega
    show ∃ G', f_M_layFalse_c12 NF (f_M_layFalse_b37 NF) (f_M_layFalse_l12 NF (f_M_layFalse_b37 NF) u) (nI n) (nI 5) G = some G' ∧ _
    unfold f_M_layFalse_c12 f_M_layFalse_b37
    rw [if_neg (show ¬ nI 5 < (5 : Int32) by decide)]
    exact M_layF2 m0 m4 hn n 0 NF G (by omega) (NF_gt (by omega)) x ⟨g1, g2, g3⟩
  | succ q ih =>
    intro i u G e1 e2 x g1 g2 g3
    obtain ⟨u, rfl⟩ : ∃ m, u = m + 1 := ⟨u - 1, by omega⟩
    show ∃ G', f_M_layFalse_c12 NF (f_M_layFalse_b37 NF) (f_M_layFalse_l12 NF (f_M_layFalse_b37 NF) u) (nI n) (nI i) G = some G' ∧ _
    unfold f_M_layFalse_c12
    have ei : ai_in (nI i) 5 := q_in (by omega) (by omega)
    have ej : (nI i).toNatClampNeg = i := q_cl (by omega)
    simp only [if_pos ei, ej, sh_let, nI_1]
    rw [if_pos (show nI i < (5 : Int32) from nI_lt (b := 5) (by omega) (by omega))]
    refine ih (i + 1) u _ (by omega) (by omega) (sM.pI (by unfold scM; omega) (sM.pI (by unfold scM; omega) x)) (by rw [pI_ne (by omega), pI_ne (by omega)]; exact g1) (by rw [pI_ne (by omega), pI_ne (by omega)]; exact g2) (fun p hp => ?_)
    by_cases e : p = i
    · subst e
      simp (disch := omega) only [pI_ne, pI_at, and_self]
    · simp (disch := omega) only [pI_ne]
      exact g3 p (by omega)
theorem M_layFalse {hm : sh_H} {n0 n : Nat} (m0 : n0 ≤ 60) (m4 : ∀ i, i < n0 → BKi (mS hm) i) (hn : n ≤ n0) : ∃ G, f_M_layFalse NF (nI n) hm = some G ∧ sM G hm ∧ LF G (mS hm) n n := by
  unfold f_M_layFalse
  rw [sh_let, sh_let]
  exact M_layF1 m0 m4 hn 5 0 NF _ (by omega) (NF_gt (by omega)) (sM.pI (by unfold scM; omega) (sM.pI (by unfold scM; omega) (sM.rf hm))) (by rw [pI_ne (by omega), pI_at]) (pI_at _ _ _ _ _) (fun p hp => by omega)
/-- the ways of place p: all, and as many false or more -/
def wAll (f : Nat → Int32) (n p : Nat) : Nat := wy (lkA f n 552 n) (lk f n 552 p n)
def wMore (f : Nat → Int32) (n p : Nat) : Nat := fw (lkA f n 553 n) (lkA f n 552 n - lkA f n 553 n) (lk f n 552 p n) (lkA f n 553 n + 1 - lk f n 553 p n) (lk f n 553 p n)
theorem LD_seen {H : sh_H} {f : Nat → Int32} {N m i : Nat} (hC : RC H) (hL : LD H f N m i) {p : Nat} (hp : p < 5) : f_Ledger_seen (nI p) H = some (nI (lk f N 552 p m)) ∧ f_Rows_get 31 (nI p) 1 H = some (nI (lk f N 553 p m)) := by
  have g := fun b => rows_get (r := 31) (s := 5) (a := p) (b := b) hC (by omega) hL.2.2.1 (by decide) (by omega)
  have g0 := g 0 (by omega)
  have g1 := g 1 (by omega)
  rw [if_pos ⟨hp, by decide⟩] at g0 g1
  constructor
  · unfold f_Ledger_seen
    rw [show f_Rows_get 31 (nI p) 0 H = _ from g0, Option.bind_some]
    exact congrArg some (hL.2.2.2.2.2.2.1 p hp).1
  · rw [show f_Rows_get 31 (nI p) 1 H = _ from g1]
    exact congrArg some (hL.2.2.2.2.2.2.1 p hp).2
theorem C_all {H : sh_H} {f : Nat → Int32} {n : Nat} (hC : RC H) (hL : LD H f n n n) (hA : lkA f n 552 n < 61) {p : Nat} (hp : p < 5) : f_Ledger_waysOfAll NF (nI p) H = some (lN (wAll f n p)) := by
  unfold f_Ledger_waysOfAll
  have := lk_le (f := f) (N := n) (q := 552) (p := p) n
  rw [(LD_seen hC hL hp).1, Option.bind_some, hL.2.2.2.2.2.2.2.1, C_ways (by omega) (by omega), Option.bind_some]
  rfl
theorem C_more {H : sh_H} {f : Nat → Int32} {n n0 : Nat} (hC : RC H) (hL : LD H f n n n) (hA : lkA f n 552 n < 61) (m4 : ∀ i, i < n0 → BKi f i) (hn : n ≤ n0) {p : Nat} (hp : p < 5) : f_Ledger_waysOfMore NF (nI p) H = some (lN (wMore f n p)) := by
  have l1 := lk_le (f := f) (N := n) (q := 552) (p := p) n
  have l2 := lk_le (f := f) (N := n) (q := 553) (p := p) n
  have l3 := (lkA_le (N := n) m4 n hn).1
  have lp : ∀ (q j u A : Nat), j + q = lkA f n 553 n + 1 → q < u → f_Ledger_waysOfMore_l19 NF (f_Ledger_waysOfMore_b63 NF) u (nI (lk f n 552 p n)) (lN A) (nI j) H = some (lN (A + fw (lkA f n 553 n) (lkA f n 552 n - lkA f n 553 n) (lk f n 552 p n) q j)) := by
    intro q
    induction q with
    | zero =>
      intro j u A e1 e2
      obtain ⟨u, rfl⟩ : ∃ m, u = m + 1 := ⟨u - 1, by omega⟩
      show f_Ledger_waysOfMore_c19 NF (f_Ledger_waysOfMore_b63 NF) (f_Ledger_waysOfMore_l19 NF (f_Ledger_waysOfMore_b63 NF) u) (nI (lk f n 552 p n)) (lN A) (nI j) H = _
      unfold f_Ledger_waysOfMore_c19 f_Ledger_waysOfMore_b63
      rw [hL.2.2.2.2.2.2.2.2.1, if_pos (nI_lt (by omega) (by omega))]
      rfl
    | succ q ih =>
      intro j u A e1 e2
      obtain ⟨u, rfl⟩ : ∃ m, u = m + 1 := ⟨u - 1, by omega⟩
      show f_Ledger_waysOfMore_c19 NF (f_Ledger_waysOfMore_b63 NF) (f_Ledger_waysOfMore_l19 NF (f_Ledger_waysOfMore_b63 NF) u) (nI (lk f n 552 p n)) (lN A) (nI j) H = some (lN (A + (wy (lkA f n 553 n) j * (if lk f n 552 p n < j then 0 else wy (lkA f n 552 n - lkA f n 553 n) (lk f n 552 p n - j)) + fw (lkA f n 553 n) (lkA f n 552 n - lkA f n 553 n) (lk f n 552 p n) q (j + 1))))
      unfold f_Ledger_waysOfMore_c19
      rw [hL.2.2.2.2.2.2.2.2.1, hL.2.2.2.2.2.2.2.1, if_neg (nI_nlt (by omega) (by omega)), C_ways (by omega) (by omega), Option.bind_some, q_sub (by omega), ← Nat.add_assoc]
      by_cases e : lk f n 552 p n < j
      · rw [C_ways_neg (pk_sneg (by omega) e), Option.bind_some, if_pos e, lN_mul, lN_add, nI_1]
        exact ih (j + 1) u _ (by omega) (by omega)
      · rw [q_sub (by omega), C_ways (by omega) (by omega), Option.bind_some, if_neg e, lN_mul, lN_add, nI_1]
        exact ih (j + 1) u _ (by omega) (by omega)
  unfold f_Ledger_waysOfMore
  rw [(LD_seen hC hL hp).1, Option.bind_some, (LD_seen hC hL hp).2, Option.bind_some]
  have := lp (lkA f n 553 n + 1 - lk f n 553 p n) (lk f n 553 p n) NF 0 (by omega) (NF_gt (by omega))
  rw [Nat.zero_add] at this
  exact this
theorem M_more {G : sh_H} {f : Nat → Int32} {n n0 : Nat} (hL : LF G f n n) (hA : lkA f n 552 n < 61) (m4 : ∀ i, i < n0 → BKi f i) (hn : n ≤ n0) {p : Nat} (hp : p < 5) : f_M_falseWays NF (nI p) G = some (lN (wMore f n p)) := by
  have l1 := lk_le (f := f) (N := n) (q := 552) (p := p) n
  have l2 := lk_le (f := f) (N := n) (q := 553) (p := p) n
  have l3 := (lkA_le (N := n) m4 n hn).1
  have ip : ai_in (nI p) 5 := q_in (by omega) (by omega)
  have yp : (nI p).toNatClampNeg = p := q_cl (by omega)
  obtain ⟨L1, L2, L3⟩ := hL
  obtain ⟨L4, L5⟩ := L3 p hp
  have lp : ∀ (q j u A : Nat), j + q = lkA f n 553 n + 1 → q < u → f_M_falseWays_l10 NF (f_M_falseWays_b70 NF) u (nI p) (lN A) (nI j) G = some (lN (A + fw (lkA f n 553 n) (lkA f n 552 n - lkA f n 553 n) (lk f n 552 p n) q j)) := by
    intro q
    induction q with
    | zero =>
      intro j u A e1 e2
      obtain ⟨u, rfl⟩ : ∃ m, u = m + 1 := ⟨u - 1, by omega⟩
      show f_M_falseWays_c10 NF (f_M_falseWays_b70 NF) (f_M_falseWays_l10 NF (f_M_falseWays_b70 NF) u) (nI p) (lN A) (nI j) G = _
      unfold f_M_falseWays_c10 f_M_falseWays_b70
      rw [L2, if_pos (nI_lt (by omega) (by omega))]
      rfl
    | succ q ih =>
      intro j u A e1 e2
      obtain ⟨u, rfl⟩ : ∃ m, u = m + 1 := ⟨u - 1, by omega⟩
      show f_M_falseWays_c10 NF (f_M_falseWays_b70 NF) (f_M_falseWays_l10 NF (f_M_falseWays_b70 NF) u) (nI p) (lN A) (nI j) G = _
      unfold f_M_falseWays_c10 f_M_falseWays_b70
      simp only [L1, L2, if_pos ip, yp, L4]
      rw [if_neg (nI_nlt (by omega) (by omega))]
      by_cases e : lk f n 552 p n < j
      · rw [if_pos (nI_lt e (by omega)), fw_0 e, Nat.add_zero]
      · rw [if_neg (nI_nlt (by omega) (by omega)), M_chosen (by omega) (by omega), Option.bind_some, q_sub (by omega), q_sub (by omega), M_chosen (by omega) (by omega), Option.bind_some, lN_mul, lN_add, nI_1]
        have := ih (j + 1) u (A + wy (lkA f n 553 n) j * wy (lkA f n 552 n - lkA f n 553 n) (lk f n 552 p n - j)) (by omega) (by omega)
        refine this.trans ?_
        show _ = some (lN (A + (wy (lkA f n 553 n) j * (if lk f n 552 p n < j then 0 else wy (lkA f n 552 n - lkA f n 553 n) (lk f n 552 p n - j)) + fw (lkA f n 553 n) (lkA f n 552 n - lkA f n 553 n) (lk f n 552 p n) q (j + 1))))
        rw [if_neg e, Nat.add_assoc]
  unfold f_M_falseWays
  rw [if_pos ip, yp, L5]
  have := lp (lkA f n 553 n + 1 - lk f n 553 p n) (lk f n 553 p n) NF 0 (by omega) (NF_gt (by omega))
  rw [Nat.zero_add] at this
  exact this
