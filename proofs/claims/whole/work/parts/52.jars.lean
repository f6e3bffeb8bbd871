/-! PAIRS: jars, ends -/
def rst (a l : Nat) : Nat := a - a * l / 10
def dst (x y : Nat) : Nat := if y < x then x - y else y - x
def du (f : Nat → Int32) (n p b k l j : Nat) : Nat := if nv f (20 + 3 * j) < b then rst (rst (bk f n 0 p j n) l) k else rst (bk f n 0 p j n) l
def ofs (f : Nat → Int32) (n p b k l : Nat) : Nat → Nat
  | 0 => 0
  | j + 1 => ofs f n p b k l j + dst (du f n p b k l j) (bk f n 1 p j n)
theorem rst_le (a l : Nat) : rst a l ≤ a := Nat.sub_le _ _
theorem bk_le {f : Nat → Int32} {n0 N s p k : Nat} (hB : ∀ i, i < n0 → BKi f i) (hs : s < 2) : ∀ m, m ≤ n0 → bk f N s p k m ≤ 9999 * m := by
  intro m
  induction m with
  | zero => intro _; exact Nat.le_refl _
  | succ m ih =>
    intro h
    have i := ih (by omega)
    by_cases c : f (550 + 4 * m) = nI s ∧ f (551 + 4 * m) = nI p ∧ f (552 + 4 * m) = nI k ∧ vdd f m N = false
    · rw [bk_a c]
      rcases hB m (by omega) with ⟨a, a1, a2, a3, a4, x, -, x2, x3⟩ | ⟨a2, -⟩ | ⟨a2, -⟩
      · rw [nv_of x3 (by omega)]; omega
      · have := (nI_eq (by omega) (by omega)).mp (a2.symm.trans c.1); omega
      · have := (nI_eq (by omega) (by omega)).mp (a2.symm.trans c.1); omega
    · rw [bk_s c]; omega
theorem rst_I {a l : Nat} (ha : a ≤ 600000) (hl : l ≤ 10) : nI a - nI a * nI l / 10 = nI (rst a l) := by
  have h1 : a * l ≤ 600000 * 10 := Nat.mul_le_mul ha hl
  have h2 : a * l ≤ a * 10 := Nat.mul_le_mul_left a hl
  rw [q_mul, show (10 : Int32) = nI 10 from rfl, pk_div (by omega) (by omega) (by omega), q_sub (by omega)]
  rfl
theorem Math_abs {d c : Nat} (hd : d < 2 ^ 30) (hc : c < 2 ^ 30) (h : sh_H) : f_Math_abs (nI d - nI c) h = some (nI (dst d c)) := by
  unfold f_Math_abs dst
  by_cases e : c ≤ d
  · rw [q_sub e, if_neg (nI_pos (by omega))]
    by_cases e2 : c < d
    · rw [if_pos e2]
    · rw [if_neg e2, show d - c = c - d by omega]
  · rw [if_pos (pk_sneg hc (by omega)), if_neg (by omega), Int32.neg_sub, q_sub (by omega)]
theorem dst_le (x y : Nat) : dst x y ≤ x + y := by unfold dst; split <;> omega
theorem du_le (f : Nat → Int32) (n p b k l j : Nat) : du f n p b k l j ≤ bk f n 0 p j n := by
  unfold du
  split
  · exact Nat.le_trans (rst_le _ _) (rst_le _ _)
  · exact rst_le _ _
theorem ofs_le {f : Nat → Int32} {n0 n : Nat} (hB : ∀ i, i < n0 → BKi f i) (hn : n ≤ n0) (hn2 : n0 ≤ 60) (p b k l : Nat) : ∀ j, ofs f n p b k l j ≤ 1200000 * j := by
  intro j
  induction j with
  | zero => exact Nat.le_refl _
  | succ j ih =>
    have h0 := bk_le (N := n) (p := p) (k := j) hB (show 0 < 2 by omega) n hn
    have h1 := bk_le (N := n) (p := p) (k := j) hB (show 1 < 2 by omega) n hn
    have h2 := du_le f n p b k l j
    have h3 := dst_le (du f n p b k l j) (bk f n 1 p j n)
    show ofs f n p b k l j + dst _ _ ≤ _
    omega
theorem C_off {c : Nat} {hc hm E : sh_H} (h : St c hc hm) (E2 : sC E hc) {n0 n nk : Nat} (m2 : mS hm 8 = nI n0) (m0 : n0 ≤ 60) (m4 : ∀ i, i < n0 → BKi (mS hm) i) (hn : n ≤ n0) (k2 : mS hm 0 = nI nk) (k1 : nk ≤ 6) (k3 : ∀ r, r < nk → rg (mS hm) (20 + 3 * r) 1 500) (E3 : LD E (mS hm) n n n) {p b k l : Nat} (hp : p < 5) (hb : b ≤ 501) (hk : k ≤ 10) (hl : l ≤ 10) : f_Ledger_off NF hc.2.2.1 (nI p) (nI b) (nI k) (nI l) E = some (nI (ofs (mS hm) n p b k l nk)) := by
  have hE := St_sC E2 h
  have tE : E.2.2.1 = hc.2.2.1 := E2.tx
  have z0 : E.1 6 (7 * hc.2.2.1 + 0) 3 = nI nk := by rw [← tE]; exact (St_z hE 0 (by omega)).trans k2
  have lp : ∀ (q j u : Nat), j + q = nk → q < u → f_Ledger_off_l6 NF u hc.2.2.1 (nI p) (nI b) (nI k) (nI l) (nI (ofs (mS hm) n p b k l j)) (nI j) E = some (nI (ofs (mS hm) n p b k l nk)) := by
    intro q
    induction q with
    | zero =>
      intro j u e1 e2
      obtain ⟨u, rfl⟩ : ∃ m, u = m + 1 := ⟨u - 1, by omega⟩
      obtain rfl : j = nk := by omega
      show f_Ledger_off_c6 NF (f_Ledger_off_l6 NF u) hc.2.2.1 (nI p) (nI b) (nI k) (nI l) _ (nI j) E = _
      unfold f_Ledger_off_c6 f_Rows_size
      rw [z0, Option.bind_some, if_neg (nI_nlt (by omega) (by omega))]
    | succ q ih =>
      intro j u e1 e2
      obtain ⟨u, rfl⟩ : ∃ m, u = m + 1 := ⟨u - 1, by omega⟩
      show f_Ledger_off_c6 NF (f_Ledger_off_l6 NF u) hc.2.2.1 (nI p) (nI b) (nI k) (nI l) _ (nI j) E = _
      unfold f_Ledger_off_c6 f_Rows_size f_Ledger_off_b59
      have g0 : f_Rows_get (7 * hc.2.2.1 + 0) (nI j) 0 E = some (mS hm (20 + 3 * j)) := by
        rw [← tE]
        exact tx_get hE (j := 0) (r := j) (q := 0) (by omega) k2 (by omega) (by omega) (by omega) (by decide) (by decide)
      obtain ⟨w, w1, w2, w3⟩ := k3 j (by omega)
      have t10 : ¬ (10 : Int32) = 0 := by decide
      have h0 := bk_le (N := n) (p := p) (k := j) m4 (show 0 < 2 by omega) n hn
      have h1 := bk_le (N := n) (p := p) (k := j) m4 (show 1 < 2 by omega) n hn
      have r1 := rst_le (bk (mS hm) n 0 p j n) l
      have r2 := rst_le (rst (bk (mS hm) n 0 p j n) l) k
      rw [z0, Option.bind_some, if_pos (nI_lt (by omega) (by omega)), LD_went (sC_RC E2 h.1) E3 hp (by omega), Option.bind_some, if_pos t10, g0, Option.bind_some, if_pos t10, rst_I (by omega) hl, if_neg q_10, if_pos (rfl : (0 : Int32) = 0), rst_I (by omega) hk, w3]
      have fin : ∀ d, d = du (mS hm) n p b k l j → f_Ledger_off_b82 NF (f_Ledger_off_l6 NF u) hc.2.2.1 (nI p) (nI b) (nI k) (nI l) (nI (ofs (mS hm) n p b k l j)) (nI j) (nI d) E = some (nI (ofs (mS hm) n p b k l nk)) := by
        intro d hd
        have d2 := du_le (mS hm) n p b k l j
        unfold f_Ledger_off_b82
        rw [LD_came (sC_RC E2 h.1) E3 hp (by omega), Option.bind_some, Math_abs (by omega) (by omega), Option.bind_some, nI_add, nI_1, hd]
        exact ih (j + 1) u (by omega) (by omega)
      by_cases cw : w < b
      · rw [if_pos (nI_lt cw (by omega))]
        exact fin _ (by unfold du; rw [nv_of w3 (by omega), if_pos cw])
      · rw [if_neg (nI_nlt (by omega) (by omega))]
        exact fin _ (by unfold du; rw [nv_of w3 (by omega), if_neg cw])
  unfold f_Ledger_off
  exact lp nk 0 NF (by omega) (NF_gt (by omega))
/-- the model's books of one place -/
def LB (G : sh_H) (f : Nat → Int32) (n p j : Nat) : Prop := ∀ q, q < j → G.1 13 58 q = nI (bk f n 0 p q n) ∧ G.1 13 59 q = nI (bk f n 1 p q n)
theorem M_layBooks {hm : sh_H} {n0 n nk : Nat} (m0 : n0 ≤ 60) (m4 : ∀ i, i < n0 → BKi (mS hm) i) (hn : n ≤ n0) (k2 : mS hm 0 = nI nk) (k1 : nk ≤ 6) (p : Nat) : ∃ G, f_M_layBooks NF (nI p) (nI n) hm = some G ∧ sM G hm ∧ LB G (mS hm) n p nk := by
  have j0 : ai_in (0 : Int32) 8000 := in8 (k := 0) (by omega)
  have lp : ∀ (q j u : Nat) (G : sh_H), j + q = nk → q < u → sM G hm → LB G (mS hm) n p j → ∃ G', f_M_layBooks_l2 NF u (nI p) (nI n) (nI j) G = some G' ∧ sM G' hm ∧ LB G' (mS hm) n p nk := by
    intro q
    induction q with
    | zero =>
      intro j u G e1 e2 x hL
      obtain ⟨u, rfl⟩ : ∃ m, u = m + 1 := ⟨u - 1, by omega⟩
      obtain rfl : j = nk := by omega
      refine ⟨G, ?_, x, hL⟩
      show f_M_layBooks_c2 NF (f_M_layBooks_l2 NF u) (nI p) (nI n) (nI j) G = _
      unfold f_M_layBooks_c2
      rw [if_pos j0, show G.1 13 46 (0 : Int32).toNatClampNeg = nI j from (x.mS 0).trans k2, if_neg (nI_nlt (by omega) (by omega))]
    | succ q ih =>
      intro j u G e1 e2 x hL
      obtain ⟨u, rfl⟩ : ∃ m, u = m + 1 := ⟨u - 1, by omega⟩
      show ∃ G', f_M_layBooks_c2 NF (f_M_layBooks_l2 NF u) (nI p) (nI n) (nI j) G = some G' ∧ _
      unfold f_M_layBooks_c2
      have x1 : sM (sh_pI G 13 58 j (nI (bk (mS hm) n 0 p j n))) hm := sM.pI (by unfold scM; omega) x
      have x2 : sM (sh_pI (sh_pI G 13 58 j (nI (bk (mS hm) n 0 p j n))) 13 59 j (nI (bk (mS hm) n 1 p j n))) hm := sM.pI (by unfold scM; omega) x1
      have ej : (nI j).toNatClampNeg = j := q_cl (by omega)
      have ei : ai_in (nI j) 6 := q_in (by omega) (by omega)
      rw [if_pos j0, show G.1 13 46 (0 : Int32).toNatClampNeg = nI nk from (x.mS 0).trans k2, if_pos (nI_lt (by omega) (by omega)), show f_M_booked NF 0 (nI p) (nI j) (nI n) G = _ from M_booked (f := mS hm) x.mS m4 hn m0 0 p j (by omega), Option.bind_some, if_pos ei]
      simp only [sh_let, ej]
      rw [show f_M_booked NF 1 (nI p) (nI j) (nI n) _ = _ from M_booked (f := mS hm) x1.mS m4 hn m0 1 p j (by omega), Option.bind_some, if_pos ei, nI_1]
      refine ih (j + 1) u _ (by omega) (by omega) x2 (fun r hr => ?_)
      by_cases e : r = j
      · subst e
        rw [pI_ne (by omega), pI_at, pI_at]
        exact ⟨rfl, rfl⟩
      · rw [pI_ne (by omega), pI_ne (by omega), pI_ne (by omega), pI_ne (by omega)]
        exact hL r (by omega)
  unfold f_M_layBooks
  exact lp nk 0 NF hm (by omega) (NF_gt (by omega)) (sM.rf hm) (fun r hr => by omega)
theorem M_off {hm G : sh_H} (x : sM G hm) {n0 n nk : Nat} (m0 : n0 ≤ 60) (m4 : ∀ i, i < n0 → BKi (mS hm) i) (hn : n ≤ n0) (k2 : mS hm 0 = nI nk) (k1 : nk ≤ 6) (k3 : ∀ r, r < nk → rg (mS hm) (20 + 3 * r) 1 500) {p b k l : Nat} (hL : LB G (mS hm) n p nk) (hb : b ≤ 501) (hk : k ≤ 10) (hl : l ≤ 10) : f_M_offBy NF (nI k) (nI l) (nI b) G = some (nI (ofs (mS hm) n p b k l nk)) := by
  have j0 : ai_in (0 : Int32) 8000 := in8 (k := 0) (by omega)
  have v0 : G.1 13 46 (0 : Int32).toNatClampNeg = nI nk := (x.mS 0).trans k2
  have lp : ∀ (q j u : Nat), j + q = nk → q < u → f_M_offBy_l6 NF u (nI k) (nI l) (nI b) (nI (ofs (mS hm) n p b k l j)) (nI j) G = some (nI (ofs (mS hm) n p b k l nk)) := by
    intro q
    induction q with
    | zero =>
      intro j u e1 e2
      obtain ⟨u, rfl⟩ : ∃ m, u = m + 1 := ⟨u - 1, by omega⟩
      obtain rfl : j = nk := by omega
      show f_M_offBy_c6 NF (f_M_offBy_l6 NF u) (nI k) (nI l) (nI b) _ (nI j) G = _
      unfold f_M_offBy_c6
      rw [if_pos j0, v0, if_neg (nI_nlt (by omega) (by omega))]
    | succ q ih =>
      intro j u e1 e2
      obtain ⟨u, rfl⟩ : ∃ m, u = m + 1 := ⟨u - 1, by omega⟩
      show f_M_offBy_c6 NF (f_M_offBy_l6 NF u) (nI k) (nI l) (nI b) _ (nI j) G = _
      unfold f_M_offBy_c6 f_M_worth
      obtain ⟨w, w1, w2, w3⟩ := k3 j (by omega)
      have t10 : ¬ (10 : Int32) = 0 := by decide
      have h0 := bk_le (N := n) (p := p) (k := j) m4 (show 0 < 2 by omega) n hn
      have h1 := bk_le (N := n) (p := p) (k := j) m4 (show 1 < 2 by omega) n hn
      have r1 := rst_le (bk (mS hm) n 0 p j n) l
      have r2 := rst_le (rst (bk (mS hm) n 0 p j n) l) k
      have ej : (nI j).toNatClampNeg = j := q_cl (by omega)
      have ei : ai_in (nI j) 6 := q_in (by omega) (by omega)
      have b2 : (20 : Int32) + 3 * nI j = nI (20 + 3 * j) := by rw [show (20 : Int32) = nI 20 from rfl, show (3 : Int32) = nI 3 from rfl, q_mul, nI_add]
      have y2 : (nI (20 + 3 * j)).toNatClampNeg = 20 + 3 * j := cl8 (by omega)
      have i2 : ai_in (nI (20 + 3 * j)) 8000 := in8 (by omega)
      have w3' : G.1 13 46 (20 + 3 * j) = nI w := (x.mS _).trans w3
      obtain ⟨p0, p1⟩ := hL j (by omega)
      simp only [if_pos j0, v0, if_pos ei, if_pos t10, b2, y2, if_pos i2, w3', ej, p0, Option.bind_some, rst_I (a := bk (mS hm) n 0 p j n) (by omega) hl, rst_I (a := rst (bk (mS hm) n 0 p j n) l) (by omega) hk]
      rw [if_pos (nI_lt (by omega) (by omega))]
      have fin : ∀ d, d = du (mS hm) n p b k l j → f_M_offBy_b61 NF (f_M_offBy_l6 NF u) (nI k) (nI l) (nI b) (nI (ofs (mS hm) n p b k l j)) (nI j) (nI d) G = some (nI (ofs (mS hm) n p b k l nk)) := by
        intro d hd
        have d2 := du_le (mS hm) n p b k l j
        unfold f_M_offBy_b61 f_M_offBy_b98
        simp only [if_pos ei, ej, p1, nI_1]
        have nx := ih (j + 1) u (by omega) (by omega)
        have ex : ofs (mS hm) n p b k l (j + 1) = ofs (mS hm) n p b k l j + dst d (bk (mS hm) n 1 p j n) := by rw [hd]; rfl
        rw [ex] at nx
        unfold dst at nx
        by_cases e : bk (mS hm) n 1 p j n < d
        · rw [if_pos e] at nx
          rw [if_pos (nI_lt e (by omega)), q_sub (by omega), nI_add]
          exact nx
        · rw [if_neg e] at nx
          rw [if_neg (nI_nlt (by omega) (by omega)), q_sub (by omega), nI_add]
          exact nx
      by_cases cw : w < b
      · rw [if_pos (nI_lt cw (by omega))]
        exact fin _ (by unfold du; rw [nv_of w3 (by omega), if_pos cw])
      · rw [if_neg (nI_nlt (by omega) (by omega))]
        exact fin _ (by unfold du; rw [nv_of w3 (by omega), if_neg cw])
  unfold f_M_offBy
  exact lp nk 0 NF (by omega) (NF_gt (by omega))
