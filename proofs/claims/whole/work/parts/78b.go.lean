/-! PAIR: months: pieces go; pieces wear -/
theorem LK_goF {c : Nat} {hc hm : sh_H} (h : St c hc hm) {p1 k b n : Nat} {a2 : Int32} (hp1 : p1 < 5) (h2 : (∃ p2, p2 < 5 ∧ a2 = nI p2) ∨ a2 = -1) (hk : k < 6) (hb : b ≤ 1) (hn : n < 2 ^ 30) (hc5 : c ≤ 512) : ∃ hc' hm', f_Pieces_move NF 0 (nI k) (nI p1) a2 (nI n) (nI b) hc = some hc' ∧ f_M_go NF (nI p1) a2 (nI k) (nI n) (nI b) hm = some hm' ∧ LK c hc hm hc' hm' ∧ PF hc hm hc' hm' := by
  have lp : ∀ (q i u l : Nat) (H G : sh_H), i + q = 4 → q < u → l ≤ n → LK c hc hm H G → PF hc hm H G → ∃ hc' hm', f_Pieces_move_l7 NF u 0 (nI k) (nI p1) a2 (nI b) (nI l) (nI i) H = some hc' ∧ f_M_go_l7 NF u (nI p1) a2 (nI k) (nI b) (nI l) (nI i) G = some hm' ∧ LK c hc hm hc' hm' ∧ PF hc hm hc' hm' := by
    intro q
    induction q with
    | zero =>
      intro i u l H G e1 e2 l1 x px
      obtain ⟨u, rfl⟩ : ∃ m, u = m + 1 := ⟨u - 1, by omega⟩
      obtain rfl : i = 4 := by omega
      refine ⟨H, G, ?_, ?_, x, px⟩
      · show f_Pieces_move_c7 NF (f_Pieces_move_l7 NF u) 0 (nI k) (nI p1) a2 (nI b) (nI l) (nI 4) H = _
        unfold f_Pieces_move_c7
        rw [if_neg (show ¬ nI 4 < 4 by decide)]
      · show f_M_go_c7 NF (f_M_go_l7 NF u) (nI p1) a2 (nI k) (nI b) (nI l) (nI 4) G = _
        unfold f_M_go_c7
        rw [if_neg (show ¬ nI 4 < 4 by decide)]
    | succ q ih =>
      intro i u l H G e1 e2 l1 x px
      obtain ⟨u, rfl⟩ : ∃ m, u = m + 1 := ⟨u - 1, by omega⟩
      have w4 : wv b i < 4 := by unfold wv; split <;> omega
      have ew : ∀ {α : Type} (A : Int32 → α), (if nI b = 0 then A (nI i) else A (3 - nI i)) = A (nI (wv b i)) := by
        intro α A
        unfold wv
        by_cases z : b = 0
        · rw [if_pos z, if_pos (show nI b = 0 by rw [z]; rfl)]
        · rw [if_neg z, if_neg (nI_ne0 (by omega) (by omega)), show (3 : Int32) - nI i = nI (3 - i) from q_sub (a := 3) (by omega)]
      have cutC : f_Pieces_move_l7 NF (u + 1) 0 (nI k) (nI p1) a2 (nI b) (nI l) (nI i) H = f_Pieces_move_b27 NF (f_Pieces_move_l7 NF u) 0 (nI k) (nI p1) a2 (nI b) (nI l) (nI i) (nI (wv b i)) H := by
        show f_Pieces_move_c7 NF (f_Pieces_move_l7 NF u) 0 (nI k) (nI p1) a2 (nI b) (nI l) (nI i) H = _
        unfold f_Pieces_move_c7
        rw [if_pos (show nI i < 4 from nI_lt (b := 4) (by omega) (by omega))]
        exact ew (fun s => f_Pieces_move_b27 NF (f_Pieces_move_l7 NF u) 0 (nI k) (nI p1) a2 (nI b) (nI l) (nI i) s H)
      have cutM : f_M_go_l7 NF (u + 1) (nI p1) a2 (nI k) (nI b) (nI l) (nI i) G = f_M_go_b27 NF (f_M_go_l7 NF u) (nI p1) a2 (nI k) (nI b) (nI l) (nI i) (nI (wv b i)) G := by
        show f_M_go_c7 NF (f_M_go_l7 NF u) (nI p1) a2 (nI k) (nI b) (nI l) (nI i) G = _
        unfold f_M_go_c7
        rw [if_pos (show nI i < 4 from nI_lt (b := 4) (by omega) (by omega))]
        exact ew (fun s => f_M_go_b27 NF (f_M_go_l7 NF u) (nI p1) a2 (nI k) (nI b) (nI l) (nI i) s G)
      obtain ⟨t, H', G', t1, c1, c2, c3, c4⟩ := LK_cells x.1 hp1 h2 hk w4 (l := l) (by omega) hc5 (fun v H => f_Pieces_move_l7 NF u 0 (nI k) (nI p1) a2 (nI b) (nI l - v) (nI i + 1) H) (fun v G => f_M_go_l7 NF u (nI p1) a2 (nI k) (nI b) v (nI i + 1) G) _ _ cutC cutM
      rw [c1, c2, q_sub t1, nI_1]
      exact ih (i + 1) u (l - t) H' G' (by omega) (by omega) (by omega) (x.tr c3) (px.tr c4)
  unfold f_Pieces_move f_M_go
  exact lp 4 0 NF n hc hm (by omega) (NF_gt (by omega)) (Nat.le_refl _) (LK.rf h) PF.rf
theorem LK_go {c : Nat} {hc hm : sh_H} (h : St c hc hm) {p1 k b n : Nat} {a2 : Int32} (hp1 : p1 < 5) (h2 : (∃ p2, p2 < 5 ∧ a2 = nI p2) ∨ a2 = -1) (hk : k < 6) (hb : b ≤ 1) (hn : n < 2 ^ 30) (hc5 : c ≤ 512) : ∃ hc' hm', f_Pieces_move NF 0 (nI k) (nI p1) a2 (nI n) (nI b) hc = some hc' ∧ f_M_go NF (nI p1) a2 (nI k) (nI n) (nI b) hm = some hm' ∧ LK c hc hm hc' hm' := by
  obtain ⟨a, b, c, d, e, -⟩ := LK_goF h hp1 h2 hk hb hn hc5
  exact ⟨a, b, c, d, e⟩
/-- what is said of a row of losses, flows, wears -/
theorem C_says {c : Nat} {hc hm : sh_H} (h : St c hc hm) {j r n x : Nat} (hj : j < 7) (hn : mS hm j = nI n) (hn2 : n ≤ 12) (hr : r < n) (ex : x = tb_b j + tb_s j * r + tb_c j 3) (h3 : tb_c j 3 < 8) (h4 : tb_c j 4 = tb_c j 3 + 1) (hw : 5 ≤ sh_w j) (fe : FE (mS hm) x) (m a w z : Int32) : ∃ E, f_Text_says NF hc.2.2.1 (7 * hc.2.2.1 + j) (nI r) m a w z hc = some (fval (mS hm) (fq m a w z) x, E) ∧ sC E hc := by
  have g3 : f_Rows_get (7 * hc.2.2.1 + j) (nI r) 3 hc = some (mS hm x) := (tx_get h (j := j) (r := r) (q := 3) hj hn (by omega) hr (by omega) (by omega) (by omega)).trans (by rw [ex])
  have g4 : f_Rows_get (7 * hc.2.2.1 + j) (nI r) 4 hc = some (mS hm (x + 1)) := (tx_get h (j := j) (r := r) (q := 4) hj hn (by omega) hr (by omega) (by omega) (by omega)).trans (by rw [ex, h4]; rfl)
  obtain ⟨E, E1, E2⟩ := C_value h fe m a w z
  unfold f_Text_says
  rw [g3, Option.bind_some, g4, Option.bind_some, E1, sh_b2_some]
  exact ⟨E, rfl, E2⟩
theorem M_says {c : Nat} {hc hm : sh_H} (h : St c hc hm) {x : Nat} (hx : x < 7000) (fe : FE (mS hm) x) (m a w z : Int32) : ∃ A E, f_M_ask m a w z hm = some A ∧ sM A hm ∧ f_M_sum NF (nI x) A = some (fval (mS hm) (fq m a w z) x, E) ∧ sM E hm := by
  obtain ⟨A, a1, a2, a3⟩ := M_askF m a w z hm
  obtain ⟨E, b1, b2⟩ := M_sumF hx fe a2 m a w z a3
  exact ⟨A, E, a1, a2.s, b1, b2.s⟩
theorem IT_f {f : Nat → Int32} {n : Nat} (h : IT f) (hn : f 4 = nI n) (n2 : n < 2 ^ 31) : n ≤ 12 ∧ ∀ r, r < n → pl f 0 (150 + 5 * r) ∧ pl f 0 (151 + 5 * r) ∧ kd f (152 + 5 * r) ∧ FE f (153 + 5 * r) := by
  obtain ⟨n', m1, m2, m3⟩ := h.2.2.2.2.1
  obtain rfl : n' = n := (nI_eq (by omega) (by omega)).mp (m2.symm.trans hn)
  exact ⟨m1, m3⟩
theorem pl_n {f : Nat → Int32} {a k : Nat} (h : pl f a k) : ∃ p, a ≤ p ∧ p < 5 ∧ f k = nI p ∧ (∃ m, m ≤ 4 ∧ p ≤ m ∧ f 1 = nI m) := by
  obtain ⟨p, m, h1, h2, h3, h4, h5⟩ := h
  exact ⟨p, h1, by omega, h4, m, h3, h2, h5⟩
theorem kd_n {f : Nat → Int32} {k : Nat} (h : kd f k) : ∃ a, a < 6 ∧ f k = nI a ∧ (∃ m, m ≤ 6 ∧ a < m ∧ f 0 = nI m) := by
  obtain ⟨a, m, h1, h2, h3, h4⟩ := h
  exact ⟨a, by omega, h3, m, h2, h1, h4⟩
/-- flows -/
theorem LK_flow {c : Nat} {hc hm : sh_H} (h : St c hc hm) (hc5 : c ≤ 512) {t : Nat} (ht : mS hm 9 = nI t) (ht2 : t ≤ 240) (sd : Int32) : ∃ hc' hm', f_Calendar_flow NF hc.2.2.1 0 sd hc = some hc' ∧ f_M_flows NF sd (nI t) hm = some hm' ∧ LK c hc hm hc' hm' := by
  obtain ⟨n, n1, n2, -⟩ := (St_T h).2.2.2.2.1
  have j4 : ai_in (4 : Int32) 8000 := in8 (k := 4) (by omega)
  have lp : ∀ (q i u : Nat) (H G : sh_H), i + q = n → q < u → LK c hc hm H G → ∃ hc' hm', f_Calendar_flow_l2 NF u hc.2.2.1 0 sd (nI i) H = some hc' ∧ f_M_flows_l2 NF u sd (nI t) (nI i) G = some hm' ∧ LK c hc hm hc' hm' := by
    intro q
    induction q with
    | zero =>
      intro i u H G e1 e2 x
      obtain ⟨u, rfl⟩ : ∃ m, u = m + 1 := ⟨u - 1, by omega⟩
      have g4 : mS G 4 = nI n := (x.2.2.2.2.2 4 (by omega)).trans n2
      refine ⟨H, G, ?_, ?_, x⟩
      · show f_Calendar_flow_c2 NF (f_Calendar_flow_l2 NF u) hc.2.2.1 0 sd (nI i) H = _
        unfold f_Calendar_flow_c2 f_Rows_size
        rw [← x.tx, St_z x.1 4 (by omega), g4, Option.bind_some, if_neg (nI_nlt (by omega) (by omega))]
      · show f_M_flows_c2 NF (f_M_flows_l2 NF u) sd (nI t) (nI i) G = _
        unfold f_M_flows_c2
        rw [if_pos j4, show G.1 13 46 (4 : Int32).toNatClampNeg = nI n from g4, if_neg (nI_nlt (by omega) (by omega))]
    | succ q ih =>
      intro i u H G e1 e2 x
      obtain ⟨u, rfl⟩ : ∃ m, u = m + 1 := ⟨u - 1, by omega⟩
      have hi : i < n := by omega
      have g4 : mS G 4 = nI n := (x.2.2.2.2.2 4 (by omega)).trans n2
      have g9 : mS G 9 = nI t := (x.2.2.2.2.2 9 (by omega)).trans ht
      obtain ⟨-, rows⟩ := IT_f (St_T x.1) g4 (by omega)
      obtain ⟨p1, p2, p3, fe⟩ := rows i hi
      obtain ⟨a, -, a5, ea, -⟩ := pl_n p1
      obtain ⟨b, -, b5, eb, -⟩ := pl_n p2
      obtain ⟨k, k6, ek, -⟩ := kd_n p3
      have tx := x.tx
      have t7 : H.1 7 0 4 = nI t := (rSt_0 x.1).2.2.2.2.1.trans (by rw [Nat.zero_add]; exact g9)
      have c0 : f_Rows_get (7 * H.2.2.1 + 4) (nI i) 0 H = some (nI a) := (tx_get x.1 (j := 4) (r := i) (q := 0) (by omega) g4 (by omega) hi (by omega) (by decide) (by decide)).trans (by show some (mS G (150 + 5 * i + 0)) = _; rw [Nat.add_zero, ea])
      have c1 : f_Rows_get (7 * H.2.2.1 + 4) (nI i) 1 H = some (nI k) := (tx_get x.1 (j := 4) (r := i) (q := 1) (by omega) g4 (by omega) hi (by omega) (by decide) (by decide)).trans (by show some (mS G (150 + 5 * i + 2)) = _; rw [show 150 + 5 * i + 2 = 152 + 5 * i by omega, ek])
      have c2 : ∀ E, sC E H → f_Rows_get (7 * H.2.2.1 + 4) (nI i) 2 E = some (nI b) := fun E y => by
        have := tx_get (St_sC y x.1) (j := 4) (r := i) (q := 2) (by omega) g4 (by omega) hi (by omega) (by decide) (by decide)
        rw [y.tx] at this
        exact this.trans (by show some (mS G (150 + 5 * i + 1)) = _; rw [show 150 + 5 * i + 1 = 151 + 5 * i by omega, eb])
      obtain ⟨al1, -⟩ := al_of (St_S x.1) hc5 a5 k6
      have ca := C_all' x.1 hc5 a5 k6
      have ma := M_all' (St_S x.1) hc5 (sM.rf G) a5 k6
      obtain ⟨C1, s1, s2⟩ := C_says x.1 (j := 4) (r := i) (x := 153 + 5 * i) (by omega) g4 (by omega) hi (by show _ = 150 + 5 * i + 3; omega) (by decide) (by decide) (by decide) fe (nI (t % 12)) (nI (al (mS G) a k)) 0 (ltv sd (1000 + 40 * nI t + nI i) 5)
      obtain ⟨A, M1, r1, r2, r3, r4⟩ := M_says x.1 (x := 153 + 5 * i) (by omega) fe (nI (t % 12)) (nI (al (mS G) a k)) 0 (ltv sd (1000 + 40 * nI t + nI i) 5)
      generalize ev : fval (mS G) (fq (nI (t % 12)) (nI (al (mS G) a k)) 0 (ltv sd (1000 + 40 * nI t + nI i) 5)) (153 + 5 * i) = v at s1 r3
      have L1 := LK.sc x.1 s2 r4
      have cl := clN_le v (al (mS G) a k)
      obtain ⟨C2, M2, z1, z2, z3⟩ := LK_go L1.1 (p1 := a) (k := k) (b := 1) (n := clN v (al (mS G) a k)) (a2 := nI b) a5 (Or.inl ⟨b, b5, rfl⟩) k6 (Nat.le_refl _) (by omega) hc5
      obtain ⟨C3, M3, y1, y2, y3⟩ := ih (i + 1) u C2 M2 (by omega) (by omega) ((x.tr L1).tr z3)
      refine ⟨C3, M3, ?_, ?_, y3⟩
      · show f_Calendar_flow_c2 NF (f_Calendar_flow_l2 NF u) hc.2.2.1 0 sd (nI i) H = _
        unfold f_Calendar_flow_c2 f_Rows_size
        rw [← tx, St_z x.1 4 (by omega), g4, Option.bind_some, if_pos (nI_lt hi (by omega)), c0, Option.bind_some, c1, Option.bind_some, ca, Option.bind_some, C_lot (by decide) (by decide), Option.bind_some, if_pos n12, t7, q_m12 (by omega), s1, sh_b2_some, CB_limit (by omega), Option.bind_some, c2 C1 s2, Option.bind_some, show f_Pieces_move NF 0 (nI k) (nI a) (nI b) (nI (clN v (al (mS G) a k))) 1 C1 = _ from z1, Option.bind_some, nI_1, tx]
        exact y1
      · show f_M_flows_c2 NF (f_M_flows_l2 NF u) sd (nI t) (nI i) G = _
        unfold f_M_flows_c2
        have a0 : (150 : Int32) + 5 * nI i = nI (150 + 5 * i) := by rw [show (150 : Int32) = nI 150 from rfl, show (5 : Int32) = nI 5 from rfl, q_mul, nI_add]
        have a1 : nI (150 + 5 * i) + 1 = nI (151 + 5 * i) := by rw [nI_1]; congr 1; omega
        have a2 : nI (150 + 5 * i) + 2 = nI (152 + 5 * i) := by rw [show (2 : Int32) = nI 2 from rfl, nI_add]; congr 1; omega
        have a3 : nI (150 + 5 * i) + 3 = nI (153 + 5 * i) := by rw [show (3 : Int32) = nI 3 from rfl, nI_add]; congr 1; omega
        have v0 : G.1 13 46 (nI (150 + 5 * i)).toNatClampNeg = nI a := by rw [cl8 (by omega)]; exact ea
        have v2 : G.1 13 46 (nI (152 + 5 * i)).toNatClampNeg = nI k := by rw [cl8 (by omega)]; exact ek
        have w0 : A.1 13 46 (nI (150 + 5 * i)).toNatClampNeg = nI a := by rw [cl8 (by omega)]; exact (r2.mS _).trans ea
        have w1 : A.1 13 46 (nI (151 + 5 * i)).toNatClampNeg = nI b := by rw [cl8 (by omega)]; exact (r2.mS _).trans eb
        have w2 : A.1 13 46 (nI (152 + 5 * i)).toNatClampNeg = nI k := by rw [cl8 (by omega)]; exact (r2.mS _).trans ek
        rw [if_pos j4, show G.1 13 46 (4 : Int32).toNatClampNeg = nI n from g4, if_pos (nI_lt hi (by omega)), a0, a1, a2, a3, if_pos (in8 (by omega)), if_pos (in8 (by omega)), v0, v2, ma, Option.bind_some, if_pos n12, M_lot (by decide), Option.bind_some, q_m12 (by omega), r1, Option.bind_some, if_pos (in8 (by omega)), if_pos (in8 (by omega)), if_pos (in8 (by omega)), w0, w1, w2, r3, sh_b2_some, M_within (by omega), Option.bind_some, show f_M_go NF (nI a) (nI b) (nI k) (nI (clN v (al (mS G) a k))) 1 M1 = _ from z2, Option.bind_some, nI_1]
        exact y2
  unfold f_Calendar_flow f_M_flows
  exact lp n 0 NF hc hm (by omega) (NF_gt (by omega)) (LK.rf h)
