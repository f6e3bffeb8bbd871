/-! PAIR: read: equations; what stands behind a tell -/
theorem DS_tail2 {sp F T j : Nat} {H H0 : sh_H} (hp : sp < 2) (hj : j < 7) (h : DS sp F T H H0) (x v : Int32) : ∃ H', Option.bind (f_Rows_put (7 * sp + j) x 4 v H) (fun h7 => Option.bind (f_Reader_expect 59 h7) (fun h8 => some h8)) = some H' ∧ DS sp F T H' H0 := by
  obtain ⟨H3, e3, d3⟩ := DS_put hp hj h x 4 v
  rw [e3, Option.bind_some, DS_expect d3]
  exact ⟨H3, rfl, d3⟩
theorem DS_tail1 {sp F T j : Nat} {H H0 : sh_H} (hp : sp < 2) (hj : j < 7) (h : DS sp F T H H0) (x v : Int32) : ∃ H', Option.bind (f_Rows_put (7 * sp + j) x 3 v H) (fun h4 => Option.bind ((Reader_rec NF 60).1 sp 0 h4) (fun h5 => Option.bind (some (h5.1 2 sp 1)) (fun v6 => Option.bind (f_Rows_put (7 * sp + j) x 4 v6 h5) (fun h7 => Option.bind (f_Reader_expect 59 h7) (fun h8 => some h8))))) = some H' ∧ DS sp F T H' H0 := by
  obtain ⟨H1, e1, d1⟩ := DS_put hp hj h x 3 v
  obtain ⟨H2, e2, d2⟩ := DS_sum hp d1
  rw [e1, Option.bind_some, e2, Option.bind_some, Option.bind_some]
  exact DS_tail2 hp hj d2 x _
theorem TT_eq {B : Nat → Nat} {n sz a lf lt sp j s z cF k : Nat} {A V : Nat → Nat} {N0 N1 : Nat} {Vr Ur : Nat → Int32} {H G H0 G0 : sh_H} (hp : sp < 2) (hj : j < 7) (hs : s < sh_m j) (hw : 5 ≤ sh_w j) (hcF : cF + 1 < tb_s j) (hk : k = tb_b j + tb_s j * s + cF) (za : z ≤ a) (cv : CV z A V) (t : TT B n sz a lf lt sp j s z A V N0 N1 Vr Ur H G H0 G0) : (∃ H' G' a' z' A' V', f_Reader_equation NF (7 * sp + j) sp H = some H' ∧ sh_b2 (f_M_takesSum NF (nI k) G) (fun v13 h14 => if ai_nar 1 v13 = 0 then some (0, h14) else semi h14) = some (1, G') ∧ TT B n sz a' lf lt sp j s z' A' V' N0 N1 (up1 (up1 Vr 3 (nI z)) 4 (nI z')) (up1 (up1 Ur cF (nI z)) (cF + 1) (nI z')) H' G' H0 G0 ∧ a < a' ∧ z' ≤ a' ∧ z ≤ z' ∧ (∀ k, k < z → A' k = A k ∧ V' k = V k) ∧ DP A' z z' 0 1 ∧ CV z' A' V' ∧ G'.1 13 46 (2000 + j) = G.1 13 46 (2000 + j)) ∨ (∃ F T H' G', f_Reader_equation NF (7 * sp + j) sp H = some H' ∧ sh_b2 (f_M_takesSum NF (nI k) G) (fun v13 h14 => if ai_nar 1 v13 = 0 then some (0, h14) else semi h14) = some (0, G') ∧ TF B n sz sp H0 G0 F T H' G') := by
  have r := tb_row hj hs
  have al := tb_all j hj
  obtain ⟨i1, i2⟩ := S_sign (s := 61) t.1 (by omega)
  unfold f_Reader_equation f_M_takesSum f_Rows_size f_Formulas_size
  rw [Option.bind_some, t.2.1.2.1, nI_pred, show f_M_isSign 61 G = _ from i1, Option.bind_some]
  rcases i2 with ⟨c, ⟨H1, G1, e1, e2, e3, e4, e5⟩ | ⟨F, T, H', G', e1, e2, e3, e4, e5, e6, e7⟩⟩ | ⟨c, H', G', e1, e2, e3, e4, e5, e6⟩
  · have e1' : f_Reader_expect 61 H = some H1 := e1
    rw [if_pos c, if_neg q_10, e1', Option.bind_some, Option.bind_some, e2, sh_b2_some, if_neg q_10]
    have t1 : TT B n sz (a + 1) lf lt sp j s z A V N0 N1 Vr Ur H1 G1 H0 G0 := ⟨e3, TS_f hj hs e4 e5 t.2.1, QS_f e4 e5 id t.2.2⟩
    obtain ⟨H2, p1, t2⟩ := TT_put (c := 3) hp hj hs (by omega) (nI z) t1
    rw [t1.2.2.1.1, show f_Rows_put (7 * sp + j) (nI s) 3 (nI z) H1 = some H2 from p1, Option.bind_some]
    rcases X_expr hp t2.1 t2.2.2.1 t2.2.2.2.1 cv (by omega) with ⟨a', z', A', V', H3, G3, x1, x2, x3, x4, x5, x6, x7, xa, x8, x9, x10, x11, x12, x13⟩ | ⟨F, T, H3, G3, x1, x2, x3, x4, x5, x6, x7⟩
    · rw [x1, Option.bind_some, Option.bind_some, x4.1, x2, sh_b2_some, if_neg q_10, x13]
      have ts2 : TS sp j s (up1 Vr 3 (nI z)) Ur H2 (sh_pI G1 12 0 22 (nI z)) H0 G0 := TS_to hj hs (fun _ _ _ _ => rfl) (fun k _ _ => pI_ne (by omega)) (xC.rf sp H2).t ⟨fun c i x h1 h2 h3 => pI_ne (by omega), fun _ _ _ _ => rfl, rfl⟩ t2.2.1
      have ts3 : TS sp j s (up1 Vr 3 (nI z)) Ur H3 G3 H0 G0 := TS_e hp hj hs x11 x12 ts2
      have nm2 := t2.2.2.2.2.1
      obtain ⟨nb, nb1, nb2⟩ := t2.2.2.2.2.2
      have qs3 : QS B n lf sp z' A' V' N0 N1 H3 G3 := ⟨x4, x5, ⟨(x12.1 _ _ _ (by omega) (by omega) (by omega)).trans ((pI_ne (by omega)).trans nm2.1), fun h => NR_to (fun i j _ => by rw [x11.2]) (fun j => by rw [x12.2]; rfl) (fun i j h => (x12.1 _ _ _ (by omega) (by omega) (by omega)).trans (pI_ne (by omega))) (nm2.2 h)⟩, nb, nb1, (x11.1 _ _ _ (by omega) (by omega) (by omega)).trans nb2⟩
      have t3 : TT B n sz a' lf lt sp j s z' A' V' N0 N1 (up1 Vr 3 (nI z)) Ur H3 G3 H0 G0 := ⟨x3, ts3, qs3⟩
      obtain ⟨H4, p4, t4⟩ := TT_put (c := 4) hp hj hs (by omega) (nI z') t3
      obtain ⟨G5, q5, t5, u5⟩ := TT_tell (c := cF) (k := k) hj hs (by omega) hk (nI z) t4
      have c5 : f_M_told 10 G5 = some (nI z') := (M_told2 (k := 10) (by omega) G5).trans (congrArg some t5.2.2.2.1.1)
      obtain ⟨G6, q6, t6, u6⟩ := TT_tell (c := cF + 1) (k := k + 1) hj hs (by omega) (by omega) (nI z') t5
      rw [show f_Rows_put (7 * sp + j) (nI s) 4 (nI z') H3 = some H4 from p4, Option.bind_some, q5, Option.bind_some, c5, Option.bind_some, nI_1, q6, Option.bind_some, q_nar1, sh_b2_some, q_nar1, if_neg q_10]
      have cnt : G6.1 13 46 (2000 + j) = G.1 13 46 (2000 + j) := by
        obtain ⟨G5', g1, g2, g3⟩ := T_tell (c := cF) (k := k) hj hs (by omega) hk (nI z) t4.2.1
        obtain ⟨G6', g4, g5, g6⟩ := T_tell (c := cF + 1) (k := k + 1) hj hs (by omega) (by omega) (nI z') t5.2.1
        have h5 : G5 = G5' := Option.some.inj (q5.symm.trans g1)
        have h6 : G6 = G6' := Option.some.inj (q6.symm.trans g4)
        rw [h6, g6, pI_ne (by omega), h5, g3, pI_ne (by omega), x12.1 _ _ _ (by omega) (by omega) (by omega), pI_ne (by omega)]
        exact e5.1 _ _ _ (by omega)
      rcases TT_semi hp hj hs t6 with ⟨H7, G7, f1, f2, f3, f4⟩ | ⟨F, T, H7, G7, f1, f2, f3⟩
      · rw [f1, f2]
        exact Or.inl ⟨H7, G7, a' + 1, z', A', V', rfl, rfl, f3, by omega, by omega, x8, x9, x10, x6, (f4 _ (by omega) (by omega)).trans cnt⟩
      · rw [f1, f2]
        exact Or.inr ⟨F, T, H7, G7, rfl, rfl, f3⟩
    · have tf := TF_of hp hj hs t2 x3 x4 x5 ⟨fun c i k n1 n2 n3 n4 => x6.1 c i k n1 n4 (by omega), fun _ _ _ _ => by rw [x6.2], by rw [x6.2]⟩ (fun i k => x6.1 _ _ _ (by omega) (by omega) (by omega)) (x7.y.tr ⟨fun c i x n1 n2 n3 => pI_ne (by omega), fun _ _ _ _ => rfl, rfl⟩)
      obtain ⟨H5, d1, d2⟩ := DS_tail2 (j := j) hp hj tf.2.1 (nI s) (H3.1 2 sp 1)
      rw [x1, Option.bind_some, Option.bind_some, d1, x2, sh_b2_some, if_pos rfl, q_nar0, sh_b2_some, q_nar0, if_pos rfl]
      exact Or.inr ⟨F, T, H5, G3, rfl, rfl, tf.1, d2, tf.2.2⟩
  · have e1' : f_Reader_expect 61 H = some H' := e1
    have tf := TF_of hp hj hs t e3 e4 e5 e6.r (fun i k => e6.1 _ _ _ (by omega)) e7.y
    obtain ⟨H5, d1, d2⟩ := DS_tail1 (j := j) hp hj tf.2.1 (nI s) (H'.1 2 sp 1)
    rw [if_pos c, if_neg q_10, e1', Option.bind_some, Option.bind_some, d1, e2, sh_b2_some, if_pos rfl, q_nar0, sh_b2_some, q_nar0, if_pos rfl]
    exact Or.inr ⟨F, T, H5, G', rfl, rfl, tf.1, d2, tf.2.2⟩
  · have e1' : f_Reader_expect 61 H = some H' := e1
    have tf := TF_of hp hj hs t t.1.2.1 e3 e4 e5.r (fun i k => e5.1 _ _ _ (by omega)) e6.y
    obtain ⟨H5, d1, d2⟩ := DS_tail1 (j := j) hp hj tf.2.1 (nI s) (H'.1 2 sp 1)
    rw [if_neg c, if_pos rfl, e1', Option.bind_some, Option.bind_some, d1, e2, sh_b2_some, q_nar0, sh_b2_some, q_nar0, if_pos rfl]
    exact Or.inr ⟨1, a, H5, G', rfl, rfl, tf.1, d2, tf.2.2⟩
/-! what a row is known to hold -/
def rgv (v : Int32) (a b : Nat) : Prop := ∃ x, a ≤ x ∧ x ≤ b ∧ v = nI x
def fvv (A : Nat → Nat) (z : Nat) (u v : Int32) : Prop := ∃ b e, b ≤ e ∧ e ≤ z ∧ u = nI b ∧ v = nI e ∧ DP A b e 0 1
def rowL (j N0 N1 z : Nat) (A : Nat → Nat) (U : Nat → Int32) : Prop := match j with
  | 0 => rgv (U 0) 1 500 ∧ rgv (U 1) 1 20 ∧ rgv (U 2) 0 99
  | 1 => rgv (U 0) 0 60 ∧ rgv (U 1) 0 99
  | 2 => rgv (U 0) 1 N1 ∧ (0 < N0 ∧ rgv (U 1) 0 (N0 - 1)) ∧ fvv A z (U 2) (U 3)
  | 3 => rgv (U 0) 1 N1 ∧ (0 < N0 ∧ rgv (U 1) 0 (N0 - 1)) ∧ fvv A z (U 2) (U 3)
  | 4 => rgv (U 0) 0 N1 ∧ rgv (U 1) 0 N1 ∧ (0 < N0 ∧ rgv (U 2) 0 (N0 - 1)) ∧ fvv A z (U 3) (U 4)
  | 5 => (0 < N0 ∧ rgv (U 0) 0 (N0 - 1)) ∧ fvv A z (U 1) (U 2)
  | _ => rgv (U 0) 1 N1 ∧ rgv (U 1) 0 11 ∧ rgv (U 2) 1 999 ∧ rgv (U 3) 0 999 ∧ rgv (U 4) 0 10
theorem rgv_up {v : Int32} {a b b' : Nat} (h : b ≤ b') (x : rgv v a b) : rgv v a b' := by
  obtain ⟨y, h1, h2, h3⟩ := x
  exact ⟨y, h1, by omega, h3⟩
theorem fvv_up {A A' : Nat → Nat} {z z' : Nat} {u v : Int32} (h : z ≤ z') (e : ∀ k, k < z → A' k = A k) (x : fvv A z u v) : fvv A' z' u v := by
  obtain ⟨b, f, h1, h2, h3, h4, h5⟩ := x
  exact ⟨b, f, h1, by omega, h3, h4, DP_cg (fun k k1 k2 => e k (by omega)) h5⟩
theorem rowL_up {j N0 N1 z N0' N1' z' : Nat} {A A' : Nat → Nat} {U : Nat → Int32} (hj : j < 7) (h0 : N0 ≤ N0') (h1 : N1 ≤ N1') (hz : z ≤ z') (e : ∀ k, k < z → A' k = A k) (x : rowL j N0 N1 z A U) : rowL j N0' N1' z' A' U := by
  rcases (show j = 0 ∨ j = 1 ∨ j = 2 ∨ j = 3 ∨ j = 4 ∨ j = 5 ∨ j = 6 by omega) with rfl | rfl | rfl | rfl | rfl | rfl | rfl
  · exact x
  · exact x
  · exact ⟨rgv_up h1 x.1, ⟨by have := x.2.1.1; omega, rgv_up (by omega) x.2.1.2⟩, fvv_up hz e x.2.2⟩
  · exact ⟨rgv_up h1 x.1, ⟨by have := x.2.1.1; omega, rgv_up (by omega) x.2.1.2⟩, fvv_up hz e x.2.2⟩
  · exact ⟨rgv_up h1 x.1, rgv_up h1 x.2.1, ⟨by have := x.2.2.1.1; omega, rgv_up (by omega) x.2.2.1.2⟩, fvv_up hz e x.2.2.2⟩
  · exact ⟨⟨by have := x.1.1; omega, rgv_up (by omega) x.1.2⟩, fvv_up hz e x.2⟩
  · exact ⟨rgv_up h1 x.1, x.2⟩
theorem rowL_cg {j N0 N1 z : Nat} {A : Nat → Nat} {U U' : Nat → Int32} (hj : j < 7) (e : ∀ c, c < tb_s j → U' c = U c) (x : rowL j N0 N1 z A U) : rowL j N0 N1 z A U' := by
  rcases (show j = 0 ∨ j = 1 ∨ j = 2 ∨ j = 3 ∨ j = 4 ∨ j = 5 ∨ j = 6 by omega) with rfl | rfl | rfl | rfl | rfl | rfl | rfl
  · show rgv (U' 0) 1 500 ∧ rgv (U' 1) 1 20 ∧ rgv (U' 2) 0 99
    rw [e 0 (by decide), e 1 (by decide), e 2 (by decide)]; exact x
  · show rgv (U' 0) 0 60 ∧ rgv (U' 1) 0 99
    rw [e 0 (by decide), e 1 (by decide)]; exact x
  · show rgv (U' 0) 1 N1 ∧ (0 < N0 ∧ rgv (U' 1) 0 (N0 - 1)) ∧ fvv A z (U' 2) (U' 3)
    rw [e 0 (by decide), e 1 (by decide), e 2 (by decide), e 3 (by decide)]; exact x
  · show rgv (U' 0) 1 N1 ∧ (0 < N0 ∧ rgv (U' 1) 0 (N0 - 1)) ∧ fvv A z (U' 2) (U' 3)
    rw [e 0 (by decide), e 1 (by decide), e 2 (by decide), e 3 (by decide)]; exact x
  · show rgv (U' 0) 0 N1 ∧ rgv (U' 1) 0 N1 ∧ (0 < N0 ∧ rgv (U' 2) 0 (N0 - 1)) ∧ fvv A z (U' 3) (U' 4)
    rw [e 0 (by decide), e 1 (by decide), e 2 (by decide), e 3 (by decide), e 4 (by decide)]; exact x
  · show (0 < N0 ∧ rgv (U' 0) 0 (N0 - 1)) ∧ fvv A z (U' 1) (U' 2)
    rw [e 0 (by decide), e 1 (by decide), e 2 (by decide)]; exact x
  · show rgv (U' 0) 1 N1 ∧ rgv (U' 1) 0 11 ∧ rgv (U' 2) 1 999 ∧ rgv (U' 3) 0 999 ∧ rgv (U' 4) 0 10
    rw [e 0 (by decide), e 1 (by decide), e 2 (by decide), e 3 (by decide), e 4 (by decide)]; exact x
/-- both rows alike -/
def relV (j : Nat) (V U : Nat → Int32) : Prop := (∀ c, c < 5 → tb_c j c < 9 → V c = U (tb_c j c)) ∧ (j = 5 → V 0 = 0)
theorem tb_cw : ∀ j, j < 7 → ∀ c, c < 5 → tb_c j c < 9 → c < sh_w j ∧ tb_c j c < tb_s j := by decide +kernel
theorem relV_cg {j : Nat} {V U V' U' : Nat → Int32} (hj : j < 7) (e1 : ∀ c, c < sh_w j → V' c = V c) (e2 : ∀ c, c < tb_s j → U' c = U c) (x : relV j V U) : relV j V' U' := by
  refine ⟨fun c hc h9 => ?_, fun z => ?_⟩
  · obtain ⟨h1, h2⟩ := tb_cw j hj c hc h9
    rw [e1 c h1, e2 _ h2]; exact x.1 c hc h9
  · rw [e1 0 (by have := (tb_all j hj).2.2.2.2.2.1; omega)]; exact x.2 z
/-- between tells -/
def CX (B : Nat → Nat) (n a lf sp : Nat) (N : Nat → Nat) (z : Nat) (A V : Nat → Nat) (H G : sh_H) : Prop := RC H ∧ (∀ j, j < 7 → N j ≤ sh_m j ∧ H.1 6 (7 * sp + j) 3 = nI (N j) ∧ G.1 13 46 (2000 + j) = nI (N j)) ∧ CC sp z A V H ∧ CM z A V G ∧ CV z A V ∧ z ≤ a ∧ NM B n lf (N 0) (N 1) H G ∧ (lf = 0 → ∀ j, j < 7 → ∀ r, r < N j → relV j (fun c => H.1 13 (9 * sp + j) (r * sh_w j + c)) (fun c => G.1 13 46 (2000 + tb_b j + tb_s j * r + c)) ∧ rowL j (N 0) (N 1) z A (fun c => G.1 13 46 (2000 + tb_b j + tb_s j * r + c)))
theorem CX.qs {B : Nat → Nat} {n a lf sp : Nat} {N : Nat → Nat} {z : Nat} {A V : Nat → Nat} {H G : sh_H} (x : CX B n a lf sp N z A V H G) : QS B n lf sp z A V (N 0) (N 1) H G := ⟨x.2.2.1, x.2.2.2.1, x.2.2.2.2.2.2.1, N 6, (x.2.1 6 (by omega)).1, (x.2.1 6 (by omega)).2.1⟩
theorem tb_dj : ∀ j, j < 7 → ∀ j', j' < 7 → j ≠ j' → tb_b j + tb_s j * sh_m j ≤ tb_b j' ∨ tb_b j' + tb_s j' * sh_m j' ≤ tb_b j := by decide +kernel
theorem row_dj {w r s : Nat} (h : r ≠ s) (c : Nat) (hc : c < w) : ¬ (s * w ≤ r * w + c ∧ r * w + c < s * w + w) := by
  intro ⟨h1, h2⟩
  rcases Nat.lt_or_gt_of_ne h with q | q
  · have := Nat.mul_le_mul_right w (show r + 1 ≤ s by omega)
    rw [Nat.succ_mul] at this
    omega
  · have := Nat.mul_le_mul_right w (show s + 1 ≤ r by omega)
    rw [Nat.succ_mul] at this
    omega
theorem tb_ne {j j' r s c : Nat} (hj : j < 7) (hj' : j' < 7) (hr : r < sh_m j') (hs : s < sh_m j) (hc : c < tb_s j') (h : j' ≠ j ∨ r ≠ s) : ¬ (2000 + tb_b j + tb_s j * s ≤ 2000 + tb_b j' + tb_s j' * r + c ∧ 2000 + tb_b j' + tb_s j' * r + c < 2000 + tb_b j + tb_s j * s + tb_s j) := by
  by_cases e : j' = j
  · subst e
    have q : r ≠ s := by rcases h with h | h; exact absurd rfl h; exact h
    have := row_dj (w := tb_s j') q c hc
    rw [Nat.mul_comm s, Nat.mul_comm r] at this
    omega
  · have m1 : tb_s j' * (r + 1) ≤ tb_s j' * sh_m j' := Nat.mul_le_mul_left _ hr
    have m2 : tb_s j * (s + 1) ≤ tb_s j * sh_m j := Nat.mul_le_mul_left _ hs
    rw [Nat.mul_succ] at m1 m2
    have := tb_dj j' hj' j hj e
    omega
theorem CX_next {B : Nat → Nat} {n a lf sp j s z a' lf' z' N0' N1' : Nat} {N : Nat → Nat} {A V A' V' : Nat → Nat} {Vr Ur : Nat → Int32} {H0 G0 H G : sh_H} (hp : sp < 2) (hj : j < 7) (hN : s = N j) (hs : s < sh_m j) (cx : CX B n a lf sp N z A V H0 G0) (ts : TS sp j s Vr Ur H G H0 G0) (cnt : G.1 13 46 (2000 + j) = nI (s + 1)) (cc : CC sp z' A' V' H) (cm : CM z' A' V' G) (cv : CV z' A' V') (zl : z ≤ z') (ag : ∀ k, k < z → A' k = A k) (za : z' ≤ a') (e0 : N0' = up0 N j (s + 1) 0) (e1 : N1' = up0 N j (s + 1) 1) (nm : NM B n lf' N0' N1' H G) (new : lf' = 0 → lf = 0 ∧ relV j Vr Ur ∧ rowL j N0' N1' z' A' Ur) : CX B n a' lf' sp (up0 N j (s + 1)) z' A' V' H G := by
  obtain ⟨c1, c2, c3, c4, c5, c6, c7, c8⟩ := cx
  obtain ⟨t1, t2, t3, t4, t5, t6⟩ := ts
  have al := tb_all j hj
  have rw1 := tb_row hj hs
  have up_le : ∀ i, N i ≤ up0 N j (s + 1) i := by
    intro i
    by_cases c : i = j
    · rw [c, up0_y, ← hN]; omega
    · rw [up0_n c]; exact Nat.le_refl _
  refine ⟨t1, fun i hi => ?_, cc, cm, cv, za, by rw [← e0, ← e1]; exact nm, fun l0 i hi r hr => ?_⟩
  · by_cases c : i = j
    · rw [c, up0_y]; exact ⟨hs, t2, cnt⟩
    · rw [up0_n c]
      have ali := tb_all i hi
      obtain ⟨q1, q2, q3⟩ := c2 i hi
      refine ⟨q1, (t5.1 _ _ _ (by omega) (by omega) (by omega) (by omega) (by omega)).trans q2, (t6.1 _ _ _ (by omega) (by omega) (by omega)).trans q3⟩
  · obtain ⟨l, n1, n2⟩ := new l0
    rw [← e0, ← e1]
    by_cases c : i = j ∧ r = s
    · obtain ⟨rfl, rfl⟩ := c
      exact ⟨relV_cg hi t3 t4 n1, rowL_cg hi t4 n2⟩
    · have hr' : r < N i := by
        by_cases w : i = j
        · rw [w, up0_y] at hr
          rw [w]; omega
        · rw [up0_n w] at hr; exact hr
      obtain ⟨q1, q2⟩ := c8 l i hi r hr'
      have ali := tb_all i hi
      have qi := (c2 i hi).1
      have eU : ∀ d, d < tb_s i → G.1 13 46 (2000 + tb_b i + tb_s i * r + d) = G0.1 13 46 (2000 + tb_b i + tb_s i * r + d) := by
        intro d hd
        have ne := tb_ne (j := j) (j' := i) (r := r) (s := s) (c := d) hj hi (by omega) hs hd (by omega)
        have rr := tb_row (j := i) (s := r) hi (by omega)
        exact t6.1 _ _ _ (by omega) (by omega) (by omega)
      have eV : ∀ d, d < sh_w i → H.1 13 (9 * sp + i) (r * sh_w i + d) = H0.1 13 (9 * sp + i) (r * sh_w i + d) := by
        intro d hd
        refine t5.1 _ _ _ (by omega) (by omega) ?_ (by omega) (by omega)
        by_cases w : i = j
        · subst w
          have ne := row_dj (w := sh_w i) (r := r) (s := s) (by omega) d hd
          omega
        · omega
      exact ⟨relV_cg hi eV eU q1, rowL_cg hi eU (rowL_up hi (by rw [e0]; exact up_le 0) (by rw [e1]; exact up_le 1) zl ag q2)⟩
