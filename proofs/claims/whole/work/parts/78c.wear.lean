/-! PAIR: months: losses, wears -/
theorem lro_hit {f : Nat → Int32} {b r : Nat} {p k : Int32} : ∀ {n : Nat}, r < n → f (b + 4 * r) = p ∧ f (b + 4 * r + 1) = k → (∀ s, r < s → s < n → ¬ (f (b + 4 * s) = p ∧ f (b + 4 * s + 1) = k)) → lro f b p k n = some r := by
  intro n
  induction n with
  | zero => intro h; omega
  | succ n ih =>
    intro h1 h2 h3
    unfold lro
    by_cases e : r = n
    · subst e; exact if_pos h2
    · rw [if_neg (h3 n (by omega) (by omega))]
      exact ih (by omega) h2 (fun s s1 s2 => h3 s s1 (by omega))
theorem lro_ge {f : Nat → Int32} {b r : Nat} {p k : Int32} : ∀ {n : Nat}, r < n → f (b + 4 * r) = p ∧ f (b + 4 * r + 1) = k → ∃ s, lro f b p k n = some s ∧ r ≤ s := by
  intro n
  induction n with
  | zero => intro h; omega
  | succ n ih =>
    intro h1 h2
    unfold lro
    by_cases c : f (b + 4 * n) = p ∧ f (b + 4 * n + 1) = k
    · rw [if_pos c]; exact ⟨n, rfl, by omega⟩
    · rw [if_neg c]
      exact ih (by
        have : r ≠ n := fun e => c (by rw [← e]; exact h2)
        omega) h2
def isl (f : Nat → Int32) (b i n : Nat) : Bool := decide (lro f b (f (b + 4 * i)) (f (b + 4 * i + 1)) n = some i)
theorem M_isLast {H : sh_H} {j b i n : Nat} (hj : j < 10) (hb : b ≤ 100) (hn : mS H j = nI n) (n12 : n ≤ 12) (hi : i < n) : f_M_isLast NF (nI j) (nI b) (nI i) H = some (if isl (mS H) b i n then 1 else 0) := by
  have ad : ∀ r, nI b + 4 * nI r = nI (b + 4 * r) := fun r => by rw [show (4 : Int32) = nI 4 from rfl, q_mul, nI_add]
  have lp : ∀ (q s u : Nat), s + q = n → q < u → i < s → (∀ r, i < r → r < s → ¬ (mS H (b + 4 * r) = mS H (b + 4 * i) ∧ mS H (b + 4 * r + 1) = mS H (b + 4 * i + 1))) → f_M_isLast_l5 NF u (nI j) (nI b) (nI i) (nI s) H = some (if isl (mS H) b i n then 1 else 0) := by
    intro q
    induction q with
    | zero =>
      intro s u e1 e2 e3 no
      obtain ⟨u, rfl⟩ : ∃ m, u = m + 1 := ⟨u - 1, by omega⟩
      obtain rfl : s = n := by omega
      show f_M_isLast_c5 NF (f_M_isLast_l5 NF u) (nI j) (nI b) (nI i) (nI s) H = _
      unfold f_M_isLast_c5
      have e : isl (mS H) b i s = true := decide_eq_true (lro_hit hi ⟨rfl, rfl⟩ no)
      rw [if_pos (in8 (by omega)), cl8 (by omega), show H.1 13 46 j = nI s from hn, if_neg (nI_nlt (by omega) (by omega)), if_pos e, q_nar1]
    | succ q ih =>
      intro s u e1 e2 e3 no
      obtain ⟨u, rfl⟩ : ∃ m, u = m + 1 := ⟨u - 1, by omega⟩
      show f_M_isLast_c5 NF (f_M_isLast_l5 NF u) (nI j) (nI b) (nI i) (nI s) H = _
      unfold f_M_isLast_c5 f_M_isLast_b70
      rw [if_pos (in8 (by omega)), cl8 (by omega), show H.1 13 46 j = nI n from hn, if_pos (nI_lt (by omega) (by omega)), ad, ad, if_pos (in8 (by omega)), if_pos (in8 (by omega)), cl8 (by omega), cl8 (by omega), nI_1, nI_1, if_pos (in8 (by omega)), if_pos (in8 (by omega)), cl8 (by omega), cl8 (by omega), nI_1]
      have nx : ¬ (mS H (b + 4 * s) = mS H (b + 4 * i) ∧ mS H (b + 4 * s + 1) = mS H (b + 4 * i + 1)) → f_M_isLast_l5 NF u (nI j) (nI b) (nI i) (nI (s + 1)) H = some (if isl (mS H) b i n then 1 else 0) := fun c => ih (s + 1) u (by omega) (by omega) (by omega) (fun r r1 r2 => by
        by_cases e : r = s
        · rw [e]; exact c
        · exact no r r1 (by omega))
      by_cases c1 : mS H (b + 4 * s) = mS H (b + 4 * i)
      · rw [if_pos (show H.1 13 46 (b + 4 * s) = H.1 13 46 (b + 4 * i) from c1)]
        by_cases c2 : mS H (b + 4 * s + 1) = mS H (b + 4 * i + 1)
        · rw [if_pos (show H.1 13 46 (b + 4 * s + 1) = H.1 13 46 (b + 4 * i + 1) from c2), q_nar0]
          have e : ¬ isl (mS H) b i n = true := fun z => by
            obtain ⟨r, r1, r2⟩ := lro_ge (f := mS H) (b := b) (r := s) (n := n) (by omega) ⟨c1, c2⟩
            have z' : lro (mS H) b (mS H (b + 4 * i)) (mS H (b + 4 * i + 1)) n = some i := of_decide_eq_true z
            rw [z'] at r1
            have := Option.some.inj r1
            omega
          rw [if_neg e]
        · rw [if_neg (show ¬ H.1 13 46 (b + 4 * s + 1) = H.1 13 46 (b + 4 * i + 1) from c2)]
          exact nx (fun z => c2 z.2)
      · rw [if_neg (show ¬ H.1 13 46 (b + 4 * s) = H.1 13 46 (b + 4 * i) from c1)]
        exact nx (fun z => c1 z.1)
  unfold f_M_isLast
  rw [nI_1]
  exact lp (n - (i + 1)) (i + 1) NF (by omega) (NF_gt (by omega)) (by omega) (fun r r1 r2 => by omega)
/-- losses -/
theorem IT_w {f : Nat → Int32} {j b n : Nat} (h : ITw f j b) (hn : f j = nI n) (n2 : n < 2 ^ 31) : n ≤ 12 ∧ ∀ r, r < n → pl f 1 (b + 4 * r) ∧ kd f (b + 4 * r + 1) ∧ FE f (b + 4 * r + 2) := by
  obtain ⟨n', m1, m2, m3⟩ := h
  obtain rfl : n' = n := (nI_eq (by omega) (by omega)).mp (m2.symm.trans hn)
  exact ⟨m1, m3⟩
theorem LK_lose {c : Nat} {hc hm : sh_H} (h : St c hc hm) (hc5 : c ≤ 512) {t : Nat} (ht : mS hm 9 = nI t) (ht2 : t ≤ 240) : ∃ hc' hm', f_Calendar_lose NF hc.2.2.1 0 hc = some hc' ∧ f_M_loses NF (nI t) hm = some hm' ∧ LK c hc hm hc' hm' := by
  obtain ⟨n, n1, n2, -⟩ := (St_T h).2.2.2.1
  have j3 : ai_in (3 : Int32) 8000 := in8 (k := 3) (by omega)
  have lp : ∀ (q i u : Nat) (H G : sh_H), i + q = n → q < u → LK c hc hm H G → ∃ hc' hm', f_Calendar_lose_l2 NF u hc.2.2.1 0 (nI i) H = some hc' ∧ f_M_loses_l2 NF u (nI t) (nI i) G = some hm' ∧ LK c hc hm hc' hm' := by
    intro q
    induction q with
    | zero =>
      intro i u H G e1 e2 x
      obtain ⟨u, rfl⟩ : ∃ m, u = m + 1 := ⟨u - 1, by omega⟩
      have g4 : mS G 3 = nI n := (x.2.2.2.2.2 3 (by omega)).trans n2
      refine ⟨H, G, ?_, ?_, x⟩
      · show f_Calendar_lose_c2 NF (f_Calendar_lose_l2 NF u) hc.2.2.1 0 (nI i) H = _
        unfold f_Calendar_lose_c2 f_Rows_size
        rw [← x.tx, St_z x.1 3 (by omega), g4, Option.bind_some, if_neg (nI_nlt (by omega) (by omega))]
      · show f_M_loses_c2 NF (f_M_loses_l2 NF u) (nI t) (nI i) G = _
        unfold f_M_loses_c2
        rw [if_pos j3, show G.1 13 46 (3 : Int32).toNatClampNeg = nI n from g4, if_neg (nI_nlt (by omega) (by omega))]
    | succ q ih =>
      intro i u H G e1 e2 x
      obtain ⟨u, rfl⟩ : ∃ m, u = m + 1 := ⟨u - 1, by omega⟩
      have hi : i < n := by omega
      have g4 : mS G 3 = nI n := (x.2.2.2.2.2 3 (by omega)).trans n2
      have g9 : mS G 9 = nI t := (x.2.2.2.2.2 9 (by omega)).trans ht
      obtain ⟨-, rows⟩ := IT_w (St_T x.1).2.2.2.1 g4 (by omega)
      obtain ⟨p1, p3, fe⟩ := rows i hi
      obtain ⟨a, -, a5, ea, -⟩ := pl_n p1
      obtain ⟨k, k6, ek, -⟩ := kd_n p3
      rw [show 100 + 4 * i + 2 = 102 + 4 * i by omega] at fe
      have tx := x.tx
      have t7 : H.1 7 0 4 = nI t := (rSt_0 x.1).2.2.2.2.1.trans (by rw [Nat.zero_add]; exact g9)
      have c0 : f_Rows_get (7 * H.2.2.1 + 3) (nI i) 0 H = some (nI a) := (tx_get x.1 (j := 3) (r := i) (q := 0) (by omega) g4 (by omega) hi (by omega) (by decide) (by decide)).trans (by show some (mS G (100 + 4 * i + 0)) = _; rw [Nat.add_zero, ea])
      have c1 : f_Rows_get (7 * H.2.2.1 + 3) (nI i) 1 H = some (nI k) := (tx_get x.1 (j := 3) (r := i) (q := 1) (by omega) g4 (by omega) hi (by omega) (by decide) (by decide)).trans (by show some (mS G (100 + 4 * i + 1)) = _; rw [ek])
      have lo := C_lastOf x.1 (Or.inr rfl) g4 n1 (nI a) (nI k)
      have il : lro (mS G) (tb_b 3) (nI a) (nI k) n = some i ↔ isl (mS G) 100 i n = true := by
        unfold isl
        rw [ea, ek, decide_eq_true_eq]
        exact Iff.rfl
      have inF : f_Text_isInForce NF hc.2.2.1 (7 * hc.2.2.1 + 3) (nI i) H = some (if isl (mS G) 100 i n then 1 else 0) := by
        unfold f_Text_isInForce
        rw [← tx, c0, Option.bind_some, c1, Option.bind_some, lo, Option.bind_some, q_nar0, q_nar1]
        by_cases z : isl (mS G) 100 i n = true
        · rw [if_pos z, il.mpr z, if_pos (show oI2 (some i) (-1) = nI i from rfl)]
        · rw [if_neg z, if_neg]
          intro y
          cases e : lro (mS G) (tb_b 3) (nI a) (nI k) n with
          | none =>
            rw [e] at y
            exact nI_pos (n := i) (by omega) (by rw [← y]; decide)
          | some r =>
            rw [e] at y
            have r1 := (lro_some e).1
            have : r = i := (nI_eq (by omega) (by omega)).mp y
            exact z (il.mp (by rw [e, this]))
      have mL := M_isLast (H := G) (j := 3) (b := 100) (i := i) (by omega) (by omega) g4 n1 hi
      by_cases z : isl (mS G) 100 i n = true
      · rw [if_pos z] at inF mL
        obtain ⟨al1, -⟩ := al_of (St_S x.1) hc5 a5 k6
        have ca := C_all' x.1 hc5 a5 k6
        have ma := M_all' (St_S x.1) hc5 (sM.rf G) a5 k6
        obtain ⟨C1, s1, s2⟩ := C_says x.1 (j := 3) (r := i) (x := 102 + 4 * i) (by omega) g4 (by omega) hi (by show _ = 100 + 4 * i + 2; omega) (by decide) (by decide) (by decide) fe (nI (t % 12)) (nI (al (mS G) a k)) 0 0
        obtain ⟨A, M1, r1, r2, r3, r4⟩ := M_says x.1 (x := 102 + 4 * i) (by omega) fe (nI (t % 12)) (nI (al (mS G) a k)) 0 0
        generalize ev : fval (mS G) (fq (nI (t % 12)) (nI (al (mS G) a k)) 0 0) (102 + 4 * i) = v at s1 r3
        have L1 := LK.sc x.1 s2 r4
        have cl := clN_le v (al (mS G) a k)
        obtain ⟨C2, M2, z1, z2, z3⟩ := LK_go L1.1 (p1 := a) (k := k) (b := 1) (n := clN v (al (mS G) a k)) (a2 := -1) a5 (Or.inr rfl) k6 (Nat.le_refl _) (by omega) hc5
        obtain ⟨C3, M3, y1, y2, y3⟩ := ih (i + 1) u C2 M2 (by omega) (by omega) ((x.tr L1).tr z3)
        refine ⟨C3, M3, ?_, ?_, y3⟩
        · show f_Calendar_lose_c2 NF (f_Calendar_lose_l2 NF u) hc.2.2.1 0 (nI i) H = _
          unfold f_Calendar_lose_c2 f_Rows_size f_Calendar_lose_b99
          rw [inF, ← tx, St_z x.1 3 (by omega), g4, Option.bind_some, if_pos (nI_lt hi (by omega)), Option.bind_some, if_neg q_10, c0, Option.bind_some, c1, Option.bind_some, ca, Option.bind_some, if_pos n12, t7, q_m12 (by omega), s1, sh_b2_some, CB_limit (by omega), Option.bind_some, show f_Pieces_move NF 0 (nI k) (nI a) (-1) (nI (clN v (al (mS G) a k))) 1 C1 = _ from z1, Option.bind_some, nI_1, tx]
          exact y1
        · show f_M_loses_c2 NF (f_M_loses_l2 NF u) (nI t) (nI i) G = _
          unfold f_M_loses_c2 f_M_loses_b101
          have a0 : (100 : Int32) + 4 * nI i = nI (100 + 4 * i) := by rw [show (100 : Int32) = nI 100 from rfl, show (4 : Int32) = nI 4 from rfl, q_mul, nI_add]
          have a1 : nI (100 + 4 * i) + 1 = nI (100 + 4 * i + 1) := nI_1 _
          have a2 : nI (100 + 4 * i) + 2 = nI (102 + 4 * i) := by rw [show (2 : Int32) = nI 2 from rfl, nI_add]; congr 1; omega
          have v0 : G.1 13 46 (nI (100 + 4 * i)).toNatClampNeg = nI a := by rw [cl8 (by omega)]; exact ea
          have v1 : G.1 13 46 (nI (100 + 4 * i + 1)).toNatClampNeg = nI k := by rw [cl8 (by omega)]; exact ek
          rw [if_pos j3, show G.1 13 46 (3 : Int32).toNatClampNeg = nI n from g4, if_pos (nI_lt hi (by omega)), show f_M_isLast NF 3 100 (nI i) G = some 1 from mL, Option.bind_some, if_neg q_10, a0, a1, a2, if_pos (in8 (by omega)), if_pos (in8 (by omega)), v0, v1, ma, Option.bind_some, if_pos n12, q_m12 (by omega), r1, Option.bind_some, r3, sh_b2_some, M_within (by omega), Option.bind_some, show f_M_go NF (nI a) (-1) (nI k) (nI (clN v (al (mS G) a k))) 1 M1 = _ from z2, Option.bind_some, nI_1]
          exact y2
      · rw [if_neg z] at inF mL
        obtain ⟨C3, M3, y1, y2, y3⟩ := ih (i + 1) u H G (by omega) (by omega) x
        refine ⟨C3, M3, ?_, ?_, y3⟩
        · show f_Calendar_lose_c2 NF (f_Calendar_lose_l2 NF u) hc.2.2.1 0 (nI i) H = _
          unfold f_Calendar_lose_c2 f_Rows_size f_Calendar_lose_b99
          rw [inF, ← tx, St_z x.1 3 (by omega), g4, Option.bind_some, if_pos (nI_lt hi (by omega)), Option.bind_some, if_pos (rfl : (0 : Int32) = 0), nI_1, tx]
          exact y1
        · show f_M_loses_c2 NF (f_M_loses_l2 NF u) (nI t) (nI i) G = _
          unfold f_M_loses_c2 f_M_loses_b101
          rw [if_pos j3, show G.1 13 46 (3 : Int32).toNatClampNeg = nI n from g4, if_pos (nI_lt hi (by omega)), show f_M_isLast NF 3 100 (nI i) G = some 0 from mL, Option.bind_some, if_pos (rfl : (0 : Int32) = 0), nI_1]
          exact y2
  unfold f_Calendar_lose f_M_loses
  exact lp n 0 NF hc hm (by omega) (NF_gt (by omega)) (LK.rf h)
