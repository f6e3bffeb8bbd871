/-! PAIRS: judge, why: the class's shadow -/
def tt (G : Nat → Nat) (p k : Nat) : Nat := G ((6 * p + k) * 4 + 0) + G ((6 * p + k) * 4 + 1) + G ((6 * p + k) * 4 + 2) + G ((6 * p + k) * 4 + 3)
def GS (H : sh_H) (G : Nat → Nat) : Prop := H.1 6 27 3 = nI 30 ∧ ∀ j, j < 120 → H.1 13 33 j = nI (G j)
theorem p3 : sh_pr 3 = 27 ∧ sh_rc 27 = 33 ∧ sh_m 27 = 30 ∧ sh_w 27 = 4 := by decide
theorem S_row {H : sh_H} {G : Nat → Nat} (hC : RC H) (g : GS H G) {p k w : Nat} (hp : p < 5) (hk : k < 6) (hw : w < 4) : f_Rows_get 27 (nI (p * 6 + k)) (nI w) H = some (nI (G ((6 * p + k) * 4 + w))) := by
  obtain ⟨e1, e2, e3, e4⟩ := p3
  rw [rows_get (s := 30) hC (by omega) g.1 (by rw [e3]; omega) (by omega) (by omega), if_pos ⟨by omega, by rw [e4]; omega⟩, e2, e4, show (p * 6 + k) * 4 + w = (6 * p + k) * 4 + w by omega, g.2 _ (by omega)]
theorem S_get {H : sh_H} {G : Nat → Nat} (hC : RC H) (g : GS H G) {p k w : Nat} (hp : p < 5) (hk : k < 6) (hw : w < 4) : f_Pieces_get 3 (nI p) (nI k) (nI w) H = some (nI (G ((6 * p + k) * 4 + w))) := by
  unfold f_Pieces_get f_Pieces_row
  rw [Option.bind_some, q_row, p3.1, S_row hC g hp hk hw, Option.bind_some]
theorem S_add {H : sh_H} {G : Nat → Nat} (hC : RC H) (g : GS H G) {p k w : Nat} (hp : p < 5) (hk : k < 6) (hw : w < 4) (v : Int32) : f_Pieces_add 3 (nI p) (nI k) (nI w) v H = some (sh_pI H 13 33 ((6 * p + k) * 4 + w) (nI (G ((6 * p + k) * 4 + w)) + v)) := by
  obtain ⟨e1, e2, e3, e4⟩ := p3
  unfold f_Pieces_add f_Pieces_row
  rw [Option.bind_some, q_row, e1, S_row hC g hp hk hw, Option.bind_some, rows_put (s := 30) hC (by omega) g.1 (by rw [e3]; omega) (by omega) (by omega), if_pos ⟨by omega, by rw [e4]; omega⟩, Option.bind_some, e2, e4, show (p * 6 + k) * 4 + w = (6 * p + k) * 4 + w by omega]
theorem S_all {H : sh_H} {G : Nat → Nat} (hC : RC H) (g : GS H G) {p k : Nat} (hp : p < 5) (hk : k < 6) : f_Pieces_all NF 3 (nI p) (nI k) H = some (nI (tt G p k)) := by
  have st : ∀ n x w, w < 4 → f_Pieces_all_l5 NF (n + 1) 3 (nI p) (nI k) x (nI w) H = f_Pieces_all_l5 NF n 3 (nI p) (nI k) (x + nI (G ((6 * p + k) * 4 + w))) (nI (w + 1)) H := by
    intro n x w hw
    show f_Pieces_all_c5 NF (f_Pieces_all_l5 NF n) 3 (nI p) (nI k) x (nI w) H = _
    unfold f_Pieces_all_c5
    rw [if_pos (show nI w < (4 : Int32) from nI_lt (b := 4) hw (by omega)), S_get hC g hp hk hw, Option.bind_some, nI_1]
  unfold f_Pieces_all
  rw [NF_5]
  show f_Pieces_all_l5 NF (999995 + 5) 3 (nI p) (nI k) (nI 0) (nI 0) H = _
  rw [st _ _ 0 (by omega), st _ _ 1 (by omega), st _ _ 2 (by omega), st _ _ 3 (by omega)]
  show f_Pieces_all_c5 NF (f_Pieces_all_l5 NF 999995) 3 (nI p) (nI k) _ (nI 4) H = _
  unfold f_Pieces_all_c5 tt
  rw [if_neg (show ¬ nI 4 < 4 by decide), nI_add, nI_add, nI_add, nI_add, Nat.zero_add]
theorem tt_up {G : Nat → Nat} {p k w v p' k' : Nat} (hk : k < 6) (hw : w < 4) (hk' : k' < 6) : tt (up0 G ((6 * p + k) * 4 + w) v) p' k' + (if p' = p ∧ k' = k then G ((6 * p + k) * 4 + w) else 0) = tt G p' k' + (if p' = p ∧ k' = k then v else 0) := by
  by_cases e : p' = p ∧ k' = k
  · obtain ⟨rfl, rfl⟩ := e
    rw [if_pos ⟨rfl, rfl⟩, if_pos ⟨rfl, rfl⟩]
    have u : ∀ j, up0 G ((6 * p' + k') * 4 + w) v ((6 * p' + k') * 4 + j) = if j = w then v else G ((6 * p' + k') * 4 + j) := by
      intro j
      unfold up0
      by_cases z : j = w
      · rw [z, if_pos rfl, if_pos rfl]
      · rw [if_neg (by omega), if_neg z]
    unfold tt
    rw [u 0, u 1, u 2, u 3]
    rcases (show w = 0 ∨ w = 1 ∨ w = 2 ∨ w = 3 by omega) with rfl | rfl | rfl | rfl
    · rw [if_pos rfl, if_neg (by decide), if_neg (by decide), if_neg (by decide)]; omega
    · rw [if_neg (by decide), if_pos rfl, if_neg (by decide), if_neg (by decide)]; omega
    · rw [if_neg (by decide), if_neg (by decide), if_pos rfl, if_neg (by decide)]; omega
    · rw [if_neg (by decide), if_neg (by decide), if_neg (by decide), if_pos rfl]; omega
  · rw [if_neg e, if_neg e]
    have u : ∀ j, j < 4 → up0 G ((6 * p + k) * 4 + w) v ((6 * p' + k') * 4 + j) = G ((6 * p' + k') * 4 + j) := fun j hj => if_neg (by omega)
    unfold tt
    rw [u 0 (by omega), u 1 (by omega), u 2 (by omega), u 3 (by omega)]
theorem sum_up {G : Nat → Nat} {a v : Nat} (ha : a < 120) : sumN (up0 G a v) 120 + G a = sumN G 120 + v := by
  have := sumN_put G a v 120
  rw [if_pos ha, if_pos ha] at this
  exact this
/-- the order in which the worn ones go -/
def wv (b i : Nat) : Nat := if b = 0 then i else 3 - i
def rmS (G : Nat → Nat) (o b : Nat) : Nat → Nat → Nat
  | 0, _ => 0
  | q + 1, i => G (o + wv b i) + rmS G o b q (i + 1)
theorem rmS_up {G : Nat → Nat} {o b x v : Nat} : ∀ q i, (∀ j, i ≤ j → j < i + q → o + wv b j ≠ x) → rmS (up0 G x v) o b q i = rmS G o b q i := by
  intro q
  induction q with
  | zero => intro i _; rfl
  | succ q ih =>
    intro i h
    show up0 G x v (o + wv b i) + rmS (up0 G x v) o b q (i + 1) = _
    rw [ih (i + 1) (fun j h1 h2 => h j (by omega) (by omega)), show up0 G x v (o + wv b i) = G (o + wv b i) from if_neg (h i (Nat.le_refl _) (by omega))]
    rfl
theorem rmS_4 {G : Nat → Nat} {p k b : Nat} : rmS G ((6 * p + k) * 4) b 4 0 = tt G p k := by
  show G ((6 * p + k) * 4 + wv b 0) + (G ((6 * p + k) * 4 + wv b 1) + (G ((6 * p + k) * 4 + wv b 2) + (G ((6 * p + k) * 4 + wv b 3) + 0))) = _
  unfold tt wv
  by_cases z : b = 0
  · rw [if_pos z, if_pos z, if_pos z, if_pos z]; omega
  · rw [if_neg z, if_neg z, if_neg z, if_neg z]
    show G ((6 * p + k) * 4 + 3) + (G ((6 * p + k) * 4 + 2) + (G ((6 * p + k) * 4 + 1) + (G ((6 * p + k) * 4 + 0) + 0))) = _
    omega
theorem CB_lim {a b : Nat} (ha : a < 2 ^ 31) (hb : b < 2 ^ 31) (h : sh_H) : f_CB_limit (nI a) (nI b) h = some (nI (min a b)) := by
  unfold f_CB_limit
  rw [Math_min ha hb, Option.bind_some, Math_max0 (by omega), Option.bind_some]
theorem q_neg {a b : Nat} (h : b ≤ a) : nI a + -nI b = nI (a - b) := by rw [← Int32.sub_eq_add_neg, q_sub h]
/-- only the shadow's cells -/
def gK (E H : sh_H) : Prop := (∀ c i j, ¬ (c = 13 ∧ i = 33) → E.1 c i j = H.1 c i j) ∧ E.2 = H.2
theorem gK.pI {E H : sh_H} {j : Nat} {v : Int32} (x : gK E H) : gK (sh_pI E 13 33 j v) H := by
  refine ⟨fun c i j' n => ?_, x.2⟩
  rw [pI_ne (fun z => n ⟨z.1, z.2.1⟩)]
  exact x.1 c i j' n
theorem gK.s {E H : sh_H} (x : gK E H) : sC E H := ⟨fun c i j n => x.1 c i j (fun q => n (by unfold scC; omega)), fun _ _ _ _ => by rw [x.2], by rw [x.2]⟩
theorem GS_pI {H : sh_H} {G : Nat → Nat} {a v : Nat} (g : GS H G) : GS (sh_pI H 13 33 a (nI v)) (up0 G a v) := by
  refine ⟨g.1, fun j hj => ?_⟩
  by_cases z : j = a
  · rw [z, pI_at, show up0 G a v a = v from if_pos rfl]
  · rw [pI_ne (by omega), show up0 G a v j = G j from if_neg z]
    exact g.2 j hj
theorem C_moveS {H0 : sh_H} {G0 : Nat → Nat} {p1 p2 k b n : Nat} (hC : RC H0) (hp1 : p1 < 5) (hp2 : p2 < 5) (hne : p1 ≠ p2) (hk : k < 6) (hb : b ≤ 1) (g : GS H0 G0) (hS : sumN G0 120 < 2 ^ 30) (hn : n ≤ tt G0 p1 k) (hn2 : n < 2 ^ 30) : ∃ E G, f_Pieces_move NF 3 (nI k) (nI p1) (nI p2) (nI n) (nI b) H0 = some E ∧ gK E H0 ∧ GS E G ∧ sumN G 120 = sumN G0 120 ∧ ∀ p' k', p' < 5 → k' < 6 → tt G p' k' = if p' = p1 ∧ k' = k then tt G0 p' k' - n else if p' = p2 ∧ k' = k then tt G0 p' k' + n else tt G0 p' k' := by
  have lp : ∀ (q i u l : Nat) (H : sh_H) (G : Nat → Nat), i + q = 4 → q < u → gK H H0 → GS H G → sumN G 120 = sumN G0 120 → l ≤ n → tt G p1 k + (n - l) = tt G0 p1 k → tt G p2 k = tt G0 p2 k + (n - l) → (∀ p' k', p' < 5 → k' < 6 → ¬ (p' = p1 ∧ k' = k) → ¬ (p' = p2 ∧ k' = k) → tt G p' k' = tt G0 p' k') → l ≤ rmS G ((6 * p1 + k) * 4) b q i → ∃ E G, f_Pieces_move_l7 NF u 3 (nI k) (nI p1) (nI p2) (nI b) (nI l) (nI i) H = some E ∧ gK E H0 ∧ GS E G ∧ sumN G 120 = sumN G0 120 ∧ ∀ p' k', p' < 5 → k' < 6 → tt G p' k' = if p' = p1 ∧ k' = k then tt G0 p' k' - n else if p' = p2 ∧ k' = k then tt G0 p' k' + n else tt G0 p' k' := by
    intro q
    induction q with
    | zero =>
      intro i u l H G e1 e2 x gs s1 l1 t1 t2 t3 r
      obtain ⟨u, rfl⟩ : ∃ m, u = m + 1 := ⟨u - 1, by omega⟩
      obtain rfl : i = 4 := by omega
      have r' : l ≤ 0 := r
      obtain rfl : l = 0 := by omega
      refine ⟨H, G, ?_, x, gs, s1, fun p' k' h1 h2 => ?_⟩
      · show f_Pieces_move_c7 NF (f_Pieces_move_l7 NF u) 3 (nI k) (nI p1) (nI p2) (nI b) (nI 0) (nI 4) H = _
        unfold f_Pieces_move_c7
        rw [if_neg (show ¬ nI 4 < 4 by decide)]
      · by_cases c1 : p' = p1 ∧ k' = k
        · obtain ⟨rfl, rfl⟩ := c1
          rw [if_pos ⟨rfl, rfl⟩]; omega
        · rw [if_neg c1]
          by_cases c2 : p' = p2 ∧ k' = k
          · obtain ⟨rfl, rfl⟩ := c2
            rw [if_pos ⟨rfl, rfl⟩]; omega
          · rw [if_neg c2]; exact t3 p' k' h1 h2 c1 c2
    | succ q ih =>
      intro i u l H G e1 e2 x gs s1 l1 t1 t2 t3 r
      obtain ⟨u, rfl⟩ : ∃ m, u = m + 1 := ⟨u - 1, by omega⟩
      have hCH : RC H := RC_of hC (fun r j hr hj => x.1 6 r j (by omega))
      have w4 : wv b i < 4 := by unfold wv; split <;> omega
      have cut : f_Pieces_move_l7 NF (u + 1) 3 (nI k) (nI p1) (nI p2) (nI b) (nI l) (nI i) H = f_Pieces_move_b27 NF (f_Pieces_move_l7 NF u) 3 (nI k) (nI p1) (nI p2) (nI b) (nI l) (nI i) (nI (wv b i)) H := by
        show f_Pieces_move_c7 NF (f_Pieces_move_l7 NF u) 3 (nI k) (nI p1) (nI p2) (nI b) (nI l) (nI i) H = _
        unfold f_Pieces_move_c7
        rw [if_pos (show nI i < 4 from nI_lt (b := 4) (by omega) (by omega))]
        unfold wv
        by_cases z : b = 0
        · rw [if_pos z, if_pos (show nI b = 0 by rw [z]; rfl)]
        · rw [if_neg z, if_neg (nI_ne0 (by omega) (by omega)), show (3 : Int32) - nI i = nI (3 - i) from q_sub (a := 3) (by omega)]
      rw [cut]
      unfold f_Pieces_move_b27 f_Pieces_move_b70
      generalize ea : (6 * p1 + k) * 4 + wv b i = a1
      have ha1 : a1 < 120 := by omega
      have gl := sumN_le (g := G) (q := a1) (n := 120) ha1
      have t4 : min l (G a1) ≤ G a1 := Nat.min_le_right _ _
      have m1 : ¬ nI p2 = -1 := fun z => nI_pos (n := p2) (by omega) (by rw [z]; decide)
      have gs1 : GS (sh_pI H 13 33 a1 (nI (G a1 - min l (G a1)))) (up0 G a1 (G a1 - min l (G a1))) := GS_pI gs
      have hC1 : RC (sh_pI H 13 33 a1 (nI (G a1 - min l (G a1)))) := RC_of hCH (fun r j hr hj => pI_ne (by omega))
      rw [S_get hCH gs hp1 hk w4, ea, Option.bind_some, CB_lim (by omega) (by omega), Option.bind_some, S_add hCH gs hp1 hk w4, ea, Option.bind_some, if_neg m1, q_neg t4, S_add hC1 gs1 hp2 hk w4, Option.bind_some, q_sub (by omega), nI_1]
      generalize ea2 : (6 * p2 + k) * 4 + wv b i = a2
      have hne2 : a2 ≠ a1 := by omega
      have e21 : up0 G a1 (G a1 - min l (G a1)) a2 = G a2 := if_neg hne2
      rw [e21, nI_add]
      have su1 := sum_up (G := G) (a := a1) (v := G a1 - min l (G a1)) ha1
      have su2 := sum_up (G := up0 G a1 (G a1 - min l (G a1))) (a := a2) (v := G a2 + min l (G a1)) (by omega)
      rw [e21] at su2
      have T1 : ∀ p' k', k' < 6 → tt (up0 G a1 (G a1 - min l (G a1))) p' k' + (if p' = p1 ∧ k' = k then G a1 else 0) = tt G p' k' + (if p' = p1 ∧ k' = k then G a1 - min l (G a1) else 0) := by
        intro p' k' h2
        rw [← ea]
        exact tt_up hk w4 h2
      have T2 : ∀ p' k', k' < 6 → tt (up0 (up0 G a1 (G a1 - min l (G a1))) a2 (G a2 + min l (G a1))) p' k' + (if p' = p2 ∧ k' = k then G a2 else 0) = tt (up0 G a1 (G a1 - min l (G a1))) p' k' + (if p' = p2 ∧ k' = k then G a2 + min l (G a1) else 0) := by
        intro p' k' h2
        have := tt_up (G := up0 G a1 (G a1 - min l (G a1))) (p := p2) (k := k) (w := wv b i) (v := G a2 + min l (G a1)) (p' := p') (k' := k') hk w4 h2
        rw [ea2, e21] at this
        exact this
      refine ih (i + 1) u (l - min l (G a1)) _ _ (by omega) (by omega) x.pI.pI (GS_pI gs1) (by omega) (by omega) ?_ ?_ (fun p' k' h1 h2 c1 c2 => ?_) ?_
      · have a := T1 p1 k hk
        have b := T2 p1 k hk
        rw [if_pos ⟨rfl, rfl⟩, if_pos ⟨rfl, rfl⟩] at a
        rw [if_neg (fun z => hne z.1), if_neg (fun z => hne z.1)] at b
        omega
      · have a := T1 p2 k hk
        have b := T2 p2 k hk
        rw [if_neg (fun z => hne z.1.symm), if_neg (fun z => hne z.1.symm)] at a
        rw [if_pos ⟨rfl, rfl⟩, if_pos ⟨rfl, rfl⟩] at b
        omega
      · have a := T1 p' k' h2
        have b := T2 p' k' h2
        rw [if_neg c1, if_neg c1] at a
        rw [if_neg c2, if_neg c2] at b
        have := t3 p' k' h1 h2 c1 c2
        omega
      · have wi : ∀ j, i + 1 ≤ j → j < i + 1 + q → (6 * p1 + k) * 4 + wv b j ≠ a1 := by
          intro j j1 j2
          rw [← ea]
          unfold wv
          split <;> omega
        have wi2 : ∀ j, i + 1 ≤ j → j < i + 1 + q → (6 * p1 + k) * 4 + wv b j ≠ a2 := by
          intro j j1 j2
          have w5 : wv b j < 4 := by unfold wv; split <;> omega
          omega
        rw [rmS_up q (i + 1) wi2, rmS_up q (i + 1) wi]
        have r' : l ≤ G ((6 * p1 + k) * 4 + wv b i) + rmS G ((6 * p1 + k) * 4) b q (i + 1) := r
        rw [ea] at r'
        omega
  unfold f_Pieces_move
  exact lp 4 0 NF n H0 G0 (by omega) (NF_gt (by omega)) ⟨fun _ _ _ _ => rfl, rfl⟩ g rfl (Nat.le_refl _) (by omega) (by omega) (fun _ _ _ _ _ _ => rfl) (by rw [rmS_4]; exact hn)
