/-! shallow functions, written by program -/
def f_Reader_nest_b109 (N : Nat)   (s1 : Int32) (h : sh_H) : Option sh_H := (Option.bind (f_Reader_expect s1 h) (fun h1 => (some h1)))
theorem x_Reader_nest_b109 (N : Nat) {d : Nat} (hd : 2 ≤ d) {Q : ai_Q} {R : sh_H → Prop} (hR : ∀ h, R h → Q none (sh_E h))   (s1 : Int32) {d0 d1 d2 d3 d4 : Option ai_V} (h : sh_H) (H : sh_ok (f_Reader_nest_b109 N s1 h) R) : wq_91 d Q 109 [d0, d1, d2, d3, d4] [aI s1, aR 5 0] (sh_E h) := by
  refine ai_WP_steps mc_91 (sh_CM d) 1 (And.intro (Nat.le_of_ble_eq_true rfl) (x_Reader_expect (Nat.le_trans (Nat.le_of_ble_eq_true rfl) hd) s1 h (sh_okB H) (fun h1 H => ?_)))
  show wq_91 d Q 112 [_, _, _, _, _] [] (sh_E h1)
  exact ai_WP_steps mc_91 (sh_CM d) 1 (hR h1 H)
def f_Reader_nest_b97 (N : Nat)   (l3 : Int32) (h : sh_H) : Option sh_H := (if l3 = 0 then f_Reader_nest_b109 N (41 : Int32) h else f_Reader_nest_b109 N (93 : Int32) h)
theorem x_Reader_nest_b97 (N : Nat) {d : Nat} (hd : 2 ≤ d) {Q : ai_Q} {R : sh_H → Prop} (hR : ∀ h, R h → Q none (sh_E h))   (l3 : Int32) {d1 d2 d4 : Option ai_V} (h : sh_H) (H : sh_ok (f_Reader_nest_b97 N l3 h) R) : wq_91 d Q 97 [oR 5 0, d1, d2, oI l3, d4] [] (sh_E h) := by
  refine ai_WP_steps mc_91 (sh_CM d) 3 (And.intro (fun c => ?_) (fun c => ?_))
  · replace H := sh_okT c H
    show wq_91 d Q 107 [oR 5 0, _, _, oI l3, _] [aR 5 0] (sh_E h)
    refine ai_WP_steps mc_91 (sh_CM d) 1 ?_
    exact x_Reader_nest_b109 N hd hR (41 : Int32) h H
  · replace H := sh_okF c H
    show wq_91 d Q 102 [oR 5 0, _, _, oI l3, _] [aR 5 0] (sh_E h)
    refine ai_WP_steps mc_91 (sh_CM d) 2 ?_
    exact x_Reader_nest_b109 N hd hR (93 : Int32) h H
def f_Reader_nest_b72 (N : Nat) (g0 : Nat → Int32 → sh_H → Option sh_H)  (l1 : Nat) (l2 : Int32) (l3 : Int32) (l4 : Int32) (s1 : Int32) (h : sh_H) : Option sh_H := (Option.bind (f_Reader_expect s1 h) (fun h2 => (if (h2.1 5 0 4) = 0 then (Option.bind (g0 l1 (l2 + (1 : Int32)) h2) (fun h3 => (Option.bind (f_Formulas_add l1 l4 (0 : Int32) h3) (fun h4 => f_Reader_nest_b97 N l3 h4)))) else f_Reader_nest_b97 N l3 h2)))
theorem x_Reader_nest_b72 (N : Nat) {d : Nat} (hd : 2 ≤ d) {Q : ai_Q} {R : sh_H → Prop} (hR : ∀ h, R h → Q none (sh_E h)) (g0 : Nat → Int32 → sh_H → Option sh_H) (hg0 : ∀ (a : Nat) (b : Int32) (h : sh_H) {Q2 : ai_Q} {R2 : sh_H → Prop}, sh_ok (g0 a b h) R2 → (∀ h', R2 h' → Q2 none (sh_E h')) → ai_Ex sh_T d 88 [aR 5 0, aR 2 a, aI b] (sh_E h) Q2)  (l1 : Nat) (l2 : Int32) (l3 : Int32) (l4 : Int32) (s1 : Int32) (h : sh_H) (H : sh_ok (f_Reader_nest_b72 N g0 l1 l2 l3 l4 s1 h) R) : wq_91 d Q 72 [oR 5 0, oR 2 l1, oI l2, oI l3, oI l4] [aI s1, aR 5 0] (sh_E h) := by
  refine ai_WP_steps mc_91 (sh_CM d) 1 (And.intro (Nat.le_of_ble_eq_true rfl) (x_Reader_expect (Nat.le_trans (Nat.le_of_ble_eq_true rfl) hd) s1 h (sh_okB H) (fun h2 H => ?_)))
  show wq_91 d Q 75 [oR 5 0, oR 2 l1, oI l2, oI l3, oI l4] [] (sh_E h2)
  refine ai_WP_steps mc_91 (sh_CM d) 3 (And.intro (fun c => ?_) (fun c => ?_))
  · replace H := sh_okT c H
    show wq_91 d Q 82 [oR 5 0, oR 2 l1, oI l2, oI l3, oI l4] [] (sh_E h2)
    refine ai_WP_steps mc_91 (sh_CM d) 6 (And.intro (Nat.le_of_ble_eq_true rfl) (hg0 l1 (l2 + (1 : Int32)) h2 (sh_okB H) (fun h3 H => ?_)))
    show wq_91 d Q 90 [oR 5 0, oR 2 l1, oI l2, oI l3, oI l4] [] (sh_E h3)
    refine ai_WP_steps mc_91 (sh_CM d) 4 (And.intro (Nat.le_of_ble_eq_true rfl) (x_Formulas_add (Nat.le_trans (Nat.le_of_ble_eq_true rfl) hd) l1 l4 (0 : Int32) h3 (sh_okB H) (fun h4 H => ?_)))
    show wq_91 d Q 97 [oR 5 0, oR 2 l1, oI l2, oI l3, oI l4] [] (sh_E h4)
    exact x_Reader_nest_b97 N hd hR l3 h4 H
  · replace H := sh_okF c H
    exact x_Reader_nest_b97 N hd hR l3 h2 H
def f_Reader_nest_b26 (N : Nat) (g0 : Nat → Int32 → sh_H → Option sh_H)  (l1 : Nat) (l2 : Int32) (s0 : Int32) (h : sh_H) : Option sh_H := (Option.bind (f_Reader_accept h) (fun h5 => (if (h5.1 5 0 4) = 0 then (Option.bind (g0 l1 (l2 + (1 : Int32)) h5) (fun h6 => (if s0 = 0 then f_Reader_nest_b97 N s0 h6 else (Option.bind (f_Reader_upcoming h6) (fun v7 => (if v7 = (22 : Int32) then f_Reader_nest_b72 N g0 l1 l2 s0 v7 (22 : Int32) h6 else f_Reader_nest_b72 N g0 l1 l2 s0 v7 (60 : Int32) h6)))))) else (some h5))))
theorem x_Reader_nest_b26 (N : Nat) {d : Nat} (hd : 2 ≤ d) {Q : ai_Q} {R : sh_H → Prop} (hR : ∀ h, R h → Q none (sh_E h)) (g0 : Nat → Int32 → sh_H → Option sh_H) (hg0 : ∀ (a : Nat) (b : Int32) (h : sh_H) {Q2 : ai_Q} {R2 : sh_H → Prop}, sh_ok (g0 a b h) R2 → (∀ h', R2 h' → Q2 none (sh_E h')) → ai_Ex sh_T d 88 [aR 5 0, aR 2 a, aI b] (sh_E h) Q2)  (l1 : Nat) (l2 : Int32) (s0 : Int32) {d3 d4 : Option ai_V} (h : sh_H) (H : sh_ok (f_Reader_nest_b26 N g0 l1 l2 s0 h) R) : wq_91 d Q 26 [oR 5 0, oR 2 l1, oI l2, d3, d4] [aI s0] (sh_E h) := by
  refine ai_WP_steps mc_91 (sh_CM d) 3 (And.intro (Nat.le_of_ble_eq_true rfl) (x_Reader_accept (Nat.le_trans (Nat.le_of_ble_eq_true rfl) hd) h (sh_okB H) (fun h5 H => ?_)))
  show wq_91 d Q 31 [oR 5 0, oR 2 l1, oI l2, oI s0, _] [] (sh_E h5)
  refine ai_WP_steps mc_91 (sh_CM d) 3 (And.intro (fun c => ?_) (fun c => ?_))
  · replace H := sh_okT c H
    show wq_91 d Q 39 [oR 5 0, oR 2 l1, oI l2, oI s0, _] [] (sh_E h5)
    refine ai_WP_steps mc_91 (sh_CM d) 6 (And.intro (Nat.le_of_ble_eq_true rfl) (hg0 l1 (l2 + (1 : Int32)) h5 (sh_okB H) (fun h6 H => ?_)))
    show wq_91 d Q 47 [oR 5 0, oR 2 l1, oI l2, oI s0, _] [] (sh_E h6)
    refine ai_WP_steps mc_91 (sh_CM d) 2 (And.intro (fun c => ?_) (fun c => ?_))
    · replace H := sh_okT c H
      exact x_Reader_nest_b97 N hd hR s0 h6 H
    · replace H := sh_okF c H
      show wq_91 d Q 51 [oR 5 0, oR 2 l1, oI l2, oI s0, _] [] (sh_E h6)
      refine ai_WP_steps mc_91 (sh_CM d) 2 (And.intro (Nat.le_of_ble_eq_true rfl) (x_Reader_upcoming (Nat.le_trans (Nat.le_of_ble_eq_true rfl) hd) h6 (sh_okB H) (fun v7 H => ?_)))
      show wq_91 d Q 55 [oR 5 0, oR 2 l1, oI l2, oI s0, _] [aI v7] (sh_E h6)
      refine ai_WP_steps mc_91 (sh_CM d) 5 (And.intro (fun c => ?_) (fun c => ?_))
      · replace H := sh_okT c H
        show wq_91 d Q 65 [oR 5 0, oR 2 l1, oI l2, oI s0, oI v7] [aR 5 0] (sh_E h6)
        refine ai_WP_steps mc_91 (sh_CM d) 2 ?_
        exact x_Reader_nest_b72 N hd hR g0 hg0 l1 l2 s0 v7 (22 : Int32) h6 H
      · replace H := sh_okF c H
        show wq_91 d Q 70 [oR 5 0, oR 2 l1, oI l2, oI s0, oI v7] [aR 5 0] (sh_E h6)
        refine ai_WP_steps mc_91 (sh_CM d) 1 ?_
        exact x_Reader_nest_b72 N hd hR g0 hg0 l1 l2 s0 v7 (60 : Int32) h6 H
  · replace H := sh_okF c H
    show wq_91 d Q 38 [oR 5 0, oR 2 l1, oI l2, oI s0, _] [] (sh_E h5)
    exact ai_WP_steps mc_91 (sh_CM d) 1 (hR h5 H)
def F_Reader_nest (N : Nat) (g0 : Nat → Int32 → sh_H → Option sh_H) (l1 : Nat) (l2 : Int32) (h : sh_H) : Option sh_H := (if l2 < (6 : Int32) then (Option.bind (f_Reader_upcoming h) (fun v8 => (if v8 = (91 : Int32) then f_Reader_nest_b26 N g0 l1 l2 (1 : Int32) h else f_Reader_nest_b26 N g0 l1 l2 (0 : Int32) h))) else (Option.bind (f_Reader_fail (2 : Int32) h) (fun h9 => (some h9))))
theorem X_Reader_nest (N : Nat) {d : Nat} (hd : 2 ≤ d) (g0 : Nat → Int32 → sh_H → Option sh_H) (hg0 : ∀ (a : Nat) (b : Int32) (h : sh_H) {Q2 : ai_Q} {R2 : sh_H → Prop}, sh_ok (g0 a b h) R2 → (∀ h', R2 h' → Q2 none (sh_E h')) → ai_Ex sh_T d 88 [aR 5 0, aR 2 a, aI b] (sh_E h) Q2) (l1 : Nat) (l2 : Int32) (h : sh_H) {Q : ai_Q} {R : sh_H → Prop} (H : sh_ok (F_Reader_nest N g0 l1 l2 h) R) (hR : ∀ h, R h → Q none (sh_E h)) : ai_Ex sh_T (d + 1) 91 [aR 5 0, aR 2 l1, aI l2] (sh_E h) Q := by
  refine And.intro (Nat.le_of_ble_eq_true rfl) ?_
  show wq_91 d Q 0 [oR 5 0, oR 2 l1, oI l2, none, none] [] (sh_E h)
  refine ai_WP_steps mc_91 (sh_CM d) 3 (And.intro (fun c => ?_) (fun c => ?_))
  · replace H := sh_okT c H
    show wq_91 d Q 12 [oR 5 0, oR 2 l1, oI l2, _, _] [] (sh_E h)
    refine ai_WP_steps mc_91 (sh_CM d) 2 (And.intro (Nat.le_of_ble_eq_true rfl) (x_Reader_upcoming (Nat.le_trans (Nat.le_of_ble_eq_true rfl) hd) h (sh_okB H) (fun v8 H => ?_)))
    show wq_91 d Q 16 [oR 5 0, oR 2 l1, oI l2, _, _] [aI v8] (sh_E h)
    refine ai_WP_steps mc_91 (sh_CM d) 2 (And.intro (fun c => ?_) (fun c => ?_))
    · replace H := sh_okT c H
      show wq_91 d Q 21 [oR 5 0, oR 2 l1, oI l2, _, _] [] (sh_E h)
      refine ai_WP_steps mc_91 (sh_CM d) 2 ?_
      exact x_Reader_nest_b26 N hd hR g0 hg0 l1 l2 (1 : Int32) h H
    · replace H := sh_okF c H
      show wq_91 d Q 25 [oR 5 0, oR 2 l1, oI l2, _, _] [] (sh_E h)
      refine ai_WP_steps mc_91 (sh_CM d) 1 ?_
      exact x_Reader_nest_b26 N hd hR g0 hg0 l1 l2 (0 : Int32) h H
  · replace H := sh_okF c H
    show wq_91 d Q 6 [oR 5 0, oR 2 l1, oI l2, _, _] [] (sh_E h)
    refine ai_WP_steps mc_91 (sh_CM d) 3 (And.intro (Nat.le_of_ble_eq_true rfl) (x_Reader_fail (Nat.le_trans (Nat.le_of_ble_eq_true rfl) hd) (2 : Int32) h (sh_okB H) (fun h9 H => ?_)))
    show wq_91 d Q 11 [oR 5 0, oR 2 l1, oI l2, _, _] [] (sh_E h9)
    exact ai_WP_steps mc_91 (sh_CM d) 1 (hR h9 H)
def Reader_rec (N n : Nat) : (Nat → Int32 → sh_H → Option sh_H) × (Nat → Int32 → sh_H → Option sh_H) × (Nat → Int32 → sh_H → Option sh_H) × (Nat → Int32 → sh_H → Option sh_H) := Nat.rec (motive := fun _ => (Nat → Int32 → sh_H → Option sh_H) × (Nat → Int32 → sh_H → Option sh_H) × (Nat → Int32 → sh_H → Option sh_H) × (Nat → Int32 → sh_H → Option sh_H)) ((fun _ _ _ => none), (fun _ _ _ => none), (fun _ _ _ => none), (fun _ _ _ => none)) (fun _ ih => (F_Reader_sum N ih.2.1, F_Reader_product N ih.2.2.1, F_Reader_unit N ih.2.2.2, F_Reader_nest N ih.1)) n
theorem x_recall (N n : Nat) : ∀ {d : Nat}, 2 + n ≤ d → (∀ (a : Nat) (b : Int32) (h : sh_H) {Q2 : ai_Q} {R2 : sh_H → Prop}, sh_ok ((Reader_rec N n).1 a b h) R2 → (∀ h', R2 h' → Q2 none (sh_E h')) → ai_Ex sh_T d 88 [aR 5 0, aR 2 a, aI b] (sh_E h) Q2) ∧ (∀ (a : Nat) (b : Int32) (h : sh_H) {Q2 : ai_Q} {R2 : sh_H → Prop}, sh_ok ((Reader_rec N n).2.1 a b h) R2 → (∀ h', R2 h' → Q2 none (sh_E h')) → ai_Ex sh_T d 89 [aR 5 0, aR 2 a, aI b] (sh_E h) Q2) ∧ (∀ (a : Nat) (b : Int32) (h : sh_H) {Q2 : ai_Q} {R2 : sh_H → Prop}, sh_ok ((Reader_rec N n).2.2.1 a b h) R2 → (∀ h', R2 h' → Q2 none (sh_E h')) → ai_Ex sh_T d 90 [aR 5 0, aR 2 a, aI b] (sh_E h) Q2) ∧ (∀ (a : Nat) (b : Int32) (h : sh_H) {Q2 : ai_Q} {R2 : sh_H → Prop}, sh_ok ((Reader_rec N n).2.2.2 a b h) R2 → (∀ h', R2 h' → Q2 none (sh_E h')) → ai_Ex sh_T d 91 [aR 5 0, aR 2 a, aI b] (sh_E h) Q2) := by
  induction n with
  | zero => intro d hd; exact ⟨fun a b h _ _ H _ => H.elim, fun a b h _ _ H _ => H.elim, fun a b h _ _ H _ => H.elim, fun a b h _ _ H _ => H.elim⟩
  | succ n ih =>
    intro d hd
    obtain ⟨d, rfl⟩ : ∃ e, d = e + 1 := ⟨d - 1, by omega⟩
    have hd' : 2 ≤ d := by omega
    obtain ⟨i0, i1, i2, i3⟩ := ih (d := d) (by omega)
    exact ⟨fun a b h _ _ H hR => X_Reader_sum N hd' _ @i1 a b h H hR, fun a b h _ _ H hR => X_Reader_product N hd' _ @i2 a b h H hR, fun a b h _ _ H hR => X_Reader_unit N hd' _ @i3 a b h H hR, fun a b h _ _ H hR => X_Reader_nest N hd' _ @i0 a b h H hR⟩
theorem x_rec0 (N n : Nat) {d : Nat} (hd : 2 + n ≤ d) (a : Nat) (b : Int32) (h : sh_H) {Q2 : ai_Q} {R2 : sh_H → Prop} (H : sh_ok ((Reader_rec N n).1 a b h) R2) (hR : ∀ h', R2 h' → Q2 none (sh_E h')) : ai_Ex sh_T d 88 [aR 5 0, aR 2 a, aI b] (sh_E h) Q2 := (x_recall N n hd).1 a b h H hR
theorem x_rec1 (N n : Nat) {d : Nat} (hd : 2 + n ≤ d) (a : Nat) (b : Int32) (h : sh_H) {Q2 : ai_Q} {R2 : sh_H → Prop} (H : sh_ok ((Reader_rec N n).2.1 a b h) R2) (hR : ∀ h', R2 h' → Q2 none (sh_E h')) : ai_Ex sh_T d 89 [aR 5 0, aR 2 a, aI b] (sh_E h) Q2 := (x_recall N n hd).2.1 a b h H hR
theorem x_rec2 (N n : Nat) {d : Nat} (hd : 2 + n ≤ d) (a : Nat) (b : Int32) (h : sh_H) {Q2 : ai_Q} {R2 : sh_H → Prop} (H : sh_ok ((Reader_rec N n).2.2.1 a b h) R2) (hR : ∀ h', R2 h' → Q2 none (sh_E h')) : ai_Ex sh_T d 90 [aR 5 0, aR 2 a, aI b] (sh_E h) Q2 := (x_recall N n hd).2.2.1 a b h H hR
theorem x_rec3 (N n : Nat) {d : Nat} (hd : 2 + n ≤ d) (a : Nat) (b : Int32) (h : sh_H) {Q2 : ai_Q} {R2 : sh_H → Prop} (H : sh_ok ((Reader_rec N n).2.2.2 a b h) R2) (hR : ∀ h', R2 h' → Q2 none (sh_E h')) : ai_Ex sh_T d 91 [aR 5 0, aR 2 a, aI b] (sh_E h) Q2 := (x_recall N n hd).2.2.2 a b h H hR
def f_Reader_equation (N : Nat)  (l1 : Nat) (l2 : Nat) (h : sh_H) : Option sh_H := (Option.bind (f_Rows_size l1 h) (fun v1 => (Option.bind (f_Reader_expect (61 : Int32) h) (fun h2 => (Option.bind (f_Formulas_size l2 h2) (fun v3 => (Option.bind (f_Rows_put l1 (v1 - (1 : Int32)) (3 : Int32) v3 h2) (fun h4 => (Option.bind ((Reader_rec N 60).1 l2 (0 : Int32) h4) (fun h5 => (Option.bind (f_Formulas_size l2 h5) (fun v6 => (Option.bind (f_Rows_put l1 (v1 - (1 : Int32)) (4 : Int32) v6 h5) (fun h7 => (Option.bind (f_Reader_expect (59 : Int32) h7) (fun h8 => (some h8)))))))))))))))))
theorem x_Reader_equation (N : Nat) {d : Nat} (hd : 64 ≤ d) (l1 : Nat) (l2 : Nat) (h : sh_H) {Q : ai_Q} {R : sh_H → Prop} (H : sh_ok (f_Reader_equation N l1 l2 h) R) (hR : ∀ h, R h → Q none (sh_E h)) : ai_Ex sh_T d 87 [aR 5 0, aR 6 l1, aR 2 l2] (sh_E h) Q := by
  obtain ⟨d, rfl⟩ : ∃ e, d = e + 1 := ⟨d - 1, by omega⟩
  replace hd : 63 ≤ d := by omega
  refine And.intro (Nat.le_of_ble_eq_true rfl) ?_
  show wq_87 d Q 0 [oR 5 0, oR 6 l1, oR 2 l2, none] [] (sh_E h)
  refine ai_WP_steps mc_87 (sh_CM d) 2 (And.intro (Nat.le_of_ble_eq_true rfl) (x_Rows_size (Nat.le_trans (Nat.le_of_ble_eq_true rfl) hd) l1 h (sh_okB H) (fun v1 H => ?_)))
  show wq_87 d Q 4 [oR 5 0, oR 6 l1, oR 2 l2, _] [aI v1] (sh_E h)
  refine ai_WP_steps mc_87 (sh_CM d) 6 (And.intro (Nat.le_of_ble_eq_true rfl) (x_Reader_expect (Nat.le_trans (Nat.le_of_ble_eq_true rfl) hd) (61 : Int32) h (sh_okB H) (fun h2 H => ?_)))
  show wq_87 d Q 13 [oR 5 0, oR 6 l1, oR 2 l2, oI (v1 - (1 : Int32))] [] (sh_E h2)
  refine ai_WP_steps mc_87 (sh_CM d) 5 (And.intro (Nat.le_of_ble_eq_true rfl) (x_Formulas_size (Nat.le_trans (Nat.le_of_ble_eq_true rfl) hd) l2 h2 (sh_okB H) (fun v3 H => ?_)))
  show wq_87 d Q 20 [oR 5 0, oR 6 l1, oR 2 l2, oI (v1 - (1 : Int32))] [aI v3, aI (3 : Int32), aI (v1 - (1 : Int32)), aR 6 l1] (sh_E h2)
  refine ai_WP_steps mc_87 (sh_CM d) 1 (And.intro (Nat.le_of_ble_eq_true rfl) (x_Rows_put (Nat.le_trans (Nat.le_of_ble_eq_true rfl) hd) l1 (v1 - (1 : Int32)) (3 : Int32) v3 h2 (sh_okB H) (fun h4 H => ?_)))
  show wq_87 d Q 23 [oR 5 0, oR 6 l1, oR 2 l2, oI (v1 - (1 : Int32))] [] (sh_E h4)
  refine ai_WP_steps mc_87 (sh_CM d) 4 (And.intro (Nat.le_of_ble_eq_true rfl) (x_rec0 N 60 (Nat.le_trans (Nat.le_of_ble_eq_true rfl) hd) l2 (0 : Int32) h4 (sh_okB H) (fun h5 H => ?_)))
  show wq_87 d Q 29 [oR 5 0, oR 6 l1, oR 2 l2, oI (v1 - (1 : Int32))] [] (sh_E h5)
  refine ai_WP_steps mc_87 (sh_CM d) 5 (And.intro (Nat.le_of_ble_eq_true rfl) (x_Formulas_size (Nat.le_trans (Nat.le_of_ble_eq_true rfl) hd) l2 h5 (sh_okB H) (fun v6 H => ?_)))
  show wq_87 d Q 36 [oR 5 0, oR 6 l1, oR 2 l2, oI (v1 - (1 : Int32))] [aI v6, aI (4 : Int32), aI (v1 - (1 : Int32)), aR 6 l1] (sh_E h5)
  refine ai_WP_steps mc_87 (sh_CM d) 1 (And.intro (Nat.le_of_ble_eq_true rfl) (x_Rows_put (Nat.le_trans (Nat.le_of_ble_eq_true rfl) hd) l1 (v1 - (1 : Int32)) (4 : Int32) v6 h5 (sh_okB H) (fun h7 H => ?_)))
  show wq_87 d Q 39 [oR 5 0, oR 6 l1, oR 2 l2, oI (v1 - (1 : Int32))] [] (sh_E h7)
  refine ai_WP_steps mc_87 (sh_CM d) 3 (And.intro (Nat.le_of_ble_eq_true rfl) (x_Reader_expect (Nat.le_trans (Nat.le_of_ble_eq_true rfl) hd) (59 : Int32) h7 (sh_okB H) (fun h8 H => ?_)))
  show wq_87 d Q 45 [oR 5 0, oR 6 l1, oR 2 l2, oI (v1 - (1 : Int32))] [] (sh_E h8)
  exact ai_WP_steps mc_87 (sh_CM d) 1 (hR h8 H)
def f_Reader_failLater  (l1 : Int32) (l2 : Int32) (h : sh_H) : Option sh_H := (if (h.1 5 0 6) = 0 then (sh_let (sh_pI h 5 0 6 l1) (fun h1 => (sh_let (sh_pI h1 5 0 7 l2) (fun h2 => (some h2))))) else (some h))
theorem x_Reader_failLater {d : Nat} (hd : 1 ≤ d) (l1 : Int32) (l2 : Int32) (h : sh_H) {Q : ai_Q} {R : sh_H → Prop} (H : sh_ok (f_Reader_failLater l1 l2 h) R) (hR : ∀ h, R h → Q none (sh_E h)) : ai_Ex sh_T d 96 [aR 5 0, aI l1, aI l2] (sh_E h) Q := by
  obtain ⟨d, rfl⟩ : ∃ e, d = e + 1 := ⟨d - 1, by omega⟩
  replace hd : 0 ≤ d := by omega
  refine And.intro (Nat.le_of_ble_eq_true rfl) ?_
  show wq_96 d Q 0 [oR 5 0, oI l1, oI l2] [] (sh_E h)
  refine ai_WP_steps mc_96 (sh_CM d) 3 (And.intro (fun c => ?_) (fun c => ?_))
  · replace H := sh_okT c H
    show wq_96 d Q 7 [oR 5 0, oI l1, oI l2] [] (sh_E h)
    refine ai_WP_steps mc_96 (sh_CM d) 3 (And.intro trivial ?_)
    show wq_96 d Q 12 [oR 5 0, oI l1, oI l2] [] (sh_E (sh_pI h 5 0 6 l1))
    replace H := sh_okL H
    generalize sh_pI h 5 0 6 l1 = h1 at H ⊢
    refine ai_WP_steps mc_96 (sh_CM d) 3 (And.intro trivial ?_)
    show wq_96 d Q 17 [oR 5 0, oI l1, oI l2] [] (sh_E (sh_pI h1 5 0 7 l2))
    replace H := sh_okL H
    generalize sh_pI h1 5 0 7 l2 = h2 at H ⊢
    exact ai_WP_steps mc_96 (sh_CM d) 1 (hR h2 H)
  · replace H := sh_okF c H
    show wq_96 d Q 17 [oR 5 0, oI l1, oI l2] [] (sh_E h)
    exact ai_WP_steps mc_96 (sh_CM d) 1 (hR h H)
def f_Reader_number_b32   (l3 : Int32) (h : sh_H) : Option (Int32 × sh_H) := (Option.bind (f_Reader_expect (21 : Int32) h) (fun h1 => (some (l3, h1))))
theorem x_Reader_number_b32 {d : Nat} (hd : 2 ≤ d) {Q : ai_Q} {R : Int32 × sh_H → Prop} (hR : ∀ r h, R (r, h) → Q (some (aI r)) (sh_E h))   (l3 : Int32) {d1 d2 : Option ai_V} (h : sh_H) (H : sh_ok (f_Reader_number_b32 l3 h) R) : wq_86 d Q 32 [oR 5 0, d1, d2, oI l3] [] (sh_E h) := by
  refine ai_WP_steps mc_86 (sh_CM d) 3 (And.intro (Nat.le_of_ble_eq_true rfl) (x_Reader_expect (Nat.le_trans (Nat.le_of_ble_eq_true rfl) hd) (21 : Int32) h (sh_okB H) (fun h1 H => ?_)))
  show wq_86 d Q 38 [oR 5 0, _, _, oI l3] [] (sh_E h1)
  exact ai_WP_steps mc_86 (sh_CM d) 2 (hR l3 h1 H)
def f_Reader_number_b23   (l3 : Int32) (h : sh_H) : Option (Int32 × sh_H) := (Option.bind (f_Reader_failLater (5 : Int32) (h.1 5 0 3) h) (fun h2 => f_Reader_number_b32 l3 h2))
theorem x_Reader_number_b23 {d : Nat} (hd : 2 ≤ d) {Q : ai_Q} {R : Int32 × sh_H → Prop} (hR : ∀ r h, R (r, h) → Q (some (aI r)) (sh_E h))   (l3 : Int32) {d1 d2 : Option ai_V} (h : sh_H) (H : sh_ok (f_Reader_number_b23 l3 h) R) : wq_86 d Q 23 [oR 5 0, d1, d2, oI l3] [] (sh_E h) := by
  refine ai_WP_steps mc_86 (sh_CM d) 5 (And.intro (Nat.le_of_ble_eq_true rfl) (x_Reader_failLater (Nat.le_trans (Nat.le_of_ble_eq_true rfl) hd) (5 : Int32) (h.1 5 0 3) h (sh_okB H) (fun h2 H => ?_)))
  show wq_86 d Q 32 [oR 5 0, _, _, oI l3] [] (sh_E h2)
  exact x_Reader_number_b32 hd hR l3 h2 H
def f_Reader_number  (l1 : Int32) (l2 : Int32) (h : sh_H) : Option (Int32 × sh_H) := (Option.bind (f_Tokens_valueOf (h.1 5 0 3) h) (fun v3 => (if v3.toInt32 < l1 then f_Reader_number_b23 v3.toInt32 h else (if l2 < v3.toInt32 then f_Reader_number_b23 v3.toInt32 h else f_Reader_number_b32 v3.toInt32 h))))
theorem x_Reader_number {d : Nat} (hd : 3 ≤ d) (l1 : Int32) (l2 : Int32) (h : sh_H) {Q : ai_Q} {R : Int32 × sh_H → Prop} (H : sh_ok (f_Reader_number l1 l2 h) R) (hR : ∀ r h, R (r, h) → Q (some (aI r)) (sh_E h)) : ai_Ex sh_T d 86 [aR 5 0, aI l1, aI l2] (sh_E h) Q := by
  obtain ⟨d, rfl⟩ : ∃ e, d = e + 1 := ⟨d - 1, by omega⟩
  replace hd : 2 ≤ d := by omega
  refine And.intro (Nat.le_of_ble_eq_true rfl) ?_
  show wq_86 d Q 0 [oR 5 0, oI l1, oI l2, none] [] (sh_E h)
  refine ai_WP_steps mc_86 (sh_CM d) 5 (And.intro (Nat.le_of_ble_eq_true rfl) (x_Tokens_valueOf (Nat.le_trans (Nat.le_of_ble_eq_true rfl) hd) (h.1 5 0 3) h (sh_okB H) (fun v3 H => ?_)))
  show wq_86 d Q 11 [oR 5 0, oI l1, oI l2, _] [aL v3] (sh_E h)
  refine ai_WP_steps mc_86 (sh_CM d) 5 (And.intro (fun c => ?_) (fun c => ?_))
  · replace H := sh_okT c H
    exact x_Reader_number_b23 hd hR v3.toInt32 h H
  · replace H := sh_okF c H
    show wq_86 d Q 18 [oR 5 0, oI l1, oI l2, oI v3.toInt32] [] (sh_E h)
    refine ai_WP_steps mc_86 (sh_CM d) 3 (And.intro (fun c => ?_) (fun c => ?_))
    · replace H := sh_okT c H
      exact x_Reader_number_b23 hd hR v3.toInt32 h H
    · replace H := sh_okF c H
      exact x_Reader_number_b32 hd hR v3.toInt32 h H
def f_Reader_open_b12 (N : Nat)   (l1 : Nat) (h : sh_H) : Option (Int32 × sh_H) := (Option.bind (f_Reader_accept h) (fun h1 => (if (h1.1 5 0 4) = 0 then (sh_b2 (f_Rows_add N l1 h1) (fun v2 h3 => (some (v2, h3)))) else (some ((-1 : Int32), h1)))))
theorem x_Reader_open_b12 (N : Nat) {d : Nat} (hd : 3 ≤ d) {Q : ai_Q} {R : Int32 × sh_H → Prop} (hR : ∀ r h, R (r, h) → Q (some (aI r)) (sh_E h))   (l1 : Nat) (h : sh_H) (H : sh_ok (f_Reader_open_b12 N l1 h) R) : wq_80 d Q 12 [oR 5 0, oR 6 l1] [] (sh_E h) := by
  refine ai_WP_steps mc_80 (sh_CM d) 2 (And.intro (Nat.le_of_ble_eq_true rfl) (x_Reader_accept (Nat.le_trans (Nat.le_of_ble_eq_true rfl) hd) h (sh_okB H) (fun h1 H => ?_)))
  show wq_80 d Q 16 [oR 5 0, oR 6 l1] [] (sh_E h1)
  refine ai_WP_steps mc_80 (sh_CM d) 3 (And.intro (fun c => ?_) (fun c => ?_))
  · replace H := sh_okT c H
    show wq_80 d Q 23 [oR 5 0, oR 6 l1] [] (sh_E h1)
    refine ai_WP_steps mc_80 (sh_CM d) 2 (And.intro (Nat.le_of_ble_eq_true rfl) (x_Rows_add N (Nat.le_trans (Nat.le_of_ble_eq_true rfl) hd) l1 h1 (sh_okB H) (fun v2 h3 H => ?_)))
    show wq_80 d Q 27 [oR 5 0, oR 6 l1] [aI v2] (sh_E h3)
    exact ai_WP_steps mc_80 (sh_CM d) 2 (hR v2 h3 H)
  · replace H := sh_okF c H
    show wq_80 d Q 30 [oR 5 0, oR 6 l1] [] (sh_E h1)
    exact ai_WP_steps mc_80 (sh_CM d) 2 (hR (-1 : Int32) h1 H)
def f_Reader_open (N : Nat)  (l1 : Nat) (h : sh_H) : Option (Int32 × sh_H) := (Option.bind (f_Rows_isFull l1 h) (fun v4 => (if v4 = 0 then f_Reader_open_b12 N l1 h else (Option.bind (f_Reader_fail (2 : Int32) h) (fun h5 => f_Reader_open_b12 N l1 h5)))))
theorem x_Reader_open (N : Nat) {d : Nat} (hd : 4 ≤ d) (l1 : Nat) (h : sh_H) {Q : ai_Q} {R : Int32 × sh_H → Prop} (H : sh_ok (f_Reader_open N l1 h) R) (hR : ∀ r h, R (r, h) → Q (some (aI r)) (sh_E h)) : ai_Ex sh_T d 80 [aR 5 0, aR 6 l1] (sh_E h) Q := by
  obtain ⟨d, rfl⟩ : ∃ e, d = e + 1 := ⟨d - 1, by omega⟩
  replace hd : 3 ≤ d := by omega
  refine And.intro (Nat.le_of_ble_eq_true rfl) ?_
  show wq_80 d Q 0 [oR 5 0, oR 6 l1] [] (sh_E h)
  refine ai_WP_steps mc_80 (sh_CM d) 2 (And.intro (Nat.le_of_ble_eq_true rfl) (x_Rows_isFull (Nat.le_trans (Nat.le_of_ble_eq_true rfl) hd) l1 h (sh_okB H) (fun v4 H => ?_)))
  show wq_80 d Q 4 [oR 5 0, oR 6 l1] [aI v4] (sh_E h)
  refine ai_WP_steps mc_80 (sh_CM d) 1 (And.intro (fun c => ?_) (fun c => ?_))
  · replace H := sh_okT c H
    exact x_Reader_open_b12 N hd hR l1 h H
  · replace H := sh_okF c H
    show wq_80 d Q 7 [oR 5 0, oR 6 l1] [] (sh_E h)
    refine ai_WP_steps mc_80 (sh_CM d) 3 (And.intro (Nat.le_of_ble_eq_true rfl) (x_Reader_fail (Nat.le_trans (Nat.le_of_ble_eq_true rfl) hd) (2 : Int32) h (sh_okB H) (fun h5 H => ?_)))
    show wq_80 d Q 12 [oR 5 0, oR 6 l1] [] (sh_E h5)
    exact x_Reader_open_b12 N hd hR l1 h5 H
def f_Reader_indexOf_b24 (N : Nat)  (k2 : Nat → Int64 → Int32 → sh_H → Option Int32) (l0 : Nat) (l1 : Int64) (l3 : Int32) (h : sh_H) : Option Int32 := k2 l0 l1 (l3 + (1 : Int32)) h
theorem x_Reader_indexOf_b24 (N : Nat) {d : Nat} (hd : 0 ≤ d) (h : sh_H) {Q : ai_Q} {R : Int32 → Prop} (hR : ∀ r, R r → Q (some (aI r)) (sh_E h))  (k2 : Nat → Int64 → Int32 → sh_H → Option Int32) (hk2 : ∀ (l0 : Nat) (l1 : Int64) (l3 : Int32) {d2 : Option ai_V}, sh_ok (k2 l0 l1 l3 h) R → wq_85 d Q 2 [oR 14 l0, oL l1, d2, oI l3] [] (sh_E h)) (l0 : Nat) (l1 : Int64) (l3 : Int32) {d2 : Option ai_V} (H : sh_ok (f_Reader_indexOf_b24 N k2 l0 l1 l3 h) R) : wq_85 d Q 24 [oR 14 l0, oL l1, d2, oI l3] [] (sh_E h) := by
  refine ai_WP_steps mc_85 (sh_CM d) 2 ?_
  exact hk2 l0 l1 (l3 + (1 : Int32)) H
def f_Reader_indexOf_c2 (N : Nat)   (k2 : Nat → Int64 → Int32 → sh_H → Option Int32) (l0 : Nat) (l1 : Int64) (l3 : Int32) (h : sh_H) : Option Int32 := (if l3 < (Int32.ofNat (sh_l14 l0)) then (if ai_in l3 (sh_l14 l0) then (if (lg_cmp (h.2.1 14 l0 l3.toNatClampNeg) l1) = 0 then (if (lg_cmp l1 (0 : Int64)) = 0 then f_Reader_indexOf_b24 N k2 l0 l1 l3 h else (some l3)) else f_Reader_indexOf_b24 N k2 l0 l1 l3 h) else none) else (some (-1 : Int32)))
def f_Reader_indexOf_l2 (N : Nat)   (n : Nat) : Nat → Int64 → Int32 → sh_H → Option Int32 := Nat.rec (motive := fun _ => Nat → Int64 → Int32 → sh_H → Option Int32) (fun _ _ _ _ => none) (fun _ k2 => f_Reader_indexOf_c2 N k2) n
theorem x_Reader_indexOf_l2 (N : Nat) {d : Nat} (hd : 0 ≤ d) (h : sh_H) {Q : ai_Q} {R : Int32 → Prop} (hR : ∀ r, R r → Q (some (aI r)) (sh_E h))   (n : Nat) : ∀ (l0 : Nat) (l1 : Int64) (l3 : Int32) {d2 : Option ai_V}, sh_ok (f_Reader_indexOf_l2 N n l0 l1 l3 h) R → wq_85 d Q 2 [oR 14 l0, oL l1, d2, oI l3] [] (sh_E h) := by
  induction n with
  | zero => intro l0 l1 l3 d2 H; exact H.elim
  | succ n ih =>
    intro l0 l1 l3 d2 H
    have hk2 := @ih
    replace H : sh_ok (f_Reader_indexOf_c2 N (f_Reader_indexOf_l2 N n) l0 l1 l3 h) R := H
    revert hk2 H
    generalize f_Reader_indexOf_l2 N n = k2
    intro hk2 H
    refine ai_WP_steps mc_85 (sh_CM d) 4 (And.intro (fun c => ?_) (fun c => ?_))
    · replace H := sh_okT c H
      show wq_85 d Q 8 [oR 14 l0, oL l1, _, oI l3] [] (sh_E h)
      have c := sh_okG H
      replace H := sh_okH H
      refine ai_WP_steps mc_85 (sh_CM d) 3 (And.intro c ?_)
      show wq_85 d Q 11 [oR 14 l0, oL l1, _, oI l3] [aL (h.2.1 14 l0 l3.toNatClampNeg)] (sh_E h)
      refine ai_WP_steps mc_85 (sh_CM d) 3 (And.intro (fun c => ?_) (fun c => ?_))
      · replace H := sh_okT c H
        show wq_85 d Q 16 [oR 14 l0, oL l1, _, oI l3] [] (sh_E h)
        refine ai_WP_steps mc_85 (sh_CM d) 4 (And.intro (fun c => ?_) (fun c => ?_))
        · replace H := sh_okT c H
          exact x_Reader_indexOf_b24 N hd h hR k2 hk2 l0 l1 l3 H
        · replace H := sh_okF c H
          show wq_85 d Q 22 [oR 14 l0, oL l1, _, oI l3] [] (sh_E h)
          exact ai_WP_steps mc_85 (sh_CM d) 2 (hR l3 H)
      · replace H := sh_okF c H
        exact x_Reader_indexOf_b24 N hd h hR k2 hk2 l0 l1 l3 H
    · replace H := sh_okF c H
      show wq_85 d Q 30 [oR 14 l0, oL l1, _, oI l3] [] (sh_E h)
      exact ai_WP_steps mc_85 (sh_CM d) 2 (hR (-1 : Int32) H)
def f_Reader_indexOf (N : Nat)  (l0 : Nat) (l1 : Int64) (h : sh_H) : Option Int32 := f_Reader_indexOf_l2 N N l0 l1 (0 : Int32) h
theorem x_Reader_indexOf (N : Nat) {d : Nat} (hd : 1 ≤ d) (l0 : Nat) (l1 : Int64) (h : sh_H) {Q : ai_Q} {R : Int32 → Prop} (H : sh_ok (f_Reader_indexOf N l0 l1 h) R) (hR : ∀ r, R r → Q (some (aI r)) (sh_E h)) : ai_Ex sh_T d 85 [aR 14 l0, aL l1] (sh_E h) Q := by
  obtain ⟨d, rfl⟩ : ∃ e, d = e + 1 := ⟨d - 1, by omega⟩
  replace hd : 0 ≤ d := by omega
  refine And.intro (Nat.le_of_ble_eq_true rfl) ?_
  show wq_85 d Q 0 [oR 14 l0, oL l1, none, none] [] (sh_E h)
  refine ai_WP_steps mc_85 (sh_CM d) 2 ?_
  exact x_Reader_indexOf_l2 N hd h hR N l0 l1 (0 : Int32) H
def f_Reader_nameTold_b14   (l1 : Int32) (h : sh_H) : Option (Int32 × sh_H) := (Option.bind (f_Reader_expect (20 : Int32) h) (fun h1 => (some (l1, h1))))
theorem x_Reader_nameTold_b14 {d : Nat} (hd : 2 ≤ d) {Q : ai_Q} {R : Int32 × sh_H → Prop} (hR : ∀ r h, R (r, h) → Q (some (aI r)) (sh_E h))   (l1 : Int32) (h : sh_H) (H : sh_ok (f_Reader_nameTold_b14 l1 h) R) : wq_84 d Q 14 [oR 5 0, oI l1] [] (sh_E h) := by
  refine ai_WP_steps mc_84 (sh_CM d) 3 (And.intro (Nat.le_of_ble_eq_true rfl) (x_Reader_expect (Nat.le_trans (Nat.le_of_ble_eq_true rfl) hd) (20 : Int32) h (sh_okB H) (fun h1 H => ?_)))
  show wq_84 d Q 20 [oR 5 0, oI l1] [] (sh_E h1)
  exact ai_WP_steps mc_84 (sh_CM d) 2 (hR l1 h1 H)
def f_Reader_nameTold  (l1 : Int32) (h : sh_H) : Option (Int32 × sh_H) := (if l1 = (-1 : Int32) then (Option.bind (f_Reader_failLater (4 : Int32) (h.1 5 0 3) h) (fun h2 => f_Reader_nameTold_b14 l1 h2)) else f_Reader_nameTold_b14 l1 h)
theorem x_Reader_nameTold {d : Nat} (hd : 3 ≤ d) (l1 : Int32) (h : sh_H) {Q : ai_Q} {R : Int32 × sh_H → Prop} (H : sh_ok (f_Reader_nameTold l1 h) R) (hR : ∀ r h, R (r, h) → Q (some (aI r)) (sh_E h)) : ai_Ex sh_T d 84 [aR 5 0, aI l1] (sh_E h) Q := by
  obtain ⟨d, rfl⟩ : ∃ e, d = e + 1 := ⟨d - 1, by omega⟩
  replace hd : 2 ≤ d := by omega
  refine And.intro (Nat.le_of_ble_eq_true rfl) ?_
  show wq_84 d Q 0 [oR 5 0, oI l1] [] (sh_E h)
  refine ai_WP_steps mc_84 (sh_CM d) 3 (And.intro (fun c => ?_) (fun c => ?_))
  · replace H := sh_okT c H
    show wq_84 d Q 5 [oR 5 0, oI l1] [] (sh_E h)
    refine ai_WP_steps mc_84 (sh_CM d) 5 (And.intro (Nat.le_of_ble_eq_true rfl) (x_Reader_failLater (Nat.le_trans (Nat.le_of_ble_eq_true rfl) hd) (4 : Int32) (h.1 5 0 3) h (sh_okB H) (fun h2 H => ?_)))
    show wq_84 d Q 14 [oR 5 0, oI l1] [] (sh_E h2)
    exact x_Reader_nameTold_b14 hd hR l1 h2 H
  · replace H := sh_okF c H
    exact x_Reader_nameTold_b14 hd hR l1 h H
def f_Reader_placeTold_b18 (N : Nat)    (h : sh_H) : Option (Int32 × sh_H) := (Option.bind (f_Tokens_valueOf (h.1 5 0 3) h) (fun v1 => (Option.bind (f_Reader_indexOf N 2 v1 h) (fun v2 => (sh_b2 (f_Reader_nameTold v2 h) (fun v3 h4 => (if v3 = (-1 : Int32) then (some ((-1 : Int32), h4)) else (some ((v3 + (1 : Int32)), h4)))))))))
theorem x_Reader_placeTold_b18 (N : Nat) {d : Nat} (hd : 3 ≤ d) {Q : ai_Q} {R : Int32 × sh_H → Prop} (hR : ∀ r h, R (r, h) → Q (some (aI r)) (sh_E h))    {d1 d2 : Option ai_V} (h : sh_H) (H : sh_ok (f_Reader_placeTold_b18 N h) R) : wq_82 d Q 18 [oR 5 0, d1, d2] [] (sh_E h) := by
  refine ai_WP_steps mc_82 (sh_CM d) 8 (And.intro (Nat.le_of_ble_eq_true rfl) (x_Tokens_valueOf (Nat.le_trans (Nat.le_of_ble_eq_true rfl) hd) (h.1 5 0 3) h (sh_okB H) (fun v1 H => ?_)))
  show wq_82 d Q 34 [oR 5 0, _, _] [aL v1, aR 14 2, aR 5 0] (sh_E h)
  refine ai_WP_steps mc_82 (sh_CM d) 1 (And.intro (Nat.le_of_ble_eq_true rfl) (x_Reader_indexOf N (Nat.le_trans (Nat.le_of_ble_eq_true rfl) hd) 2 v1 h (sh_okB H) (fun v2 H => ?_)))
  show wq_82 d Q 37 [oR 5 0, _, _] [aI v2, aR 5 0] (sh_E h)
  refine ai_WP_steps mc_82 (sh_CM d) 1 (And.intro (Nat.le_of_ble_eq_true rfl) (x_Reader_nameTold (Nat.le_trans (Nat.le_of_ble_eq_true rfl) hd) v2 h (sh_okB H) (fun v3 h4 H => ?_)))
  show wq_82 d Q 40 [oR 5 0, _, _] [aI v3] (sh_E h4)
  refine ai_WP_steps mc_82 (sh_CM d) 4 (And.intro (fun c => ?_) (fun c => ?_))
  · replace H := sh_okT c H
    show wq_82 d Q 46 [oR 5 0, _, oI v3] [] (sh_E h4)
    exact ai_WP_steps mc_82 (sh_CM d) 3 (hR (-1 : Int32) h4 H)
  · replace H := sh_okF c H
    show wq_82 d Q 50 [oR 5 0, _, oI v3] [] (sh_E h4)
    exact ai_WP_steps mc_82 (sh_CM d) 4 (hR (v3 + (1 : Int32)) h4 H)
def f_Reader_placeTold (N : Nat)  (l1 : Int32) (h : sh_H) : Option (Int32 × sh_H) := (if l1 = 0 then f_Reader_placeTold_b18 N h else (Option.bind (f_Reader_upcoming h) (fun v5 => (if v5 = (5 : Int32) then (Option.bind (f_Reader_accept h) (fun h6 => (some ((0 : Int32), h6)))) else f_Reader_placeTold_b18 N h))))
theorem x_Reader_placeTold (N : Nat) {d : Nat} (hd : 4 ≤ d) (l1 : Int32) (h : sh_H) {Q : ai_Q} {R : Int32 × sh_H → Prop} (H : sh_ok (f_Reader_placeTold N l1 h) R) (hR : ∀ r h, R (r, h) → Q (some (aI r)) (sh_E h)) : ai_Ex sh_T d 82 [aR 5 0, aI l1] (sh_E h) Q := by
  obtain ⟨d, rfl⟩ : ∃ e, d = e + 1 := ⟨d - 1, by omega⟩
  replace hd : 3 ≤ d := by omega
  refine And.intro (Nat.le_of_ble_eq_true rfl) ?_
  show wq_82 d Q 0 [oR 5 0, oI l1, none] [] (sh_E h)
  refine ai_WP_steps mc_82 (sh_CM d) 2 (And.intro (fun c => ?_) (fun c => ?_))
  · replace H := sh_okT c H
    exact x_Reader_placeTold_b18 N hd hR h H
  · replace H := sh_okF c H
    show wq_82 d Q 4 [oR 5 0, oI l1, _] [] (sh_E h)
    refine ai_WP_steps mc_82 (sh_CM d) 2 (And.intro (Nat.le_of_ble_eq_true rfl) (x_Reader_upcoming (Nat.le_trans (Nat.le_of_ble_eq_true rfl) hd) h (sh_okB H) (fun v5 H => ?_)))
    show wq_82 d Q 8 [oR 5 0, oI l1, _] [aI v5] (sh_E h)
    refine ai_WP_steps mc_82 (sh_CM d) 2 (And.intro (fun c => ?_) (fun c => ?_))
    · replace H := sh_okT c H
      show wq_82 d Q 12 [oR 5 0, oI l1, _] [] (sh_E h)
      refine ai_WP_steps mc_82 (sh_CM d) 2 (And.intro (Nat.le_of_ble_eq_true rfl) (x_Reader_accept (Nat.le_trans (Nat.le_of_ble_eq_true rfl) hd) h (sh_okB H) (fun h6 H => ?_)))
      show wq_82 d Q 16 [oR 5 0, oI l1, _] [] (sh_E h6)
      exact ai_WP_steps mc_82 (sh_CM d) 2 (hR (0 : Int32) h6 H)
    · replace H := sh_okF c H
      exact x_Reader_placeTold_b18 N hd hR h H
def f_Reader_tellBoat_b117 (N : Nat)    (h : sh_H) : Option sh_H := (Option.bind (f_Reader_expect (59 : Int32) h) (fun h1 => (some h1)))
theorem x_Reader_tellBoat_b117 (N : Nat) {d : Nat} (hd : 4 ≤ d) {Q : ai_Q} {R : sh_H → Prop} (hR : ∀ h, R h → Q none (sh_E h))    {d1 d2 d3 d4 d5 d6 : Option ai_V} (h : sh_H) (H : sh_ok (f_Reader_tellBoat_b117 N h) R) : wq_79 d Q 117 [oR 5 0, d1, d2, d3, d4, d5, d6] [] (sh_E h) := by
  refine ai_WP_steps mc_79 (sh_CM d) 3 (And.intro (Nat.le_of_ble_eq_true rfl) (x_Reader_expect (Nat.le_trans (Nat.le_of_ble_eq_true rfl) hd) (59 : Int32) h (sh_okB H) (fun h1 H => ?_)))
  show wq_79 d Q 123 [oR 5 0, _, _, _, _, _, _] [] (sh_E h1)
  exact ai_WP_steps mc_79 (sh_CM d) 1 (hR h1 H)
def f_Reader_tellBoat_b47 (N : Nat)   (l1 : Nat) (l3 : Int32) (l4 : Int32) (l6 : Int32) (h : sh_H) : Option sh_H := (Option.bind (f_Rows_put l1 l3 (0 : Int32) l4 h) (fun h2 => (Option.bind (f_Rows_put l1 l3 (1 : Int32) l6 h2) (fun h3 => (sh_b2 (f_Reader_number (1 : Int32) (999 : Int32) h3) (fun v4 h5 => (Option.bind (f_Rows_put l1 l3 (2 : Int32) v4 h5) (fun h6 => (sh_b2 (f_Reader_number (0 : Int32) (999 : Int32) h6) (fun v7 h8 => (Option.bind (f_Rows_put l1 l3 (3 : Int32) v7 h8) (fun h9 => (Option.bind (f_Reader_upcoming h9) (fun v10 => (if v10 = (8 : Int32) then (Option.bind (f_Reader_accept h9) (fun h11 => (sh_b2 (f_Reader_number (0 : Int32) (10 : Int32) h11) (fun v12 h13 => (Option.bind (f_Rows_put l1 l3 (4 : Int32) v12 h13) (fun h14 => f_Reader_tellBoat_b117 N h14)))))) else f_Reader_tellBoat_b117 N h9)))))))))))))))
theorem x_Reader_tellBoat_b47 (N : Nat) {d : Nat} (hd : 4 ≤ d) {Q : ai_Q} {R : sh_H → Prop} (hR : ∀ h, R h → Q none (sh_E h))   (l1 : Nat) (l3 : Int32) (l4 : Int32) (l6 : Int32) {d2 d5 : Option ai_V} (h : sh_H) (H : sh_ok (f_Reader_tellBoat_b47 N l1 l3 l4 l6 h) R) : wq_79 d Q 47 [oR 5 0, oR 6 l1, d2, oI l3, oI l4, d5, oI l6] [] (sh_E h) := by
  refine ai_WP_steps mc_79 (sh_CM d) 5 (And.intro (Nat.le_of_ble_eq_true rfl) (x_Rows_put (Nat.le_trans (Nat.le_of_ble_eq_true rfl) hd) l1 l3 (0 : Int32) l4 h (sh_okB H) (fun h2 H => ?_)))
  show wq_79 d Q 55 [oR 5 0, oR 6 l1, _, oI l3, oI l4, _, oI l6] [] (sh_E h2)
  refine ai_WP_steps mc_79 (sh_CM d) 5 (And.intro (Nat.le_of_ble_eq_true rfl) (x_Rows_put (Nat.le_trans (Nat.le_of_ble_eq_true rfl) hd) l1 l3 (1 : Int32) l6 h2 (sh_okB H) (fun h3 H => ?_)))
  show wq_79 d Q 63 [oR 5 0, oR 6 l1, _, oI l3, oI l4, _, oI l6] [] (sh_E h3)
  refine ai_WP_steps mc_79 (sh_CM d) 7 (And.intro (Nat.le_of_ble_eq_true rfl) (x_Reader_number (Nat.le_trans (Nat.le_of_ble_eq_true rfl) hd) (1 : Int32) (999 : Int32) h3 (sh_okB H) (fun v4 h5 H => ?_)))
  show wq_79 d Q 74 [oR 5 0, oR 6 l1, _, oI l3, oI l4, _, oI l6] [aI v4, aI (2 : Int32), aI l3, aR 6 l1] (sh_E h5)
  refine ai_WP_steps mc_79 (sh_CM d) 1 (And.intro (Nat.le_of_ble_eq_true rfl) (x_Rows_put (Nat.le_trans (Nat.le_of_ble_eq_true rfl) hd) l1 l3 (2 : Int32) v4 h5 (sh_okB H) (fun h6 H => ?_)))
  show wq_79 d Q 77 [oR 5 0, oR 6 l1, _, oI l3, oI l4, _, oI l6] [] (sh_E h6)
  refine ai_WP_steps mc_79 (sh_CM d) 7 (And.intro (Nat.le_of_ble_eq_true rfl) (x_Reader_number (Nat.le_trans (Nat.le_of_ble_eq_true rfl) hd) (0 : Int32) (999 : Int32) h6 (sh_okB H) (fun v7 h8 H => ?_)))
  show wq_79 d Q 88 [oR 5 0, oR 6 l1, _, oI l3, oI l4, _, oI l6] [aI v7, aI (3 : Int32), aI l3, aR 6 l1] (sh_E h8)
  refine ai_WP_steps mc_79 (sh_CM d) 1 (And.intro (Nat.le_of_ble_eq_true rfl) (x_Rows_put (Nat.le_trans (Nat.le_of_ble_eq_true rfl) hd) l1 l3 (3 : Int32) v7 h8 (sh_okB H) (fun h9 H => ?_)))
  show wq_79 d Q 91 [oR 5 0, oR 6 l1, _, oI l3, oI l4, _, oI l6] [] (sh_E h9)
  refine ai_WP_steps mc_79 (sh_CM d) 2 (And.intro (Nat.le_of_ble_eq_true rfl) (x_Reader_upcoming (Nat.le_trans (Nat.le_of_ble_eq_true rfl) hd) h9 (sh_okB H) (fun v10 H => ?_)))
  show wq_79 d Q 95 [oR 5 0, oR 6 l1, _, oI l3, oI l4, _, oI l6] [aI v10] (sh_E h9)
  refine ai_WP_steps mc_79 (sh_CM d) 2 (And.intro (fun c => ?_) (fun c => ?_))
  · replace H := sh_okT c H
    show wq_79 d Q 100 [oR 5 0, oR 6 l1, _, oI l3, oI l4, _, oI l6] [] (sh_E h9)
    refine ai_WP_steps mc_79 (sh_CM d) 2 (And.intro (Nat.le_of_ble_eq_true rfl) (x_Reader_accept (Nat.le_trans (Nat.le_of_ble_eq_true rfl) hd) h9 (sh_okB H) (fun h11 H => ?_)))
    show wq_79 d Q 104 [oR 5 0, oR 6 l1, _, oI l3, oI l4, _, oI l6] [] (sh_E h11)
    refine ai_WP_steps mc_79 (sh_CM d) 7 (And.intro (Nat.le_of_ble_eq_true rfl) (x_Reader_number (Nat.le_trans (Nat.le_of_ble_eq_true rfl) hd) (0 : Int32) (10 : Int32) h11 (sh_okB H) (fun v12 h13 H => ?_)))
    show wq_79 d Q 114 [oR 5 0, oR 6 l1, _, oI l3, oI l4, _, oI l6] [aI v12, aI (4 : Int32), aI l3, aR 6 l1] (sh_E h13)
    refine ai_WP_steps mc_79 (sh_CM d) 1 (And.intro (Nat.le_of_ble_eq_true rfl) (x_Rows_put (Nat.le_trans (Nat.le_of_ble_eq_true rfl) hd) l1 l3 (4 : Int32) v12 h13 (sh_okB H) (fun h14 H => ?_)))
    show wq_79 d Q 117 [oR 5 0, oR 6 l1, _, oI l3, oI l4, _, oI l6] [] (sh_E h14)
    exact x_Reader_tellBoat_b117 N hd hR h14 H
  · replace H := sh_okF c H
    exact x_Reader_tellBoat_b117 N hd hR h9 H
def f_Reader_tellBoat (N : Nat)  (l1 : Nat) (l2 : Nat) (h : sh_H) : Option sh_H := (sh_b2 (f_Reader_open N l1 h) (fun v15 h16 => (sh_b2 (f_Reader_placeTold N (0 : Int32) h16) (fun v17 h18 => (sh_b2 (f_Reader_number (0 : Int32) (11 : Int32) h18) (fun v19 h20 => (Option.bind (f_Text_boatOf N l2 v17 v19 h20) (fun v21 => (if v21 = (-1 : Int32) then f_Reader_tellBoat_b47 N l1 v15 v17 v19 h20 else (Option.bind (f_Reader_failLater (3 : Int32) (h18.1 5 0 3) h20) (fun h22 => f_Reader_tellBoat_b47 N l1 v15 v17 v19 h22)))))))))))
theorem x_Reader_tellBoat (N : Nat) {d : Nat} (hd : 5 ≤ d) (l1 : Nat) (l2 : Nat) (h : sh_H) {Q : ai_Q} {R : sh_H → Prop} (H : sh_ok (f_Reader_tellBoat N l1 l2 h) R) (hR : ∀ h, R h → Q none (sh_E h)) : ai_Ex sh_T d 79 [aR 5 0, aR 6 l1, aR 9 l2] (sh_E h) Q := by
  obtain ⟨d, rfl⟩ : ∃ e, d = e + 1 := ⟨d - 1, by omega⟩
  replace hd : 4 ≤ d := by omega
  refine And.intro (Nat.le_of_ble_eq_true rfl) ?_
  show wq_79 d Q 0 [oR 5 0, oR 6 l1, oR 9 l2, none, none, none, none] [] (sh_E h)
  refine ai_WP_steps mc_79 (sh_CM d) 3 (And.intro (Nat.le_of_ble_eq_true rfl) (x_Reader_open N (Nat.le_trans (Nat.le_of_ble_eq_true rfl) hd) l1 h (sh_okB H) (fun v15 h16 H => ?_)))
  show wq_79 d Q 5 [oR 5 0, oR 6 l1, oR 9 l2, _, _, _, _] [aI v15] (sh_E h16)
  refine ai_WP_steps mc_79 (sh_CM d) 4 (And.intro (Nat.le_of_ble_eq_true rfl) (x_Reader_placeTold N (Nat.le_trans (Nat.le_of_ble_eq_true rfl) hd) (0 : Int32) h16 (sh_okB H) (fun v17 h18 H => ?_)))
  show wq_79 d Q 11 [oR 5 0, oR 6 l1, oR 9 l2, oI v15, _, _, _] [aI v17] (sh_E h18)
  refine ai_WP_steps mc_79 (sh_CM d) 8 (And.intro (Nat.le_of_ble_eq_true rfl) (x_Reader_number (Nat.le_trans (Nat.le_of_ble_eq_true rfl) hd) (0 : Int32) (11 : Int32) h18 (sh_okB H) (fun v19 h20 H => ?_)))
  show wq_79 d Q 26 [oR 5 0, oR 6 l1, oR 9 l2, oI v15, oI v17, oI (h18.1 5 0 3), _] [aI v19] (sh_E h20)
  refine ai_WP_steps mc_79 (sh_CM d) 5 (And.intro (Nat.le_of_ble_eq_true rfl) (x_Text_boatOf N (Nat.le_trans (Nat.le_of_ble_eq_true rfl) hd) l2 v17 v19 h20 (sh_okB H) (fun v21 H => ?_)))
  show wq_79 d Q 36 [oR 5 0, oR 6 l1, oR 9 l2, oI v15, oI v17, oI (h18.1 5 0 3), oI v19] [aI v21] (sh_E h20)
  refine ai_WP_steps mc_79 (sh_CM d) 2 (And.intro (fun c => ?_) (fun c => ?_))
  · replace H := sh_okT c H
    exact x_Reader_tellBoat_b47 N hd hR l1 v15 v17 v19 h20 H
  · replace H := sh_okF c H
    show wq_79 d Q 40 [oR 5 0, oR 6 l1, oR 9 l2, oI v15, oI v17, oI (h18.1 5 0 3), oI v19] [] (sh_E h20)
    refine ai_WP_steps mc_79 (sh_CM d) 4 (And.intro (Nat.le_of_ble_eq_true rfl) (x_Reader_failLater (Nat.le_trans (Nat.le_of_ble_eq_true rfl) hd) (3 : Int32) (h18.1 5 0 3) h20 (sh_okB H) (fun h22 H => ?_)))
    show wq_79 d Q 47 [oR 5 0, oR 6 l1, oR 9 l2, oI v15, oI v17, oI (h18.1 5 0 3), oI v19] [] (sh_E h22)
    exact x_Reader_tellBoat_b47 N hd hR l1 v15 v17 v19 h22 H
def f_Reader_kindTold (N : Nat)   (h : sh_H) : Option (Int32 × sh_H) := (Option.bind (f_Tokens_valueOf (h.1 5 0 3) h) (fun v1 => (Option.bind (f_Reader_indexOf N 1 v1 h) (fun v2 => (sh_b2 (f_Reader_nameTold v2 h) (fun v3 h4 => (some (v3, h4))))))))
theorem x_Reader_kindTold (N : Nat) {d : Nat} (hd : 4 ≤ d)  (h : sh_H) {Q : ai_Q} {R : Int32 × sh_H → Prop} (H : sh_ok (f_Reader_kindTold N h) R) (hR : ∀ r h, R (r, h) → Q (some (aI r)) (sh_E h)) : ai_Ex sh_T d 83 [aR 5 0] (sh_E h) Q := by
  obtain ⟨d, rfl⟩ : ∃ e, d = e + 1 := ⟨d - 1, by omega⟩
  replace hd : 3 ≤ d := by omega
  refine And.intro (Nat.le_of_ble_eq_true rfl) ?_
  show wq_83 d Q 0 [oR 5 0] [] (sh_E h)
  refine ai_WP_steps mc_83 (sh_CM d) 8 (And.intro (Nat.le_of_ble_eq_true rfl) (x_Tokens_valueOf (Nat.le_trans (Nat.le_of_ble_eq_true rfl) hd) (h.1 5 0 3) h (sh_okB H) (fun v1 H => ?_)))
  show wq_83 d Q 16 [oR 5 0] [aL v1, aR 14 1, aR 5 0] (sh_E h)
  refine ai_WP_steps mc_83 (sh_CM d) 1 (And.intro (Nat.le_of_ble_eq_true rfl) (x_Reader_indexOf N (Nat.le_trans (Nat.le_of_ble_eq_true rfl) hd) 1 v1 h (sh_okB H) (fun v2 H => ?_)))
  show wq_83 d Q 19 [oR 5 0] [aI v2, aR 5 0] (sh_E h)
  refine ai_WP_steps mc_83 (sh_CM d) 1 (And.intro (Nat.le_of_ble_eq_true rfl) (x_Reader_nameTold (Nat.le_trans (Nat.le_of_ble_eq_true rfl) hd) v2 h (sh_okB H) (fun v3 h4 H => ?_)))
  show wq_83 d Q 22 [oR 5 0] [aI v3] (sh_E h4)
  exact ai_WP_steps mc_83 (sh_CM d) 1 (hR v3 h4 H)
def f_Reader_tellFlow_b38 (N : Nat)   (l1 : Nat) (l2 : Int32) (l3 : Int32) (l5 : Int32) (h : sh_H) : Option sh_H := (Option.bind (f_Rows_put l1 l2 (0 : Int32) l3 h) (fun h1 => (Option.bind (f_Rows_put l1 l2 (2 : Int32) l5 h1) (fun h2 => (sh_b2 (f_Reader_kindTold N h2) (fun v3 h4 => (Option.bind (f_Rows_put l1 l2 (1 : Int32) v3 h4) (fun h5 => (some h5)))))))))
theorem x_Reader_tellFlow_b38 (N : Nat) {d : Nat} (hd : 4 ≤ d) {Q : ai_Q} {R : sh_H → Prop} (hR : ∀ h, R h → Q none (sh_E h))   (l1 : Nat) (l2 : Int32) (l3 : Int32) (l5 : Int32) {d4 : Option ai_V} (h : sh_H) (H : sh_ok (f_Reader_tellFlow_b38 N l1 l2 l3 l5 h) R) : wq_77 d Q 38 [oR 5 0, oR 6 l1, oI l2, oI l3, d4, oI l5] [] (sh_E h) := by
  refine ai_WP_steps mc_77 (sh_CM d) 5 (And.intro (Nat.le_of_ble_eq_true rfl) (x_Rows_put (Nat.le_trans (Nat.le_of_ble_eq_true rfl) hd) l1 l2 (0 : Int32) l3 h (sh_okB H) (fun h1 H => ?_)))
  show wq_77 d Q 45 [oR 5 0, oR 6 l1, oI l2, oI l3, _, oI l5] [] (sh_E h1)
  refine ai_WP_steps mc_77 (sh_CM d) 5 (And.intro (Nat.le_of_ble_eq_true rfl) (x_Rows_put (Nat.le_trans (Nat.le_of_ble_eq_true rfl) hd) l1 l2 (2 : Int32) l5 h1 (sh_okB H) (fun h2 H => ?_)))
  show wq_77 d Q 53 [oR 5 0, oR 6 l1, oI l2, oI l3, _, oI l5] [] (sh_E h2)
  refine ai_WP_steps mc_77 (sh_CM d) 5 (And.intro (Nat.le_of_ble_eq_true rfl) (x_Reader_kindTold N (Nat.le_trans (Nat.le_of_ble_eq_true rfl) hd) h2 (sh_okB H) (fun v3 h4 H => ?_)))
  show wq_77 d Q 60 [oR 5 0, oR 6 l1, oI l2, oI l3, _, oI l5] [aI v3, aI (1 : Int32), aI l2, aR 6 l1] (sh_E h4)
  refine ai_WP_steps mc_77 (sh_CM d) 1 (And.intro (Nat.le_of_ble_eq_true rfl) (x_Rows_put (Nat.le_trans (Nat.le_of_ble_eq_true rfl) hd) l1 l2 (1 : Int32) v3 h4 (sh_okB H) (fun h5 H => ?_)))
  show wq_77 d Q 63 [oR 5 0, oR 6 l1, oI l2, oI l3, _, oI l5] [] (sh_E h5)
  exact ai_WP_steps mc_77 (sh_CM d) 1 (hR h5 H)
def f_Reader_tellFlow (N : Nat)  (l1 : Nat) (h : sh_H) : Option sh_H := (sh_b2 (f_Reader_open N l1 h) (fun v6 h7 => (sh_b2 (f_Reader_placeTold N (1 : Int32) h7) (fun v8 h9 => (sh_b2 (f_Reader_placeTold N (1 : Int32) h9) (fun v10 h11 => (if v8 = v10 then (Option.bind (f_Reader_failLater (5 : Int32) (h9.1 5 0 3) h11) (fun h12 => f_Reader_tellFlow_b38 N l1 v6 v8 v10 h12)) else f_Reader_tellFlow_b38 N l1 v6 v8 v10 h11)))))))
theorem x_Reader_tellFlow (N : Nat) {d : Nat} (hd : 5 ≤ d) (l1 : Nat) (h : sh_H) {Q : ai_Q} {R : sh_H → Prop} (H : sh_ok (f_Reader_tellFlow N l1 h) R) (hR : ∀ h, R h → Q none (sh_E h)) : ai_Ex sh_T d 77 [aR 5 0, aR 6 l1] (sh_E h) Q := by
  obtain ⟨d, rfl⟩ : ∃ e, d = e + 1 := ⟨d - 1, by omega⟩
  replace hd : 4 ≤ d := by omega
  refine And.intro (Nat.le_of_ble_eq_true rfl) ?_
  show wq_77 d Q 0 [oR 5 0, oR 6 l1, none, none, none, none] [] (sh_E h)
  refine ai_WP_steps mc_77 (sh_CM d) 3 (And.intro (Nat.le_of_ble_eq_true rfl) (x_Reader_open N (Nat.le_trans (Nat.le_of_ble_eq_true rfl) hd) l1 h (sh_okB H) (fun v6 h7 H => ?_)))
  show wq_77 d Q 5 [oR 5 0, oR 6 l1, _, _, _, _] [aI v6] (sh_E h7)
  refine ai_WP_steps mc_77 (sh_CM d) 4 (And.intro (Nat.le_of_ble_eq_true rfl) (x_Reader_placeTold N (Nat.le_trans (Nat.le_of_ble_eq_true rfl) hd) (1 : Int32) h7 (sh_okB H) (fun v8 h9 H => ?_)))
  show wq_77 d Q 11 [oR 5 0, oR 6 l1, oI v6, _, _, _] [aI v8] (sh_E h9)
  refine ai_WP_steps mc_77 (sh_CM d) 7 (And.intro (Nat.le_of_ble_eq_true rfl) (x_Reader_placeTold N (Nat.le_trans (Nat.le_of_ble_eq_true rfl) hd) (1 : Int32) h9 (sh_okB H) (fun v10 h11 H => ?_)))
  show wq_77 d Q 23 [oR 5 0, oR 6 l1, oI v6, oI v8, oI (h9.1 5 0 3), _] [aI v10] (sh_E h11)
  refine ai_WP_steps mc_77 (sh_CM d) 4 (And.intro (fun c => ?_) (fun c => ?_))
  · replace H := sh_okT c H
    show wq_77 d Q 31 [oR 5 0, oR 6 l1, oI v6, oI v8, oI (h9.1 5 0 3), oI v10] [] (sh_E h11)
    refine ai_WP_steps mc_77 (sh_CM d) 4 (And.intro (Nat.le_of_ble_eq_true rfl) (x_Reader_failLater (Nat.le_trans (Nat.le_of_ble_eq_true rfl) hd) (5 : Int32) (h9.1 5 0 3) h11 (sh_okB H) (fun h12 H => ?_)))
    show wq_77 d Q 38 [oR 5 0, oR 6 l1, oI v6, oI v8, oI (h9.1 5 0 3), oI v10] [] (sh_E h12)
    exact x_Reader_tellFlow_b38 N hd hR l1 v6 v8 v10 h12 H
  · replace H := sh_okF c H
    exact x_Reader_tellFlow_b38 N hd hR l1 v6 v8 v10 h11 H
def f_Reader_newName_b45 (N : Nat)   (l1 : Nat) (l2 : Int32) (l3 : Int64) (h : sh_H) : Option sh_H := (Option.bind (f_Reader_expect (20 : Int32) h) (fun h1 => (if l2 < 0 then (some h1) else (if l2 < (Int32.ofNat (sh_l14 l1)) then (if ai_in l2 (sh_l14 l1) then (sh_let (sh_pJ h1 14 l1 l2.toNatClampNeg l3) (fun h2 => (some h2))) else none) else (some h1)))))
theorem x_Reader_newName_b45 (N : Nat) {d : Nat} (hd : 2 ≤ d) {Q : ai_Q} {R : sh_H → Prop} (hR : ∀ h, R h → Q none (sh_E h))   (l1 : Nat) (l2 : Int32) (l3 : Int64) {d4 : Option ai_V} (h : sh_H) (H : sh_ok (f_Reader_newName_b45 N l1 l2 l3 h) R) : wq_81 d Q 45 [oR 5 0, oR 14 l1, oI l2, oL l3, d4] [] (sh_E h) := by
  refine ai_WP_steps mc_81 (sh_CM d) 3 (And.intro (Nat.le_of_ble_eq_true rfl) (x_Reader_expect (Nat.le_trans (Nat.le_of_ble_eq_true rfl) hd) (20 : Int32) h (sh_okB H) (fun h1 H => ?_)))
  show wq_81 d Q 51 [oR 5 0, oR 14 l1, oI l2, oL l3, _] [] (sh_E h1)
  refine ai_WP_steps mc_81 (sh_CM d) 2 (And.intro (fun c => ?_) (fun c => ?_))
  · replace H := sh_okT c H
    show wq_81 d Q 65 [oR 5 0, oR 14 l1, oI l2, oL l3, _] [] (sh_E h1)
    exact ai_WP_steps mc_81 (sh_CM d) 1 (hR h1 H)
  · replace H := sh_okF c H
    show wq_81 d Q 55 [oR 5 0, oR 14 l1, oI l2, oL l3, _] [] (sh_E h1)
    refine ai_WP_steps mc_81 (sh_CM d) 4 (And.intro (fun c => ?_) (fun c => ?_))
    · replace H := sh_okT c H
      show wq_81 d Q 61 [oR 5 0, oR 14 l1, oI l2, oL l3, _] [] (sh_E h1)
      have c := sh_okG H
      replace H := sh_okH H
      refine ai_WP_steps mc_81 (sh_CM d) 4 (And.intro c ?_)
      show wq_81 d Q 65 [oR 5 0, oR 14 l1, oI l2, oL l3, _] [] (sh_E (sh_pJ h1 14 l1 l2.toNatClampNeg l3))
      replace H := sh_okL H
      generalize sh_pJ h1 14 l1 l2.toNatClampNeg l3 = h2 at H ⊢
      exact ai_WP_steps mc_81 (sh_CM d) 1 (hR h2 H)
    · replace H := sh_okF c H
      show wq_81 d Q 65 [oR 5 0, oR 14 l1, oI l2, oL l3, _] [] (sh_E h1)
      exact ai_WP_steps mc_81 (sh_CM d) 1 (hR h1 H)
def f_Reader_newName_b36 (N : Nat)   (l1 : Nat) (l2 : Int32) (l3 : Int64) (h : sh_H) : Option sh_H := (Option.bind (f_Reader_failLater (3 : Int32) (h.1 5 0 3) h) (fun h3 => f_Reader_newName_b45 N l1 l2 l3 h3))
theorem x_Reader_newName_b36 (N : Nat) {d : Nat} (hd : 2 ≤ d) {Q : ai_Q} {R : sh_H → Prop} (hR : ∀ h, R h → Q none (sh_E h))   (l1 : Nat) (l2 : Int32) (l3 : Int64) {d4 : Option ai_V} (h : sh_H) (H : sh_ok (f_Reader_newName_b36 N l1 l2 l3 h) R) : wq_81 d Q 36 [oR 5 0, oR 14 l1, oI l2, oL l3, d4] [] (sh_E h) := by
  refine ai_WP_steps mc_81 (sh_CM d) 5 (And.intro (Nat.le_of_ble_eq_true rfl) (x_Reader_failLater (Nat.le_trans (Nat.le_of_ble_eq_true rfl) hd) (3 : Int32) (h.1 5 0 3) h (sh_okB H) (fun h3 H => ?_)))
  show wq_81 d Q 45 [oR 5 0, oR 14 l1, oI l2, oL l3, _] [] (sh_E h3)
  exact x_Reader_newName_b45 N hd hR l1 l2 l3 h3 H
def f_Reader_newName (N : Nat)  (l1 : Nat) (l2 : Int32) (h : sh_H) : Option sh_H := (Option.bind (f_Tokens_valueOf (h.1 5 0 3) h) (fun v4 => (Option.bind (f_Reader_indexOf N 1 v4 h) (fun v5 => (if v5 = (-1 : Int32) then (Option.bind (f_Reader_indexOf N 2 v4 h) (fun v6 => (if v6 = (-1 : Int32) then f_Reader_newName_b45 N l1 l2 v4 h else f_Reader_newName_b36 N l1 l2 v4 h))) else f_Reader_newName_b36 N l1 l2 v4 h)))))
theorem x_Reader_newName (N : Nat) {d : Nat} (hd : 3 ≤ d) (l1 : Nat) (l2 : Int32) (h : sh_H) {Q : ai_Q} {R : sh_H → Prop} (H : sh_ok (f_Reader_newName N l1 l2 h) R) (hR : ∀ h, R h → Q none (sh_E h)) : ai_Ex sh_T d 81 [aR 5 0, aR 14 l1, aI l2] (sh_E h) Q := by
  obtain ⟨d, rfl⟩ : ∃ e, d = e + 1 := ⟨d - 1, by omega⟩
  replace hd : 2 ≤ d := by omega
  refine And.intro (Nat.le_of_ble_eq_true rfl) ?_
  show wq_81 d Q 0 [oR 5 0, oR 14 l1, oI l2, none, none] [] (sh_E h)
  refine ai_WP_steps mc_81 (sh_CM d) 5 (And.intro (Nat.le_of_ble_eq_true rfl) (x_Tokens_valueOf (Nat.le_trans (Nat.le_of_ble_eq_true rfl) hd) (h.1 5 0 3) h (sh_okB H) (fun v4 H => ?_)))
  show wq_81 d Q 11 [oR 5 0, oR 14 l1, oI l2, _, _] [aL v4] (sh_E h)
  refine ai_WP_steps mc_81 (sh_CM d) 5 (And.intro (Nat.le_of_ble_eq_true rfl) (x_Reader_indexOf N (Nat.le_trans (Nat.le_of_ble_eq_true rfl) hd) 1 v4 h (sh_okB H) (fun v5 H => ?_)))
  show wq_81 d Q 20 [oR 5 0, oR 14 l1, oI l2, oL v4, _] [aI v5] (sh_E h)
  refine ai_WP_steps mc_81 (sh_CM d) 2 (And.intro (fun c => ?_) (fun c => ?_))
  · replace H := sh_okT c H
    show wq_81 d Q 24 [oR 5 0, oR 14 l1, oI l2, oL v4, _] [] (sh_E h)
    refine ai_WP_steps mc_81 (sh_CM d) 4 (And.intro (Nat.le_of_ble_eq_true rfl) (x_Reader_indexOf N (Nat.le_trans (Nat.le_of_ble_eq_true rfl) hd) 2 v4 h (sh_okB H) (fun v6 H => ?_)))
    show wq_81 d Q 32 [oR 5 0, oR 14 l1, oI l2, oL v4, _] [aI v6] (sh_E h)
    refine ai_WP_steps mc_81 (sh_CM d) 2 (And.intro (fun c => ?_) (fun c => ?_))
    · replace H := sh_okT c H
      exact x_Reader_newName_b45 N hd hR l1 l2 v4 h H
    · replace H := sh_okF c H
      exact x_Reader_newName_b36 N hd hR l1 l2 v4 h H
  · replace H := sh_okF c H
    exact x_Reader_newName_b36 N hd hR l1 l2 v4 h H
def f_Reader_tellIsland (N : Nat)  (l1 : Nat) (h : sh_H) : Option sh_H := (sh_b2 (f_Reader_open N l1 h) (fun v1 h2 => (Option.bind (f_Reader_newName N 2 v1 h2) (fun h3 => (sh_b2 (f_Reader_number (0 : Int32) (60 : Int32) h3) (fun v4 h5 => (Option.bind (f_Rows_put l1 v1 (0 : Int32) v4 h5) (fun h6 => (sh_b2 (f_Reader_number (0 : Int32) (99 : Int32) h6) (fun v7 h8 => (Option.bind (f_Rows_put l1 v1 (1 : Int32) v7 h8) (fun h9 => (Option.bind (f_Reader_expect (59 : Int32) h9) (fun h10 => (some h10)))))))))))))))
theorem x_Reader_tellIsland (N : Nat) {d : Nat} (hd : 5 ≤ d) (l1 : Nat) (h : sh_H) {Q : ai_Q} {R : sh_H → Prop} (H : sh_ok (f_Reader_tellIsland N l1 h) R) (hR : ∀ h, R h → Q none (sh_E h)) : ai_Ex sh_T d 75 [aR 5 0, aR 6 l1] (sh_E h) Q := by
  obtain ⟨d, rfl⟩ : ∃ e, d = e + 1 := ⟨d - 1, by omega⟩
  replace hd : 4 ≤ d := by omega
  refine And.intro (Nat.le_of_ble_eq_true rfl) ?_
  show wq_75 d Q 0 [oR 5 0, oR 6 l1, none] [] (sh_E h)
  refine ai_WP_steps mc_75 (sh_CM d) 3 (And.intro (Nat.le_of_ble_eq_true rfl) (x_Reader_open N (Nat.le_trans (Nat.le_of_ble_eq_true rfl) hd) l1 h (sh_okB H) (fun v1 h2 H => ?_)))
  show wq_75 d Q 5 [oR 5 0, oR 6 l1, _] [aI v1] (sh_E h2)
  refine ai_WP_steps mc_75 (sh_CM d) 6 (And.intro (Nat.le_of_ble_eq_true rfl) (x_Reader_newName N (Nat.le_trans (Nat.le_of_ble_eq_true rfl) hd) 2 v1 h2 (sh_okB H) (fun h3 H => ?_)))
  show wq_75 d Q 15 [oR 5 0, oR 6 l1, oI v1] [] (sh_E h3)
  refine ai_WP_steps mc_75 (sh_CM d) 7 (And.intro (Nat.le_of_ble_eq_true rfl) (x_Reader_number (Nat.le_trans (Nat.le_of_ble_eq_true rfl) hd) (0 : Int32) (60 : Int32) h3 (sh_okB H) (fun v4 h5 H => ?_)))
  show wq_75 d Q 25 [oR 5 0, oR 6 l1, oI v1] [aI v4, aI (0 : Int32), aI v1, aR 6 l1] (sh_E h5)
  refine ai_WP_steps mc_75 (sh_CM d) 1 (And.intro (Nat.le_of_ble_eq_true rfl) (x_Rows_put (Nat.le_trans (Nat.le_of_ble_eq_true rfl) hd) l1 v1 (0 : Int32) v4 h5 (sh_okB H) (fun h6 H => ?_)))
  show wq_75 d Q 28 [oR 5 0, oR 6 l1, oI v1] [] (sh_E h6)
  refine ai_WP_steps mc_75 (sh_CM d) 7 (And.intro (Nat.le_of_ble_eq_true rfl) (x_Reader_number (Nat.le_trans (Nat.le_of_ble_eq_true rfl) hd) (0 : Int32) (99 : Int32) h6 (sh_okB H) (fun v7 h8 H => ?_)))
  show wq_75 d Q 38 [oR 5 0, oR 6 l1, oI v1] [aI v7, aI (1 : Int32), aI v1, aR 6 l1] (sh_E h8)
  refine ai_WP_steps mc_75 (sh_CM d) 1 (And.intro (Nat.le_of_ble_eq_true rfl) (x_Rows_put (Nat.le_trans (Nat.le_of_ble_eq_true rfl) hd) l1 v1 (1 : Int32) v7 h8 (sh_okB H) (fun h9 H => ?_)))
  show wq_75 d Q 41 [oR 5 0, oR 6 l1, oI v1] [] (sh_E h9)
  refine ai_WP_steps mc_75 (sh_CM d) 3 (And.intro (Nat.le_of_ble_eq_true rfl) (x_Reader_expect (Nat.le_trans (Nat.le_of_ble_eq_true rfl) hd) (59 : Int32) h9 (sh_okB H) (fun h10 H => ?_)))
  show wq_75 d Q 47 [oR 5 0, oR 6 l1, oI v1] [] (sh_E h10)
  exact ai_WP_steps mc_75 (sh_CM d) 1 (hR h10 H)
def f_Reader_tellKind (N : Nat)  (l1 : Nat) (h : sh_H) : Option sh_H := (sh_b2 (f_Reader_open N l1 h) (fun v1 h2 => (Option.bind (f_Reader_newName N 1 v1 h2) (fun h3 => (sh_b2 (f_Reader_number (1 : Int32) (500 : Int32) h3) (fun v4 h5 => (Option.bind (f_Rows_put l1 v1 (0 : Int32) v4 h5) (fun h6 => (sh_b2 (f_Reader_number (1 : Int32) (20 : Int32) h6) (fun v7 h8 => (Option.bind (f_Rows_put l1 v1 (1 : Int32) v7 h8) (fun h9 => (sh_b2 (f_Reader_number (0 : Int32) (99 : Int32) h9) (fun v10 h11 => (Option.bind (f_Rows_put l1 v1 (2 : Int32) v10 h11) (fun h12 => (Option.bind (f_Reader_expect (59 : Int32) h12) (fun h13 => (some h13)))))))))))))))))))
theorem x_Reader_tellKind (N : Nat) {d : Nat} (hd : 5 ≤ d) (l1 : Nat) (h : sh_H) {Q : ai_Q} {R : sh_H → Prop} (H : sh_ok (f_Reader_tellKind N l1 h) R) (hR : ∀ h, R h → Q none (sh_E h)) : ai_Ex sh_T d 74 [aR 5 0, aR 6 l1] (sh_E h) Q := by
  obtain ⟨d, rfl⟩ : ∃ e, d = e + 1 := ⟨d - 1, by omega⟩
  replace hd : 4 ≤ d := by omega
  refine And.intro (Nat.le_of_ble_eq_true rfl) ?_
  show wq_74 d Q 0 [oR 5 0, oR 6 l1, none] [] (sh_E h)
  refine ai_WP_steps mc_74 (sh_CM d) 3 (And.intro (Nat.le_of_ble_eq_true rfl) (x_Reader_open N (Nat.le_trans (Nat.le_of_ble_eq_true rfl) hd) l1 h (sh_okB H) (fun v1 h2 H => ?_)))
  show wq_74 d Q 5 [oR 5 0, oR 6 l1, _] [aI v1] (sh_E h2)
  refine ai_WP_steps mc_74 (sh_CM d) 6 (And.intro (Nat.le_of_ble_eq_true rfl) (x_Reader_newName N (Nat.le_trans (Nat.le_of_ble_eq_true rfl) hd) 1 v1 h2 (sh_okB H) (fun h3 H => ?_)))
  show wq_74 d Q 15 [oR 5 0, oR 6 l1, oI v1] [] (sh_E h3)
  refine ai_WP_steps mc_74 (sh_CM d) 7 (And.intro (Nat.le_of_ble_eq_true rfl) (x_Reader_number (Nat.le_trans (Nat.le_of_ble_eq_true rfl) hd) (1 : Int32) (500 : Int32) h3 (sh_okB H) (fun v4 h5 H => ?_)))
  show wq_74 d Q 26 [oR 5 0, oR 6 l1, oI v1] [aI v4, aI (0 : Int32), aI v1, aR 6 l1] (sh_E h5)
  refine ai_WP_steps mc_74 (sh_CM d) 1 (And.intro (Nat.le_of_ble_eq_true rfl) (x_Rows_put (Nat.le_trans (Nat.le_of_ble_eq_true rfl) hd) l1 v1 (0 : Int32) v4 h5 (sh_okB H) (fun h6 H => ?_)))
  show wq_74 d Q 29 [oR 5 0, oR 6 l1, oI v1] [] (sh_E h6)
  refine ai_WP_steps mc_74 (sh_CM d) 7 (And.intro (Nat.le_of_ble_eq_true rfl) (x_Reader_number (Nat.le_trans (Nat.le_of_ble_eq_true rfl) hd) (1 : Int32) (20 : Int32) h6 (sh_okB H) (fun v7 h8 H => ?_)))
  show wq_74 d Q 39 [oR 5 0, oR 6 l1, oI v1] [aI v7, aI (1 : Int32), aI v1, aR 6 l1] (sh_E h8)
  refine ai_WP_steps mc_74 (sh_CM d) 1 (And.intro (Nat.le_of_ble_eq_true rfl) (x_Rows_put (Nat.le_trans (Nat.le_of_ble_eq_true rfl) hd) l1 v1 (1 : Int32) v7 h8 (sh_okB H) (fun h9 H => ?_)))
  show wq_74 d Q 42 [oR 5 0, oR 6 l1, oI v1] [] (sh_E h9)
  refine ai_WP_steps mc_74 (sh_CM d) 7 (And.intro (Nat.le_of_ble_eq_true rfl) (x_Reader_number (Nat.le_trans (Nat.le_of_ble_eq_true rfl) hd) (0 : Int32) (99 : Int32) h9 (sh_okB H) (fun v10 h11 H => ?_)))
  show wq_74 d Q 52 [oR 5 0, oR 6 l1, oI v1] [aI v10, aI (2 : Int32), aI v1, aR 6 l1] (sh_E h11)
  refine ai_WP_steps mc_74 (sh_CM d) 1 (And.intro (Nat.le_of_ble_eq_true rfl) (x_Rows_put (Nat.le_trans (Nat.le_of_ble_eq_true rfl) hd) l1 v1 (2 : Int32) v10 h11 (sh_okB H) (fun h12 H => ?_)))
  show wq_74 d Q 55 [oR 5 0, oR 6 l1, oI v1] [] (sh_E h12)
  refine ai_WP_steps mc_74 (sh_CM d) 3 (And.intro (Nat.le_of_ble_eq_true rfl) (x_Reader_expect (Nat.le_trans (Nat.le_of_ble_eq_true rfl) hd) (59 : Int32) h12 (sh_okB H) (fun h13 H => ?_)))
  show wq_74 d Q 61 [oR 5 0, oR 6 l1, oI v1] [] (sh_E h13)
  exact ai_WP_steps mc_74 (sh_CM d) 1 (hR h13 H)
def f_Reader_tellOfIsland (N : Nat)  (l1 : Nat) (h : sh_H) : Option sh_H := (sh_b2 (f_Reader_open N l1 h) (fun v1 h2 => (sh_b2 (f_Reader_placeTold N (0 : Int32) h2) (fun v3 h4 => (Option.bind (f_Rows_put l1 v1 (0 : Int32) v3 h4) (fun h5 => (sh_b2 (f_Reader_kindTold N h5) (fun v6 h7 => (Option.bind (f_Rows_put l1 v1 (1 : Int32) v6 h7) (fun h8 => (some h8)))))))))))
theorem x_Reader_tellOfIsland (N : Nat) {d : Nat} (hd : 5 ≤ d) (l1 : Nat) (h : sh_H) {Q : ai_Q} {R : sh_H → Prop} (H : sh_ok (f_Reader_tellOfIsland N l1 h) R) (hR : ∀ h, R h → Q none (sh_E h)) : ai_Ex sh_T d 76 [aR 5 0, aR 6 l1] (sh_E h) Q := by
  obtain ⟨d, rfl⟩ : ∃ e, d = e + 1 := ⟨d - 1, by omega⟩
  replace hd : 4 ≤ d := by omega
  refine And.intro (Nat.le_of_ble_eq_true rfl) ?_
  show wq_76 d Q 0 [oR 5 0, oR 6 l1, none] [] (sh_E h)
  refine ai_WP_steps mc_76 (sh_CM d) 3 (And.intro (Nat.le_of_ble_eq_true rfl) (x_Reader_open N (Nat.le_trans (Nat.le_of_ble_eq_true rfl) hd) l1 h (sh_okB H) (fun v1 h2 H => ?_)))
  show wq_76 d Q 5 [oR 5 0, oR 6 l1, _] [aI v1] (sh_E h2)
  refine ai_WP_steps mc_76 (sh_CM d) 7 (And.intro (Nat.le_of_ble_eq_true rfl) (x_Reader_placeTold N (Nat.le_trans (Nat.le_of_ble_eq_true rfl) hd) (0 : Int32) h2 (sh_okB H) (fun v3 h4 H => ?_)))
  show wq_76 d Q 14 [oR 5 0, oR 6 l1, oI v1] [aI v3, aI (0 : Int32), aI v1, aR 6 l1] (sh_E h4)
  refine ai_WP_steps mc_76 (sh_CM d) 1 (And.intro (Nat.le_of_ble_eq_true rfl) (x_Rows_put (Nat.le_trans (Nat.le_of_ble_eq_true rfl) hd) l1 v1 (0 : Int32) v3 h4 (sh_okB H) (fun h5 H => ?_)))
  show wq_76 d Q 17 [oR 5 0, oR 6 l1, oI v1] [] (sh_E h5)
  refine ai_WP_steps mc_76 (sh_CM d) 5 (And.intro (Nat.le_of_ble_eq_true rfl) (x_Reader_kindTold N (Nat.le_trans (Nat.le_of_ble_eq_true rfl) hd) h5 (sh_okB H) (fun v6 h7 H => ?_)))
  show wq_76 d Q 24 [oR 5 0, oR 6 l1, oI v1] [aI v6, aI (1 : Int32), aI v1, aR 6 l1] (sh_E h7)
  refine ai_WP_steps mc_76 (sh_CM d) 1 (And.intro (Nat.le_of_ble_eq_true rfl) (x_Rows_put (Nat.le_trans (Nat.le_of_ble_eq_true rfl) hd) l1 v1 (1 : Int32) v6 h7 (sh_okB H) (fun h8 H => ?_)))
  show wq_76 d Q 27 [oR 5 0, oR 6 l1, oI v1] [] (sh_E h8)
  exact ai_WP_steps mc_76 (sh_CM d) 1 (hR h8 H)
def f_Reader_tellWear (N : Nat)  (l1 : Nat) (h : sh_H) : Option sh_H := (sh_b2 (f_Reader_open N l1 h) (fun v1 h2 => (sh_b2 (f_Reader_kindTold N h2) (fun v3 h4 => (Option.bind (f_Rows_put l1 v1 (1 : Int32) v3 h4) (fun h5 => (some h5)))))))
theorem x_Reader_tellWear (N : Nat) {d : Nat} (hd : 5 ≤ d) (l1 : Nat) (h : sh_H) {Q : ai_Q} {R : sh_H → Prop} (H : sh_ok (f_Reader_tellWear N l1 h) R) (hR : ∀ h, R h → Q none (sh_E h)) : ai_Ex sh_T d 78 [aR 5 0, aR 6 l1] (sh_E h) Q := by
  obtain ⟨d, rfl⟩ : ∃ e, d = e + 1 := ⟨d - 1, by omega⟩
  replace hd : 4 ≤ d := by omega
  refine And.intro (Nat.le_of_ble_eq_true rfl) ?_
  show wq_78 d Q 0 [oR 5 0, oR 6 l1, none] [] (sh_E h)
  refine ai_WP_steps mc_78 (sh_CM d) 3 (And.intro (Nat.le_of_ble_eq_true rfl) (x_Reader_open N (Nat.le_trans (Nat.le_of_ble_eq_true rfl) hd) l1 h (sh_okB H) (fun v1 h2 H => ?_)))
  show wq_78 d Q 5 [oR 5 0, oR 6 l1, _] [aI v1] (sh_E h2)
  refine ai_WP_steps mc_78 (sh_CM d) 6 (And.intro (Nat.le_of_ble_eq_true rfl) (x_Reader_kindTold N (Nat.le_trans (Nat.le_of_ble_eq_true rfl) hd) h2 (sh_okB H) (fun v3 h4 H => ?_)))
  show wq_78 d Q 13 [oR 5 0, oR 6 l1, oI v1] [aI v3, aI (1 : Int32), aI v1, aR 6 l1] (sh_E h4)
  refine ai_WP_steps mc_78 (sh_CM d) 1 (And.intro (Nat.le_of_ble_eq_true rfl) (x_Rows_put (Nat.le_trans (Nat.le_of_ble_eq_true rfl) hd) l1 v1 (1 : Int32) v3 h4 (sh_okB H) (fun h5 H => ?_)))
  show wq_78 d Q 16 [oR 5 0, oR 6 l1, oI v1] [] (sh_E h5)
  exact ai_WP_steps mc_78 (sh_CM d) 1 (hR h5 H)
def f_Reader_tell_b174 (N : Nat)    (h : sh_H) : Option sh_H := (Option.bind (f_Reader_fail (1 : Int32) h) (fun h1 => (some h1)))
theorem x_Reader_tell_b174 (N : Nat) {d : Nat} (hd : 64 ≤ d) {Q : ai_Q} {R : sh_H → Prop} (hR : ∀ h, R h → Q none (sh_E h))    {d1 d2 : Option ai_V} (h : sh_H) (H : sh_ok (f_Reader_tell_b174 N h) R) : wq_73 d Q 174 [oR 5 0, d1, d2] [] (sh_E h) := by
  refine ai_WP_steps mc_73 (sh_CM d) 3 (And.intro (Nat.le_of_ble_eq_true rfl) (x_Reader_fail (Nat.le_trans (Nat.le_of_ble_eq_true rfl) hd) (1 : Int32) h (sh_okB H) (fun h1 H => ?_)))
  show wq_73 d Q 179 [oR 5 0, _, _] [] (sh_E h1)
  exact ai_WP_steps mc_73 (sh_CM d) 1 (hR h1 H)
def f_Reader_tell (N : Nat)  (l1 : Nat) (l2 : Int32) (h : sh_H) : Option sh_H := (if l2 = (0 : Int32) then (Option.bind (f_Reader_tellKind N (7 * l1 + 0) h) (fun h2 => (some h2))) else (if l2 = (1 : Int32) then (Option.bind (f_Reader_tellIsland N (7 * l1 + 1) h) (fun h3 => (some h3))) else (if l2 = (2 : Int32) then (Option.bind (f_Reader_tellOfIsland N (7 * l1 + 2) h) (fun h4 => (Option.bind (f_Reader_equation N (7 * l1 + 2) l1 h4) (fun h5 => (some h5))))) else (if l2 = (3 : Int32) then (Option.bind (f_Reader_tellOfIsland N (7 * l1 + 3) h) (fun h6 => (Option.bind (f_Reader_equation N (7 * l1 + 3) l1 h6) (fun h7 => (some h7))))) else (if l2 = (4 : Int32) then (Option.bind (f_Reader_tellFlow N (7 * l1 + 4) h) (fun h8 => (Option.bind (f_Reader_equation N (7 * l1 + 4) l1 h8) (fun h9 => (some h9))))) else (if l2 = (5 : Int32) then f_Reader_tell_b174 N h else (if l2 = (6 : Int32) then (Option.bind (f_Reader_tellWear N (7 * l1 + 5) h) (fun h10 => (Option.bind (f_Reader_equation N (7 * l1 + 5) l1 h10) (fun h11 => (some h11))))) else (if l2 = (7 : Int32) then (Option.bind (f_Reader_tellBoat N (7 * l1 + 6) l1 h) (fun h12 => (some h12))) else f_Reader_tell_b174 N h))))))))
theorem x_Reader_tell (N : Nat) {d : Nat} (hd : 65 ≤ d) (l1 : Nat) (l2 : Int32) (h : sh_H) {Q : ai_Q} {R : sh_H → Prop} (H : sh_ok (f_Reader_tell N l1 l2 h) R) (hR : ∀ h, R h → Q none (sh_E h)) : ai_Ex sh_T d 73 [aR 5 0, aR 9 l1, aI l2] (sh_E h) Q := by
  obtain ⟨d, rfl⟩ : ∃ e, d = e + 1 := ⟨d - 1, by omega⟩
  replace hd : 64 ≤ d := by omega
  refine And.intro (Nat.le_of_ble_eq_true rfl) ?_
  show wq_73 d Q 0 [oR 5 0, oR 9 l1, oI l2] [] (sh_E h)
  refine ai_WP_steps mc_73 (sh_CM d) 2 (And.intro (fun c => ?_) (fun c => ?_))
  · replace H := sh_okT c H
    show wq_73 d Q 48 [oR 5 0, oR 9 l1, oI l2] [] (sh_E h)
    refine ai_WP_steps mc_73 (sh_CM d) 4 (And.intro (Nat.le_of_ble_eq_true rfl) (x_Reader_tellKind N (Nat.le_trans (Nat.le_of_ble_eq_true rfl) hd) (7 * l1 + 0) h (sh_okB H) (fun h2 H => ?_)))
    show wq_73 d Q 56 [oR 5 0, oR 9 l1, oI l2] [] (sh_E h2)
    exact ai_WP_steps mc_73 (sh_CM d) 2 (hR h2 H)
  replace H := sh_okF c H
  refine And.intro (fun c => ?_) (fun c => ?_)
  · replace H := sh_okT c H
    show wq_73 d Q 59 [oR 5 0, oR 9 l1, oI l2] [] (sh_E h)
    refine ai_WP_steps mc_73 (sh_CM d) 4 (And.intro (Nat.le_of_ble_eq_true rfl) (x_Reader_tellIsland N (Nat.le_trans (Nat.le_of_ble_eq_true rfl) hd) (7 * l1 + 1) h (sh_okB H) (fun h3 H => ?_)))
    show wq_73 d Q 67 [oR 5 0, oR 9 l1, oI l2] [] (sh_E h3)
    exact ai_WP_steps mc_73 (sh_CM d) 2 (hR h3 H)
  replace H := sh_okF c H
  refine And.intro (fun c => ?_) (fun c => ?_)
  · replace H := sh_okT c H
    show wq_73 d Q 70 [oR 5 0, oR 9 l1, oI l2] [] (sh_E h)
    refine ai_WP_steps mc_73 (sh_CM d) 4 (And.intro (Nat.le_of_ble_eq_true rfl) (x_Reader_tellOfIsland N (Nat.le_trans (Nat.le_of_ble_eq_true rfl) hd) (7 * l1 + 2) h (sh_okB H) (fun h4 H => ?_)))
    show wq_73 d Q 78 [oR 5 0, oR 9 l1, oI l2] [] (sh_E h4)
    refine ai_WP_steps mc_73 (sh_CM d) 6 (And.intro (Nat.le_of_ble_eq_true rfl) (x_Reader_equation N (Nat.le_trans (Nat.le_of_ble_eq_true rfl) hd) (7 * l1 + 2) l1 h4 (sh_okB H) (fun h5 H => ?_)))
    show wq_73 d Q 90 [oR 5 0, oR 9 l1, oI l2] [] (sh_E h5)
    exact ai_WP_steps mc_73 (sh_CM d) 2 (hR h5 H)
  replace H := sh_okF c H
  refine And.intro (fun c => ?_) (fun c => ?_)
  · replace H := sh_okT c H
    show wq_73 d Q 93 [oR 5 0, oR 9 l1, oI l2] [] (sh_E h)
    refine ai_WP_steps mc_73 (sh_CM d) 4 (And.intro (Nat.le_of_ble_eq_true rfl) (x_Reader_tellOfIsland N (Nat.le_trans (Nat.le_of_ble_eq_true rfl) hd) (7 * l1 + 3) h (sh_okB H) (fun h6 H => ?_)))
    show wq_73 d Q 101 [oR 5 0, oR 9 l1, oI l2] [] (sh_E h6)
    refine ai_WP_steps mc_73 (sh_CM d) 6 (And.intro (Nat.le_of_ble_eq_true rfl) (x_Reader_equation N (Nat.le_trans (Nat.le_of_ble_eq_true rfl) hd) (7 * l1 + 3) l1 h6 (sh_okB H) (fun h7 H => ?_)))
    show wq_73 d Q 113 [oR 5 0, oR 9 l1, oI l2] [] (sh_E h7)
    exact ai_WP_steps mc_73 (sh_CM d) 2 (hR h7 H)
  replace H := sh_okF c H
  refine And.intro (fun c => ?_) (fun c => ?_)
  · replace H := sh_okT c H
    show wq_73 d Q 116 [oR 5 0, oR 9 l1, oI l2] [] (sh_E h)
    refine ai_WP_steps mc_73 (sh_CM d) 4 (And.intro (Nat.le_of_ble_eq_true rfl) (x_Reader_tellFlow N (Nat.le_trans (Nat.le_of_ble_eq_true rfl) hd) (7 * l1 + 4) h (sh_okB H) (fun h8 H => ?_)))
    show wq_73 d Q 124 [oR 5 0, oR 9 l1, oI l2] [] (sh_E h8)
    refine ai_WP_steps mc_73 (sh_CM d) 6 (And.intro (Nat.le_of_ble_eq_true rfl) (x_Reader_equation N (Nat.le_trans (Nat.le_of_ble_eq_true rfl) hd) (7 * l1 + 4) l1 h8 (sh_okB H) (fun h9 H => ?_)))
    show wq_73 d Q 136 [oR 5 0, oR 9 l1, oI l2] [] (sh_E h9)
    exact ai_WP_steps mc_73 (sh_CM d) 2 (hR h9 H)
  replace H := sh_okF c H
  refine And.intro (fun c => ?_) (fun c => ?_)
  · replace H := sh_okT c H
    exact x_Reader_tell_b174 N hd hR h H
  replace H := sh_okF c H
  refine And.intro (fun c => ?_) (fun c => ?_)
  · replace H := sh_okT c H
    show wq_73 d Q 139 [oR 5 0, oR 9 l1, oI l2] [] (sh_E h)
    refine ai_WP_steps mc_73 (sh_CM d) 4 (And.intro (Nat.le_of_ble_eq_true rfl) (x_Reader_tellWear N (Nat.le_trans (Nat.le_of_ble_eq_true rfl) hd) (7 * l1 + 5) h (sh_okB H) (fun h10 H => ?_)))
    show wq_73 d Q 147 [oR 5 0, oR 9 l1, oI l2] [] (sh_E h10)
    refine ai_WP_steps mc_73 (sh_CM d) 6 (And.intro (Nat.le_of_ble_eq_true rfl) (x_Reader_equation N (Nat.le_trans (Nat.le_of_ble_eq_true rfl) hd) (7 * l1 + 5) l1 h10 (sh_okB H) (fun h11 H => ?_)))
    show wq_73 d Q 159 [oR 5 0, oR 9 l1, oI l2] [] (sh_E h11)
    exact ai_WP_steps mc_73 (sh_CM d) 2 (hR h11 H)
  replace H := sh_okF c H
  refine And.intro (fun c => ?_) (fun c => ?_)
  · replace H := sh_okT c H
    show wq_73 d Q 162 [oR 5 0, oR 9 l1, oI l2] [] (sh_E h)
    refine ai_WP_steps mc_73 (sh_CM d) 5 (And.intro (Nat.le_of_ble_eq_true rfl) (x_Reader_tellBoat N (Nat.le_trans (Nat.le_of_ble_eq_true rfl) hd) (7 * l1 + 6) l1 h (sh_okB H) (fun h12 H => ?_)))
    show wq_73 d Q 171 [oR 5 0, oR 9 l1, oI l2] [] (sh_E h12)
    exact ai_WP_steps mc_73 (sh_CM d) 2 (hR h12 H)
  replace H := sh_okF c H
  exact x_Reader_tell_b174 N hd hR h H
def f_Text_clear  (l0 : Nat) (h : sh_H) : Option sh_H := (Option.bind (f_Rows_clear (7 * l0 + 0) h) (fun h1 => (Option.bind (f_Rows_clear (7 * l0 + 1) h1) (fun h2 => (Option.bind (f_Rows_clear (7 * l0 + 2) h2) (fun h3 => (Option.bind (f_Rows_clear (7 * l0 + 3) h3) (fun h4 => (Option.bind (f_Rows_clear (7 * l0 + 4) h4) (fun h5 => (Option.bind (f_Rows_clear (7 * l0 + 5) h5) (fun h6 => (Option.bind (f_Rows_clear (7 * l0 + 6) h6) (fun h7 => (Option.bind (f_Formulas_clear l0 h7) (fun h8 => (some h8)))))))))))))))))
theorem x_Text_clear {d : Nat} (hd : 2 ≤ d) (l0 : Nat) (h : sh_H) {Q : ai_Q} {R : sh_H → Prop} (H : sh_ok (f_Text_clear l0 h) R) (hR : ∀ h, R h → Q none (sh_E h)) : ai_Ex sh_T d 122 [aR 9 l0] (sh_E h) Q := by
  obtain ⟨d, rfl⟩ : ∃ e, d = e + 1 := ⟨d - 1, by omega⟩
  replace hd : 1 ≤ d := by omega
  refine And.intro (Nat.le_of_ble_eq_true rfl) ?_
  show wq_122 d Q 0 [oR 9 l0] [] (sh_E h)
  refine ai_WP_steps mc_122 (sh_CM d) 3 (And.intro (Nat.le_of_ble_eq_true rfl) (x_Rows_clear (Nat.le_trans (Nat.le_of_ble_eq_true rfl) hd) (7 * l0 + 0) h (sh_okB H) (fun h1 H => ?_)))
  show wq_122 d Q 7 [oR 9 l0] [] (sh_E h1)
  refine ai_WP_steps mc_122 (sh_CM d) 3 (And.intro (Nat.le_of_ble_eq_true rfl) (x_Rows_clear (Nat.le_trans (Nat.le_of_ble_eq_true rfl) hd) (7 * l0 + 1) h1 (sh_okB H) (fun h2 H => ?_)))
  show wq_122 d Q 14 [oR 9 l0] [] (sh_E h2)
  refine ai_WP_steps mc_122 (sh_CM d) 3 (And.intro (Nat.le_of_ble_eq_true rfl) (x_Rows_clear (Nat.le_trans (Nat.le_of_ble_eq_true rfl) hd) (7 * l0 + 2) h2 (sh_okB H) (fun h3 H => ?_)))
  show wq_122 d Q 21 [oR 9 l0] [] (sh_E h3)
  refine ai_WP_steps mc_122 (sh_CM d) 3 (And.intro (Nat.le_of_ble_eq_true rfl) (x_Rows_clear (Nat.le_trans (Nat.le_of_ble_eq_true rfl) hd) (7 * l0 + 3) h3 (sh_okB H) (fun h4 H => ?_)))
  show wq_122 d Q 28 [oR 9 l0] [] (sh_E h4)
  refine ai_WP_steps mc_122 (sh_CM d) 3 (And.intro (Nat.le_of_ble_eq_true rfl) (x_Rows_clear (Nat.le_trans (Nat.le_of_ble_eq_true rfl) hd) (7 * l0 + 4) h4 (sh_okB H) (fun h5 H => ?_)))
  show wq_122 d Q 35 [oR 9 l0] [] (sh_E h5)
  refine ai_WP_steps mc_122 (sh_CM d) 3 (And.intro (Nat.le_of_ble_eq_true rfl) (x_Rows_clear (Nat.le_trans (Nat.le_of_ble_eq_true rfl) hd) (7 * l0 + 5) h5 (sh_okB H) (fun h6 H => ?_)))
  show wq_122 d Q 42 [oR 9 l0] [] (sh_E h6)
  refine ai_WP_steps mc_122 (sh_CM d) 3 (And.intro (Nat.le_of_ble_eq_true rfl) (x_Rows_clear (Nat.le_trans (Nat.le_of_ble_eq_true rfl) hd) (7 * l0 + 6) h6 (sh_okB H) (fun h7 H => ?_)))
  show wq_122 d Q 49 [oR 9 l0] [] (sh_E h7)
  refine ai_WP_steps mc_122 (sh_CM d) 3 (And.intro (Nat.le_of_ble_eq_true rfl) (x_Formulas_clear (Nat.le_trans (Nat.le_of_ble_eq_true rfl) hd) l0 h7 (sh_okB H) (fun h8 H => ?_)))
  show wq_122 d Q 56 [oR 9 l0] [] (sh_E h8)
  exact ai_WP_steps mc_122 (sh_CM d) 1 (hR h8 H)
def f_Tokens_byteAt_b28    (h : sh_H) : Option Int32 := (some (-1 : Int32))
theorem x_Tokens_byteAt_b28 {d : Nat} (hd : 0 ≤ d) (h : sh_H) {Q : ai_Q} {R : Int32 → Prop} (hR : ∀ r, R r → Q (some (aI r)) (sh_E h))    {d0 d1 d2 : Option ai_V} (H : sh_ok (f_Tokens_byteAt_b28 h) R) : wq_142 d Q 28 [d0, d1, d2] [] (sh_E h) := by
  exact ai_WP_steps mc_142 (sh_CM d) 2 (hR (-1 : Int32) H)
def f_Tokens_byteAt  (l2 : Int32) (h : sh_H) : Option Int32 := (if l2 < 0 then f_Tokens_byteAt_b28 h else (if l2 < (h.1 10 0 5) then (if l2 < (Int32.ofNat 2000) then (if ai_in l2 2000 then (some ((h.1 15 0 l2.toNatClampNeg) &&& (255 : Int32))) else none) else f_Tokens_byteAt_b28 h) else f_Tokens_byteAt_b28 h))
theorem x_Tokens_byteAt {d : Nat} (hd : 1 ≤ d) (l2 : Int32) (h : sh_H) {Q : ai_Q} {R : Int32 → Prop} (H : sh_ok (f_Tokens_byteAt l2 h) R) (hR : ∀ r, R r → Q (some (aI r)) (sh_E h)) : ai_Ex sh_T d 142 [aR 10 0, aR 15 0, aI l2] (sh_E h) Q := by
  obtain ⟨d, rfl⟩ : ∃ e, d = e + 1 := ⟨d - 1, by omega⟩
  replace hd : 0 ≤ d := by omega
  refine And.intro (Nat.le_of_ble_eq_true rfl) ?_
  show wq_142 d Q 0 [oR 10 0, oR 15 0, oI l2] [] (sh_E h)
  refine ai_WP_steps mc_142 (sh_CM d) 2 (And.intro (fun c => ?_) (fun c => ?_))
  · replace H := sh_okT c H
    exact x_Tokens_byteAt_b28 hd h hR H
  · replace H := sh_okF c H
    show wq_142 d Q 4 [oR 10 0, oR 15 0, oI l2] [] (sh_E h)
    refine ai_WP_steps mc_142 (sh_CM d) 4 (And.intro (fun c => ?_) (fun c => ?_))
    · replace H := sh_okT c H
      show wq_142 d Q 12 [oR 10 0, oR 15 0, oI l2] [] (sh_E h)
      refine ai_WP_steps mc_142 (sh_CM d) 4 (And.intro (fun c => ?_) (fun c => ?_))
      · replace H := sh_okT c H
        show wq_142 d Q 18 [oR 10 0, oR 15 0, oI l2] [] (sh_E h)
        have c := sh_okG H
        replace H := sh_okH H
        refine ai_WP_steps mc_142 (sh_CM d) 3 (And.intro c ?_)
        show wq_142 d Q 21 [oR 10 0, oR 15 0, oI l2] [aI (h.1 15 0 l2.toNatClampNeg)] (sh_E h)
        exact ai_WP_steps mc_142 (sh_CM d) 4 (hR ((h.1 15 0 l2.toNatClampNeg) &&& (255 : Int32)) H)
      · replace H := sh_okF c H
        exact x_Tokens_byteAt_b28 hd h hR H
    · replace H := sh_okF c H
      exact x_Tokens_byteAt_b28 hd h hR H
def f_Tokens_isDigit_b16    (h : sh_H) : Option Int32 := (some (ai_nar 1 (0 : Int32)))
theorem x_Tokens_isDigit_b16 {d : Nat} (hd : 0 ≤ d) (h : sh_H) {Q : ai_Q} {R : Int32 → Prop} (hR : ∀ r, R r → Q (some (aI r)) (sh_E h))    {d0 : Option ai_V} (H : sh_ok (f_Tokens_isDigit_b16 h) R) : wq_145 d Q 16 [d0] [] (sh_E h) := by
  exact ai_WP_steps mc_145 (sh_CM d) 2 (hR (ai_nar 1 (0 : Int32)) H)
def f_Tokens_isDigit  (l0 : Int32) (h : sh_H) : Option Int32 := (if l0 < (48 : Int32) then f_Tokens_isDigit_b16 h else (if (57 : Int32) < l0 then f_Tokens_isDigit_b16 h else (some (ai_nar 1 (1 : Int32)))))
theorem x_Tokens_isDigit {d : Nat} (hd : 1 ≤ d) (l0 : Int32) (h : sh_H) {Q : ai_Q} {R : Int32 → Prop} (H : sh_ok (f_Tokens_isDigit l0 h) R) (hR : ∀ r, R r → Q (some (aI r)) (sh_E h)) : ai_Ex sh_T d 145 [aI l0] (sh_E h) Q := by
  obtain ⟨d, rfl⟩ : ∃ e, d = e + 1 := ⟨d - 1, by omega⟩
  replace hd : 0 ≤ d := by omega
  refine And.intro (Nat.le_of_ble_eq_true rfl) ?_
  show wq_145 d Q 0 [oI l0] [] (sh_E h)
  refine ai_WP_steps mc_145 (sh_CM d) 3 (And.intro (fun c => ?_) (fun c => ?_))
  · replace H := sh_okT c H
    exact x_Tokens_isDigit_b16 hd h hR H
  · replace H := sh_okF c H
    show wq_145 d Q 6 [oI l0] [] (sh_E h)
    refine ai_WP_steps mc_145 (sh_CM d) 3 (And.intro (fun c => ?_) (fun c => ?_))
    · replace H := sh_okT c H
      exact x_Tokens_isDigit_b16 hd h hR H
    · replace H := sh_okF c H
      show wq_145 d Q 12 [oI l0] [] (sh_E h)
      exact ai_WP_steps mc_145 (sh_CM d) 3 (hR (ai_nar 1 (1 : Int32)) H)
def f_Tokens_digits_c5 (N : Nat)  (k71 : Int32 → sh_H → Option (Int32 × sh_H)) (k5 : Int32 → sh_H → Option (Int32 × sh_H)) (l2 : Int32) (h : sh_H) : Option (Int32 × sh_H) := (if (h.1 10 0 4) < (h.1 10 0 5) then (Option.bind (f_Tokens_byteAt (h.1 10 0 4) h) (fun v1 => (Option.bind (f_Tokens_isDigit v1 h) (fun v2 => (if v2 = 0 then k71 l2 h else (Option.bind (f_Tokens_byteAt (h.1 10 0 4) h) (fun v3 => (sh_let (sh_pJ h 10 0 6 ((((h.2.1 10 0 6) * (10 : Int64)) + v3.toInt64) - (48 : Int64))) (fun h4 => (sh_let (sh_pI h4 10 0 4 ((h4.1 10 0 4) + (1 : Int32))) (fun h5 => k5 l2 h5))))))))))) else k71 l2 h)
def f_Tokens_digits_l5 (N : Nat)  (k71 : Int32 → sh_H → Option (Int32 × sh_H)) (n : Nat) : Int32 → sh_H → Option (Int32 × sh_H) := Nat.rec (motive := fun _ => Int32 → sh_H → Option (Int32 × sh_H)) (fun _ _ => none) (fun _ k5 => f_Tokens_digits_c5 N k71 k5) n
theorem x_Tokens_digits_l5 (N : Nat) {d : Nat} (hd : 1 ≤ d) {Q : ai_Q} {R : Int32 × sh_H → Prop} (hR : ∀ r h, R (r, h) → Q (some (aI r)) (sh_E h))  (k71 : Int32 → sh_H → Option (Int32 × sh_H)) (hk71 : ∀ (l2 : Int32) {d1 : Option ai_V} (h : sh_H), sh_ok (k71 l2 h) R → wq_141 d Q 71 [oR 10 0, d1, oI l2] [] (sh_E h)) (n : Nat) : ∀ (l2 : Int32) (h : sh_H), sh_ok (f_Tokens_digits_l5 N k71 n l2 h) R → wq_141 d Q 5 [oR 10 0, oR 15 0, oI l2] [] (sh_E h) := by
  induction n with
  | zero => intro l2 h H; exact H.elim
  | succ n ih =>
    intro l2 h H
    have hk5 := @ih
    replace H : sh_ok (f_Tokens_digits_c5 N k71 (f_Tokens_digits_l5 N k71 n) l2 h) R := H
    revert hk5 H
    generalize f_Tokens_digits_l5 N k71 n = k5
    intro hk5 H
    refine ai_WP_steps mc_141 (sh_CM d) 5 (And.intro (fun c => ?_) (fun c => ?_))
    · replace H := sh_okT c H
      show wq_141 d Q 16 [oR 10 0, oR 15 0, oI l2] [] (sh_E h)
      refine ai_WP_steps mc_141 (sh_CM d) 5 (And.intro (Nat.le_of_ble_eq_true rfl) (x_Tokens_byteAt (Nat.le_trans (Nat.le_of_ble_eq_true rfl) hd) (h.1 10 0 4) h (sh_okB H) (fun v1 H => ?_)))
      show wq_141 d Q 25 [oR 10 0, oR 15 0, oI l2] [aI v1] (sh_E h)
      refine ai_WP_steps mc_141 (sh_CM d) 1 (And.intro (Nat.le_of_ble_eq_true rfl) (x_Tokens_isDigit (Nat.le_trans (Nat.le_of_ble_eq_true rfl) hd) v1 h (sh_okB H) (fun v2 H => ?_)))
      show wq_141 d Q 28 [oR 10 0, oR 15 0, oI l2] [aI v2] (sh_E h)
      refine ai_WP_steps mc_141 (sh_CM d) 1 (And.intro (fun c => ?_) (fun c => ?_))
      · replace H := sh_okT c H
        exact hk71 l2 h H
      · replace H := sh_okF c H
        show wq_141 d Q 31 [oR 10 0, oR 15 0, oI l2] [] (sh_E h)
        refine ai_WP_steps mc_141 (sh_CM d) 10 (And.intro (Nat.le_of_ble_eq_true rfl) (x_Tokens_byteAt (Nat.le_trans (Nat.le_of_ble_eq_true rfl) hd) (h.1 10 0 4) h (sh_okB H) (fun v3 H => ?_)))
        show wq_141 d Q 49 [oR 10 0, oR 15 0, oI l2] [aI v3, aL ((h.2.1 10 0 6) * (10 : Int64)), aR 10 0] (sh_E h)
        refine ai_WP_steps mc_141 (sh_CM d) 5 ?_
        show wq_141 d Q 58 [oR 10 0, oR 15 0, oI l2] [] (sh_E (sh_pJ h 10 0 6 ((((h.2.1 10 0 6) * (10 : Int64)) + v3.toInt64) - (48 : Int64))))
        replace H := sh_okL H
        generalize sh_pJ h 10 0 6 ((((h.2.1 10 0 6) * (10 : Int64)) + v3.toInt64) - (48 : Int64)) = h4 at H ⊢
        refine ai_WP_steps mc_141 (sh_CM d) 6 (And.intro trivial ?_)
        show wq_141 d Q 68 [oR 10 0, oR 15 0, oI l2] [] (sh_E (sh_pI h4 10 0 4 ((h4.1 10 0 4) + (1 : Int32))))
        replace H := sh_okL H
        generalize sh_pI h4 10 0 4 ((h4.1 10 0 4) + (1 : Int32)) = h5 at H ⊢
        refine ai_WP_steps mc_141 (sh_CM d) 1 ?_
        exact hk5 l2 h5 H
    · replace H := sh_okF c H
      exact hk71 l2 h H
def f_Tokens_digits_b71 (N : Nat)   (l2 : Int32) (h : sh_H) : Option (Int32 × sh_H) := (if (4 : Int32) < ((h.1 10 0 4) - l2) then (some ((24 : Int32), h)) else (some ((21 : Int32), h)))
theorem x_Tokens_digits_b71 (N : Nat) {d : Nat} (hd : 1 ≤ d) {Q : ai_Q} {R : Int32 × sh_H → Prop} (hR : ∀ r h, R (r, h) → Q (some (aI r)) (sh_E h))   (l2 : Int32) {d1 : Option ai_V} (h : sh_H) (H : sh_ok (f_Tokens_digits_b71 N l2 h) R) : wq_141 d Q 71 [oR 10 0, d1, oI l2] [] (sh_E h) := by
  refine ai_WP_steps mc_141 (sh_CM d) 6 (And.intro (fun c => ?_) (fun c => ?_))
  · replace H := sh_okT c H
    show wq_141 d Q 81 [oR 10 0, _, oI l2] [] (sh_E h)
    exact ai_WP_steps mc_141 (sh_CM d) 3 (hR (24 : Int32) h H)
  · replace H := sh_okF c H
    show wq_141 d Q 86 [oR 10 0, _, oI l2] [] (sh_E h)
    exact ai_WP_steps mc_141 (sh_CM d) 2 (hR (21 : Int32) h H)
def f_Tokens_digits (N : Nat)   (h : sh_H) : Option (Int32 × sh_H) := f_Tokens_digits_l5 N (f_Tokens_digits_b71 N) N (h.1 10 0 4) h
theorem x_Tokens_digits (N : Nat) {d : Nat} (hd : 2 ≤ d)  (h : sh_H) {Q : ai_Q} {R : Int32 × sh_H → Prop} (H : sh_ok (f_Tokens_digits N h) R) (hR : ∀ r h, R (r, h) → Q (some (aI r)) (sh_E h)) : ai_Ex sh_T d 141 [aR 10 0, aR 15 0] (sh_E h) Q := by
  obtain ⟨d, rfl⟩ : ∃ e, d = e + 1 := ⟨d - 1, by omega⟩
  replace hd : 1 ≤ d := by omega
  refine And.intro (Nat.le_of_ble_eq_true rfl) ?_
  show wq_141 d Q 0 [oR 10 0, oR 15 0, none] [] (sh_E h)
  refine ai_WP_steps mc_141 (sh_CM d) 3 ?_
  exact x_Tokens_digits_l5 N hd hR (f_Tokens_digits_b71 N) (fun z0 {e1} h H => x_Tokens_digits_b71 N hd hR z0 h H) N (h.1 10 0 4) h H
def f_Tokens_isLetter_b16    (h : sh_H) : Option Int32 := (some (ai_nar 1 (0 : Int32)))
theorem x_Tokens_isLetter_b16 {d : Nat} (hd : 0 ≤ d) (h : sh_H) {Q : ai_Q} {R : Int32 → Prop} (hR : ∀ r, R r → Q (some (aI r)) (sh_E h))    {d0 : Option ai_V} (H : sh_ok (f_Tokens_isLetter_b16 h) R) : wq_144 d Q 16 [d0] [] (sh_E h) := by
  exact ai_WP_steps mc_144 (sh_CM d) 2 (hR (ai_nar 1 (0 : Int32)) H)
def f_Tokens_isLetter  (l0 : Int32) (h : sh_H) : Option Int32 := (if l0 < (97 : Int32) then f_Tokens_isLetter_b16 h else (if (122 : Int32) < l0 then f_Tokens_isLetter_b16 h else (some (ai_nar 1 (1 : Int32)))))
theorem x_Tokens_isLetter {d : Nat} (hd : 1 ≤ d) (l0 : Int32) (h : sh_H) {Q : ai_Q} {R : Int32 → Prop} (H : sh_ok (f_Tokens_isLetter l0 h) R) (hR : ∀ r, R r → Q (some (aI r)) (sh_E h)) : ai_Ex sh_T d 144 [aI l0] (sh_E h) Q := by
  obtain ⟨d, rfl⟩ : ∃ e, d = e + 1 := ⟨d - 1, by omega⟩
  replace hd : 0 ≤ d := by omega
  refine And.intro (Nat.le_of_ble_eq_true rfl) ?_
  show wq_144 d Q 0 [oI l0] [] (sh_E h)
  refine ai_WP_steps mc_144 (sh_CM d) 3 (And.intro (fun c => ?_) (fun c => ?_))
  · replace H := sh_okT c H
    exact x_Tokens_isLetter_b16 hd h hR H
  · replace H := sh_okF c H
    show wq_144 d Q 6 [oI l0] [] (sh_E h)
    refine ai_WP_steps mc_144 (sh_CM d) 3 (And.intro (fun c => ?_) (fun c => ?_))
    · replace H := sh_okT c H
      exact x_Tokens_isLetter_b16 hd h hR H
    · replace H := sh_okF c H
      show wq_144 d Q 12 [oI l0] [] (sh_E h)
      exact ai_WP_steps mc_144 (sh_CM d) 3 (hR (ai_nar 1 (1 : Int32)) H)
def f_Str_isLatin1_b17    (h : sh_H) : Option Int32 := (some (ai_nar 1 (0 : Int32)))
theorem x_Str_isLatin1_b17 {d : Nat} (hd : 0 ≤ d) (h : sh_H) {Q : ai_Q} {R : Int32 → Prop} (hR : ∀ r, R r → Q (some (aI r)) (sh_E h))    {d0 : Option ai_V} (H : sh_ok (f_Str_isLatin1_b17 h) R) : wq_352 d Q 17 [d0] [] (sh_E h) := by
  exact ai_WP_steps mc_352 (sh_CM d) 2 (hR (ai_nar 1 (0 : Int32)) H)
def f_Str_isLatin1  (l0 : Nat) (h : sh_H) : Option Int32 := (if (1 : Int32) = 0 then f_Str_isLatin1_b17 h else (if (0 : Int32) = 0 then (some (ai_nar 1 (1 : Int32))) else f_Str_isLatin1_b17 h))
theorem x_Str_isLatin1 {d : Nat} (hd : 1 ≤ d) (l0 : Nat) (h : sh_H) {Q : ai_Q} {R : Int32 → Prop} (H : sh_ok (f_Str_isLatin1 l0 h) R) (hR : ∀ r, R r → Q (some (aI r)) (sh_E h)) : ai_Ex sh_T d 352 [aR 18 l0] (sh_E h) Q := by
  obtain ⟨d, rfl⟩ : ∃ e, d = e + 1 := ⟨d - 1, by omega⟩
  replace hd : 0 ≤ d := by omega
  refine And.intro (Nat.le_of_ble_eq_true rfl) ?_
  show wq_352 d Q 0 [oR 18 l0] [] (sh_E h)
  refine ai_WP_steps mc_352 (sh_CM d) 2 (And.intro (fun c => ?_) (fun c => ?_))
  · replace H := sh_okT c H
    exact x_Str_isLatin1_b17 hd h hR H
  · replace H := sh_okF c H
    show wq_352 d Q 6 [oR 18 l0] [] (sh_E h)
    refine ai_WP_steps mc_352 (sh_CM d) 3 (And.intro (fun c => ?_) (fun c => ?_))
    · replace H := sh_okT c H
      show wq_352 d Q 13 [oR 18 l0] [] (sh_E h)
      exact ai_WP_steps mc_352 (sh_CM d) 3 (hR (ai_nar 1 (1 : Int32)) H)
    · replace H := sh_okF c H
      exact x_Str_isLatin1_b17 hd h hR H
def f_Pre_checkIndex_b9   (l0 : Int32) (l1 : Int32) (h : sh_H) : Option Int32 := none
theorem x_Pre_checkIndex_b9 {d : Nat} (hd : 0 ≤ d) (h : sh_H) {Q : ai_Q} {R : Int32 → Prop} (hR : ∀ r, R r → Q (some (aI r)) (sh_E h))   (l0 : Int32) (l1 : Int32) (H : sh_ok (f_Pre_checkIndex_b9 l0 l1 h) R) : wq_358 d Q 9 [oI l0, oI l1, oR 20 0] [] (sh_E h) := by
  exact H.elim
def f_Pre_checkIndex  (l0 : Int32) (l1 : Int32) (h : sh_H) : Option Int32 := (if l0 < 0 then f_Pre_checkIndex_b9 l0 l1 h else (if l0 < l1 then (some l0) else f_Pre_checkIndex_b9 l0 l1 h))
theorem x_Pre_checkIndex {d : Nat} (hd : 1 ≤ d) (l0 : Int32) (l1 : Int32) (h : sh_H) {Q : ai_Q} {R : Int32 → Prop} (H : sh_ok (f_Pre_checkIndex l0 l1 h) R) (hR : ∀ r, R r → Q (some (aI r)) (sh_E h)) : ai_Ex sh_T d 358 [aI l0, aI l1, aR 20 0] (sh_E h) Q := by
  obtain ⟨d, rfl⟩ : ∃ e, d = e + 1 := ⟨d - 1, by omega⟩
  replace hd : 0 ≤ d := by omega
  refine And.intro (Nat.le_of_ble_eq_true rfl) ?_
  show wq_358 d Q 0 [oI l0, oI l1, oR 20 0] [] (sh_E h)
  refine ai_WP_steps mc_358 (sh_CM d) 2 (And.intro (fun c => ?_) (fun c => ?_))
  · replace H := sh_okT c H
    exact x_Pre_checkIndex_b9 hd h hR l0 l1 H
  · replace H := sh_okF c H
    show wq_358 d Q 4 [oI l0, oI l1, oR 20 0] [] (sh_E h)
    refine ai_WP_steps mc_358 (sh_CM d) 3 (And.intro (fun c => ?_) (fun c => ?_))
    · replace H := sh_okT c H
      show wq_358 d Q 16 [oI l0, oI l1, oR 20 0] [] (sh_E h)
      exact ai_WP_steps mc_358 (sh_CM d) 2 (hR l0 H)
    · replace H := sh_okF c H
      exact x_Pre_checkIndex_b9 hd h hR l0 l1 H
def f_Str_checkIndex  (l0 : Int32) (l1 : Int32) (h : sh_H) : Option Unit := (Option.bind (f_Pre_checkIndex l0 l1 h) (fun v1 => (some ())))
theorem x_Str_checkIndex {d : Nat} (hd : 2 ≤ d) (l0 : Int32) (l1 : Int32) (h : sh_H) {Q : ai_Q} {R : Unit → Prop} (H : sh_ok (f_Str_checkIndex l0 l1 h) R) (hR : R () → Q none (sh_E h)) : ai_Ex sh_T d 353 [aI l0, aI l1] (sh_E h) Q := by
  obtain ⟨d, rfl⟩ : ∃ e, d = e + 1 := ⟨d - 1, by omega⟩
  replace hd : 1 ≤ d := by omega
  refine And.intro (Nat.le_of_ble_eq_true rfl) ?_
  show wq_353 d Q 0 [oI l0, oI l1] [] (sh_E h)
  refine ai_WP_steps mc_353 (sh_CM d) 4 (And.intro (Nat.le_of_ble_eq_true rfl) (x_Pre_checkIndex (Nat.le_trans (Nat.le_of_ble_eq_true rfl) hd) l0 l1 h (sh_okB H) (fun v1 H => ?_)))
  show wq_353 d Q 8 [oI l0, oI l1] [aI v1] (sh_E h)
  exact ai_WP_steps mc_353 (sh_CM d) 2 (hR H)
def f_Lat_charAt  (l0 : Nat) (l1 : Int32) (h : sh_H) : Option Int32 := (Option.bind (f_Str_checkIndex l1 (Int32.ofNat (ai_slen.getD l0 0)) h) (fun _ => (if ai_in l1 (ai_slen.getD l0 0) then (some (ai_nar 3 (((h.1 19 l0 l1.toNatClampNeg) &&& (255 : Int32)).toUInt32 % 65536).toInt32)) else none)))
theorem x_Lat_charAt {d : Nat} (hd : 3 ≤ d) (l0 : Nat) (l1 : Int32) (h : sh_H) {Q : ai_Q} {R : Int32 → Prop} (H : sh_ok (f_Lat_charAt l0 l1 h) R) (hR : ∀ r, R r → Q (some (aI r)) (sh_E h)) : ai_Ex sh_T d 354 [aR 19 l0, aI l1] (sh_E h) Q := by
  obtain ⟨d, rfl⟩ : ∃ e, d = e + 1 := ⟨d - 1, by omega⟩
  replace hd : 2 ≤ d := by omega
  refine And.intro (Nat.le_of_ble_eq_true rfl) ?_
  show wq_354 d Q 0 [oR 19 l0, oI l1] [] (sh_E h)
  refine ai_WP_steps mc_354 (sh_CM d) 4 (And.intro (Nat.le_of_ble_eq_true rfl) (x_Str_checkIndex (Nat.le_trans (Nat.le_of_ble_eq_true rfl) hd) l1 (Int32.ofNat (ai_slen.getD l0 0)) h (sh_okB H) (fun H => ?_)))
  show wq_354 d Q 6 [oR 19 l0, oI l1] [] (sh_E h)
  have c := sh_okG H
  replace H := sh_okH H
  refine ai_WP_steps mc_354 (sh_CM d) 3 (And.intro c ?_)
  show wq_354 d Q 9 [oR 19 l0, oI l1] [aI (h.1 19 l0 l1.toNatClampNeg)] (sh_E h)
  exact ai_WP_steps mc_354 (sh_CM d) 4 (hR (ai_nar 3 (((h.1 19 l0 l1.toNatClampNeg) &&& (255 : Int32)).toUInt32 % 65536).toInt32) H)
def f_Str_charAt  (l0 : Nat) (l1 : Int32) (h : sh_H) : Option Int32 := (Option.bind (f_Str_isLatin1 l0 h) (fun v1 => (if v1 = 0 then none else (Option.bind (f_Lat_charAt l0 l1 h) (fun v2 => (some (ai_nar 3 v2)))))))
theorem x_Str_charAt {d : Nat} (hd : 4 ≤ d) (l0 : Nat) (l1 : Int32) (h : sh_H) {Q : ai_Q} {R : Int32 → Prop} (H : sh_ok (f_Str_charAt l0 l1 h) R) (hR : ∀ r, R r → Q (some (aI r)) (sh_E h)) : ai_Ex sh_T d 348 [aR 18 l0, aI l1] (sh_E h) Q := by
  obtain ⟨d, rfl⟩ : ∃ e, d = e + 1 := ⟨d - 1, by omega⟩
  replace hd : 3 ≤ d := by omega
  refine And.intro (Nat.le_of_ble_eq_true rfl) ?_
  show wq_348 d Q 0 [oR 18 l0, oI l1] [] (sh_E h)
  refine ai_WP_steps mc_348 (sh_CM d) 2 (And.intro (Nat.le_of_ble_eq_true rfl) (x_Str_isLatin1 (Nat.le_trans (Nat.le_of_ble_eq_true rfl) hd) l0 h (sh_okB H) (fun v1 H => ?_)))
  show wq_348 d Q 4 [oR 18 l0, oI l1] [aI v1] (sh_E h)
  refine ai_WP_steps mc_348 (sh_CM d) 1 (And.intro (fun c => ?_) (fun c => ?_))
  · replace H := sh_okT c H
    show wq_348 d Q 16 [oR 18 l0, oI l1] [] (sh_E h)
    exact H.elim
  · replace H := sh_okF c H
    show wq_348 d Q 7 [oR 18 l0, oI l1] [] (sh_E h)
    refine ai_WP_steps mc_348 (sh_CM d) 4 (And.intro (Nat.le_of_ble_eq_true rfl) (x_Lat_charAt (Nat.le_trans (Nat.le_of_ble_eq_true rfl) hd) l0 l1 h (sh_okB H) (fun v2 H => ?_)))
    show wq_348 d Q 15 [oR 18 l0, oI l1] [aI v2] (sh_E h)
    exact ai_WP_steps mc_348 (sh_CM d) 1 (hR (ai_nar 3 v2) H)
def f_Str_coder  (l0 : Nat) (h : sh_H) : Option Int32 := (if (1 : Int32) = 0 then (some (ai_nar 2 (1 : Int32))) else (some (ai_nar 2 (0 : Int32))))
theorem x_Str_coder {d : Nat} (hd : 1 ≤ d) (l0 : Nat) (h : sh_H) {Q : ai_Q} {R : Int32 → Prop} (H : sh_ok (f_Str_coder l0 h) R) (hR : ∀ r, R r → Q (some (aI r)) (sh_E h)) : ai_Ex sh_T d 351 [aR 18 l0] (sh_E h) Q := by
  obtain ⟨d, rfl⟩ : ∃ e, d = e + 1 := ⟨d - 1, by omega⟩
  replace hd : 0 ≤ d := by omega
  refine And.intro (Nat.le_of_ble_eq_true rfl) ?_
  show wq_351 d Q 0 [oR 18 l0] [] (sh_E h)
  refine ai_WP_steps mc_351 (sh_CM d) 2 (And.intro (fun c => ?_) (fun c => ?_))
  · replace H := sh_okT c H
    show wq_351 d Q 13 [oR 18 l0] [] (sh_E h)
    exact ai_WP_steps mc_351 (sh_CM d) 2 (hR (ai_nar 2 (1 : Int32)) H)
  · replace H := sh_okF c H
    show wq_351 d Q 6 [oR 18 l0] [] (sh_E h)
    exact ai_WP_steps mc_351 (sh_CM d) 4 (hR (ai_nar 2 (0 : Int32)) H)
def f_Str_length  (l0 : Nat) (h : sh_H) : Option Int32 := (Option.bind (f_Str_coder l0 h) (fun v1 => (some ((Int32.ofNat (ai_slen.getD l0 0)) >>> (v1 &&& 31)))))
theorem x_Str_length {d : Nat} (hd : 2 ≤ d) (l0 : Nat) (h : sh_H) {Q : ai_Q} {R : Int32 → Prop} (H : sh_ok (f_Str_length l0 h) R) (hR : ∀ r, R r → Q (some (aI r)) (sh_E h)) : ai_Ex sh_T d 347 [aR 18 l0] (sh_E h) Q := by
  obtain ⟨d, rfl⟩ : ∃ e, d = e + 1 := ⟨d - 1, by omega⟩
  replace hd : 1 ≤ d := by omega
  refine And.intro (Nat.le_of_ble_eq_true rfl) ?_
  show wq_347 d Q 0 [oR 18 l0] [] (sh_E h)
  refine ai_WP_steps mc_347 (sh_CM d) 5 (And.intro (Nat.le_of_ble_eq_true rfl) (x_Str_coder (Nat.le_trans (Nat.le_of_ble_eq_true rfl) hd) l0 h (sh_okB H) (fun v1 H => ?_)))
  show wq_347 d Q 9 [oR 18 l0] [aI v1, aI (Int32.ofNat (ai_slen.getD l0 0))] (sh_E h)
  exact ai_WP_steps mc_347 (sh_CM d) 2 (hR ((Int32.ofNat (ai_slen.getD l0 0)) >>> (v1 &&& 31)) H)
def f_Tokens_isWord_b72 (N : Nat)  (k44 : Int32 → Int32 → Int32 → Int32 → sh_H → Option Int32) (l2 : Int32) (l4 : Int32) (l5 : Int32) (l6 : Int32) (s0 : Int32) (h : sh_H) : Option Int32 := (Option.bind (f_Str_charAt 0 (l4 + l6) h) (fun v1 => (if s0 = v1 then k44 l2 l4 l5 (l6 + (1 : Int32)) h else (some (ai_nar 1 (0 : Int32))))))
theorem x_Tokens_isWord_b72 (N : Nat) {d : Nat} (hd : 4 ≤ d) (h : sh_H) {Q : ai_Q} {R : Int32 → Prop} (hR : ∀ r, R r → Q (some (aI r)) (sh_E h))  (k44 : Int32 → Int32 → Int32 → Int32 → sh_H → Option Int32) (hk44 : ∀ (l2 : Int32) (l4 : Int32) (l5 : Int32) (l6 : Int32) {d3 d7 : Option ai_V}, sh_ok (k44 l2 l4 l5 l6 h) R → wq_140 d Q 44 [oR 10 0, oR 15 0, oI l2, d3, oI l4, oI l5, oI l6, d7] [] (sh_E h)) (l2 : Int32) (l4 : Int32) (l5 : Int32) (l6 : Int32) (s0 : Int32) {d3 d7 : Option ai_V} (H : sh_ok (f_Tokens_isWord_b72 N k44 l2 l4 l5 l6 s0 h) R) : wq_140 d Q 72 [oR 10 0, oR 15 0, oI l2, d3, oI l4, oI l5, oI l6, d7] [aI s0] (sh_E h) := by
  refine ai_WP_steps mc_140 (sh_CM d) 7 (And.intro (Nat.le_of_ble_eq_true rfl) (x_Str_charAt (Nat.le_trans (Nat.le_of_ble_eq_true rfl) hd) 0 (l4 + l6) h (sh_okB H) (fun v1 H => ?_)))
  show wq_140 d Q 86 [oR 10 0, oR 15 0, oI l2, _, oI l4, oI l5, oI l6, oI s0] [aI v1, aI s0] (sh_E h)
  refine ai_WP_steps mc_140 (sh_CM d) 1 (And.intro (fun c => ?_) (fun c => ?_))
  · replace H := sh_okT c H
    show wq_140 d Q 91 [oR 10 0, oR 15 0, oI l2, _, oI l4, oI l5, oI l6, oI s0] [] (sh_E h)
    refine ai_WP_steps mc_140 (sh_CM d) 2 ?_
    exact hk44 l2 l4 l5 (l6 + (1 : Int32)) H
  · replace H := sh_okF c H
    show wq_140 d Q 89 [oR 10 0, oR 15 0, oI l2, _, oI l4, oI l5, oI l6, oI s0] [] (sh_E h)
    exact ai_WP_steps mc_140 (sh_CM d) 2 (hR (ai_nar 1 (0 : Int32)) H)
def f_Tokens_isWord_c44 (N : Nat)   (k44 : Int32 → Int32 → Int32 → Int32 → sh_H → Option Int32) (l2 : Int32) (l4 : Int32) (l5 : Int32) (l6 : Int32) (h : sh_H) : Option Int32 := (if l6 < (7 : Int32) then (if l6 < l5 then (Option.bind (f_Tokens_byteAt (l2 + l6) h) (fun v2 => f_Tokens_isWord_b72 N k44 l2 l4 l5 l6 v2 h)) else f_Tokens_isWord_b72 N k44 l2 l4 l5 l6 (32 : Int32) h) else (some (ai_nar 1 (1 : Int32))))
def f_Tokens_isWord_l44 (N : Nat)   (n : Nat) : Int32 → Int32 → Int32 → Int32 → sh_H → Option Int32 := Nat.rec (motive := fun _ => Int32 → Int32 → Int32 → Int32 → sh_H → Option Int32) (fun _ _ _ _ _ => none) (fun _ k44 => f_Tokens_isWord_c44 N k44) n
theorem x_Tokens_isWord_l44 (N : Nat) {d : Nat} (hd : 4 ≤ d) (h : sh_H) {Q : ai_Q} {R : Int32 → Prop} (hR : ∀ r, R r → Q (some (aI r)) (sh_E h))   (n : Nat) : ∀ (l2 : Int32) (l4 : Int32) (l5 : Int32) (l6 : Int32) {d3 d7 : Option ai_V}, sh_ok (f_Tokens_isWord_l44 N n l2 l4 l5 l6 h) R → wq_140 d Q 44 [oR 10 0, oR 15 0, oI l2, d3, oI l4, oI l5, oI l6, d7] [] (sh_E h) := by
  induction n with
  | zero => intro l2 l4 l5 l6 d3 d7 H; exact H.elim
  | succ n ih =>
    intro l2 l4 l5 l6 d3 d7 H
    have hk44 := @ih
    replace H : sh_ok (f_Tokens_isWord_c44 N (f_Tokens_isWord_l44 N n) l2 l4 l5 l6 h) R := H
    revert hk44 H
    generalize f_Tokens_isWord_l44 N n = k44
    intro hk44 H
    refine ai_WP_steps mc_140 (sh_CM d) 3 (And.intro (fun c => ?_) (fun c => ?_))
    · replace H := sh_okT c H
      show wq_140 d Q 51 [oR 10 0, oR 15 0, oI l2, _, oI l4, oI l5, oI l6, _] [] (sh_E h)
      refine ai_WP_steps mc_140 (sh_CM d) 3 (And.intro (fun c => ?_) (fun c => ?_))
      · replace H := sh_okT c H
        show wq_140 d Q 58 [oR 10 0, oR 15 0, oI l2, _, oI l4, oI l5, oI l6, _] [] (sh_E h)
        refine ai_WP_steps mc_140 (sh_CM d) 6 (And.intro (Nat.le_of_ble_eq_true rfl) (x_Tokens_byteAt (Nat.le_trans (Nat.le_of_ble_eq_true rfl) hd) (l2 + l6) h (sh_okB H) (fun v2 H => ?_)))
        show wq_140 d Q 67 [oR 10 0, oR 15 0, oI l2, _, oI l4, oI l5, oI l6, _] [aI v2] (sh_E h)
        refine ai_WP_steps mc_140 (sh_CM d) 1 ?_
        exact x_Tokens_isWord_b72 N hd h hR k44 hk44 l2 l4 l5 l6 v2 H
      · replace H := sh_okF c H
        show wq_140 d Q 70 [oR 10 0, oR 15 0, oI l2, _, oI l4, oI l5, oI l6, _] [] (sh_E h)
        refine ai_WP_steps mc_140 (sh_CM d) 1 ?_
        exact x_Tokens_isWord_b72 N hd h hR k44 hk44 l2 l4 l5 l6 (32 : Int32) H
    · replace H := sh_okF c H
      show wq_140 d Q 97 [oR 10 0, oR 15 0, oI l2, _, oI l4, oI l5, oI l6, _] [] (sh_E h)
      exact ai_WP_steps mc_140 (sh_CM d) 2 (hR (ai_nar 1 (1 : Int32)) H)
def f_Tokens_isWord (N : Nat)  (l2 : Int32) (l3 : Int32) (h : sh_H) : Option Int32 := (if ((h.1 10 0 4) - l2) < (7 : Int32) then (if (l3 * (7 : Int32)) < 0 then (some (ai_nar 1 (0 : Int32))) else (Option.bind (f_Str_length 0 h) (fun v3 => (if v3 < ((l3 * (7 : Int32)) + (7 : Int32)) then (some (ai_nar 1 (0 : Int32))) else f_Tokens_isWord_l44 N N l2 (l3 * (7 : Int32)) ((h.1 10 0 4) - l2) (0 : Int32) h)))) else (some (ai_nar 1 (0 : Int32))))
theorem x_Tokens_isWord (N : Nat) {d : Nat} (hd : 5 ≤ d) (l2 : Int32) (l3 : Int32) (h : sh_H) {Q : ai_Q} {R : Int32 → Prop} (H : sh_ok (f_Tokens_isWord N l2 l3 h) R) (hR : ∀ r, R r → Q (some (aI r)) (sh_E h)) : ai_Ex sh_T d 140 [aR 10 0, aR 15 0, aI l2, aI l3] (sh_E h) Q := by
  obtain ⟨d, rfl⟩ : ∃ e, d = e + 1 := ⟨d - 1, by omega⟩
  replace hd : 4 ≤ d := by omega
  refine And.intro (Nat.le_of_ble_eq_true rfl) ?_
  show wq_140 d Q 0 [oR 10 0, oR 15 0, oI l2, oI l3, none, none, none, none] [] (sh_E h)
  refine ai_WP_steps mc_140 (sh_CM d) 12 (And.intro (fun c => ?_) (fun c => ?_))
  · replace H := sh_okT c H
    show wq_140 d Q 21 [oR 10 0, oR 15 0, oI l2, _, oI (l3 * (7 : Int32)), oI ((h.1 10 0 4) - l2), _, _] [] (sh_E h)
    refine ai_WP_steps mc_140 (sh_CM d) 2 (And.intro (fun c => ?_) (fun c => ?_))
    · replace H := sh_okT c H
      show wq_140 d Q 39 [oR 10 0, oR 15 0, oI l2, _, oI (l3 * (7 : Int32)), oI ((h.1 10 0 4) - l2), _, _] [] (sh_E h)
      exact ai_WP_steps mc_140 (sh_CM d) 2 (hR (ai_nar 1 (0 : Int32)) H)
    · replace H := sh_okF c H
      show wq_140 d Q 26 [oR 10 0, oR 15 0, oI l2, _, oI (l3 * (7 : Int32)), oI ((h.1 10 0 4) - l2), _, _] [] (sh_E h)
      refine ai_WP_steps mc_140 (sh_CM d) 5 (And.intro (Nat.le_of_ble_eq_true rfl) (x_Str_length (Nat.le_trans (Nat.le_of_ble_eq_true rfl) hd) 0 h (sh_okB H) (fun v3 H => ?_)))
      show wq_140 d Q 36 [oR 10 0, oR 15 0, oI l2, _, oI (l3 * (7 : Int32)), oI ((h.1 10 0 4) - l2), _, _] [aI v3, aI ((l3 * (7 : Int32)) + (7 : Int32))] (sh_E h)
      refine ai_WP_steps mc_140 (sh_CM d) 1 (And.intro (fun c => ?_) (fun c => ?_))
      · replace H := sh_okT c H
        show wq_140 d Q 39 [oR 10 0, oR 15 0, oI l2, _, oI (l3 * (7 : Int32)), oI ((h.1 10 0 4) - l2), _, _] [] (sh_E h)
        exact ai_WP_steps mc_140 (sh_CM d) 2 (hR (ai_nar 1 (0 : Int32)) H)
      · replace H := sh_okF c H
        show wq_140 d Q 41 [oR 10 0, oR 15 0, oI l2, _, oI (l3 * (7 : Int32)), oI ((h.1 10 0 4) - l2), _, _] [] (sh_E h)
        refine ai_WP_steps mc_140 (sh_CM d) 2 ?_
        exact x_Tokens_isWord_l44 N hd h hR N l2 (l3 * (7 : Int32)) ((h.1 10 0 4) - l2) (0 : Int32) H
  · replace H := sh_okF c H
    show wq_140 d Q 39 [oR 10 0, oR 15 0, oI l2, _, oI (l3 * (7 : Int32)), oI ((h.1 10 0 4) - l2), _, _] [] (sh_E h)
    exact ai_WP_steps mc_140 (sh_CM d) 2 (hR (ai_nar 1 (0 : Int32)) H)
def f_Tokens_word_c5 (N : Nat)  (k70 : Int32 → sh_H → Option (Int32 × sh_H)) (k5 : Int32 → sh_H → Option (Int32 × sh_H)) (l2 : Int32) (h : sh_H) : Option (Int32 × sh_H) := (if (h.1 10 0 4) < (h.1 10 0 5) then (Option.bind (f_Tokens_byteAt (h.1 10 0 4) h) (fun v1 => (Option.bind (f_Tokens_isLetter v1 h) (fun v2 => (if v2 = 0 then k70 l2 h else (Option.bind (f_Tokens_byteAt (h.1 10 0 4) h) (fun v3 => (sh_let (sh_pJ h 10 0 6 (((h.2.1 10 0 6) <<< ((5 : Int32).toInt64 &&& 63)) ||| ((v3 - (97 : Int32)) + (1 : Int32)).toInt64)) (fun h4 => (sh_let (sh_pI h4 10 0 4 ((h4.1 10 0 4) + (1 : Int32))) (fun h5 => k5 l2 h5))))))))))) else k70 l2 h)
def f_Tokens_word_l5 (N : Nat)  (k70 : Int32 → sh_H → Option (Int32 × sh_H)) (n : Nat) : Int32 → sh_H → Option (Int32 × sh_H) := Nat.rec (motive := fun _ => Int32 → sh_H → Option (Int32 × sh_H)) (fun _ _ => none) (fun _ k5 => f_Tokens_word_c5 N k70 k5) n
theorem x_Tokens_word_l5 (N : Nat) {d : Nat} (hd : 5 ≤ d) {Q : ai_Q} {R : Int32 × sh_H → Prop} (hR : ∀ r h, R (r, h) → Q (some (aI r)) (sh_E h))  (k70 : Int32 → sh_H → Option (Int32 × sh_H)) (hk70 : ∀ (l2 : Int32) {d3 : Option ai_V} (h : sh_H), sh_ok (k70 l2 h) R → wq_139 d Q 70 [oR 10 0, oR 15 0, oI l2, d3] [] (sh_E h)) (n : Nat) : ∀ (l2 : Int32) {d3 : Option ai_V} (h : sh_H), sh_ok (f_Tokens_word_l5 N k70 n l2 h) R → wq_139 d Q 5 [oR 10 0, oR 15 0, oI l2, d3] [] (sh_E h) := by
  induction n with
  | zero => intro l2 d3 h H; exact H.elim
  | succ n ih =>
    intro l2 d3 h H
    have hk5 := @ih
    replace H : sh_ok (f_Tokens_word_c5 N k70 (f_Tokens_word_l5 N k70 n) l2 h) R := H
    revert hk5 H
    generalize f_Tokens_word_l5 N k70 n = k5
    intro hk5 H
    refine ai_WP_steps mc_139 (sh_CM d) 5 (And.intro (fun c => ?_) (fun c => ?_))
    · replace H := sh_okT c H
      show wq_139 d Q 16 [oR 10 0, oR 15 0, oI l2, _] [] (sh_E h)
      refine ai_WP_steps mc_139 (sh_CM d) 5 (And.intro (Nat.le_of_ble_eq_true rfl) (x_Tokens_byteAt (Nat.le_trans (Nat.le_of_ble_eq_true rfl) hd) (h.1 10 0 4) h (sh_okB H) (fun v1 H => ?_)))
      show wq_139 d Q 25 [oR 10 0, oR 15 0, oI l2, _] [aI v1] (sh_E h)
      refine ai_WP_steps mc_139 (sh_CM d) 1 (And.intro (Nat.le_of_ble_eq_true rfl) (x_Tokens_isLetter (Nat.le_trans (Nat.le_of_ble_eq_true rfl) hd) v1 h (sh_okB H) (fun v2 H => ?_)))
      show wq_139 d Q 28 [oR 10 0, oR 15 0, oI l2, _] [aI v2] (sh_E h)
      refine ai_WP_steps mc_139 (sh_CM d) 1 (And.intro (fun c => ?_) (fun c => ?_))
      · replace H := sh_okT c H
        exact hk70 l2 h H
      · replace H := sh_okF c H
        show wq_139 d Q 31 [oR 10 0, oR 15 0, oI l2, _] [] (sh_E h)
        refine ai_WP_steps mc_139 (sh_CM d) 10 (And.intro (Nat.le_of_ble_eq_true rfl) (x_Tokens_byteAt (Nat.le_trans (Nat.le_of_ble_eq_true rfl) hd) (h.1 10 0 4) h (sh_okB H) (fun v3 H => ?_)))
        show wq_139 d Q 47 [oR 10 0, oR 15 0, oI l2, _] [aI v3, aL ((h.2.1 10 0 6) <<< ((5 : Int32).toInt64 &&& 63)), aR 10 0] (sh_E h)
        refine ai_WP_steps mc_139 (sh_CM d) 7 ?_
        show wq_139 d Q 57 [oR 10 0, oR 15 0, oI l2, _] [] (sh_E (sh_pJ h 10 0 6 (((h.2.1 10 0 6) <<< ((5 : Int32).toInt64 &&& 63)) ||| ((v3 - (97 : Int32)) + (1 : Int32)).toInt64)))
        replace H := sh_okL H
        generalize sh_pJ h 10 0 6 (((h.2.1 10 0 6) <<< ((5 : Int32).toInt64 &&& 63)) ||| ((v3 - (97 : Int32)) + (1 : Int32)).toInt64) = h4 at H ⊢
        refine ai_WP_steps mc_139 (sh_CM d) 6 (And.intro trivial ?_)
        show wq_139 d Q 67 [oR 10 0, oR 15 0, oI l2, _] [] (sh_E (sh_pI h4 10 0 4 ((h4.1 10 0 4) + (1 : Int32))))
        replace H := sh_okL H
        generalize sh_pI h4 10 0 4 ((h4.1 10 0 4) + (1 : Int32)) = h5 at H ⊢
        refine ai_WP_steps mc_139 (sh_CM d) 1 ?_
        exact hk5 l2 h5 H
    · replace H := sh_okF c H
      exact hk70 l2 h H
def f_Tokens_word_c86 (N : Nat)   (k86 : Int32 → Int32 → sh_H → Option (Int32 × sh_H)) (l2 : Int32) (l3 : Int32) (h : sh_H) : Option (Int32 × sh_H) := (if l3 < (13 : Int32) then (Option.bind (f_Tokens_isWord N l2 l3 h) (fun v6 => (if v6 = 0 then k86 l2 (l3 + (1 : Int32)) h else (some (l3, h))))) else (some ((20 : Int32), h)))
def f_Tokens_word_l86 (N : Nat)   (n : Nat) : Int32 → Int32 → sh_H → Option (Int32 × sh_H) := Nat.rec (motive := fun _ => Int32 → Int32 → sh_H → Option (Int32 × sh_H)) (fun _ _ _ => none) (fun _ k86 => f_Tokens_word_c86 N k86) n
theorem x_Tokens_word_l86 (N : Nat) {d : Nat} (hd : 5 ≤ d) {Q : ai_Q} {R : Int32 × sh_H → Prop} (hR : ∀ r h, R (r, h) → Q (some (aI r)) (sh_E h))   (n : Nat) : ∀ (l2 : Int32) (l3 : Int32) (h : sh_H), sh_ok (f_Tokens_word_l86 N n l2 l3 h) R → wq_139 d Q 86 [oR 10 0, oR 15 0, oI l2, oI l3] [] (sh_E h) := by
  induction n with
  | zero => intro l2 l3 h H; exact H.elim
  | succ n ih =>
    intro l2 l3 h H
    have hk86 := @ih
    replace H : sh_ok (f_Tokens_word_c86 N (f_Tokens_word_l86 N n) l2 l3 h) R := H
    revert hk86 H
    generalize f_Tokens_word_l86 N n = k86
    intro hk86 H
    refine ai_WP_steps mc_139 (sh_CM d) 3 (And.intro (fun c => ?_) (fun c => ?_))
    · replace H := sh_okT c H
      show wq_139 d Q 92 [oR 10 0, oR 15 0, oI l2, oI l3] [] (sh_E h)
      refine ai_WP_steps mc_139 (sh_CM d) 5 (And.intro (Nat.le_of_ble_eq_true rfl) (x_Tokens_isWord N (Nat.le_trans (Nat.le_of_ble_eq_true rfl) hd) l2 l3 h (sh_okB H) (fun v6 H => ?_)))
      show wq_139 d Q 99 [oR 10 0, oR 15 0, oI l2, oI l3] [aI v6] (sh_E h)
      refine ai_WP_steps mc_139 (sh_CM d) 1 (And.intro (fun c => ?_) (fun c => ?_))
      · replace H := sh_okT c H
        show wq_139 d Q 104 [oR 10 0, oR 15 0, oI l2, oI l3] [] (sh_E h)
        refine ai_WP_steps mc_139 (sh_CM d) 2 ?_
        exact hk86 l2 (l3 + (1 : Int32)) h H
      · replace H := sh_okF c H
        show wq_139 d Q 102 [oR 10 0, oR 15 0, oI l2, oI l3] [] (sh_E h)
        exact ai_WP_steps mc_139 (sh_CM d) 2 (hR l3 h H)
    · replace H := sh_okF c H
      show wq_139 d Q 110 [oR 10 0, oR 15 0, oI l2, oI l3] [] (sh_E h)
      exact ai_WP_steps mc_139 (sh_CM d) 2 (hR (20 : Int32) h H)
def f_Tokens_word_b70 (N : Nat)   (l2 : Int32) (h : sh_H) : Option (Int32 × sh_H) := (if (8 : Int32) < ((h.1 10 0 4) - l2) then (some ((24 : Int32), h)) else f_Tokens_word_l86 N N l2 (0 : Int32) h)
theorem x_Tokens_word_b70 (N : Nat) {d : Nat} (hd : 5 ≤ d) {Q : ai_Q} {R : Int32 × sh_H → Prop} (hR : ∀ r h, R (r, h) → Q (some (aI r)) (sh_E h))   (l2 : Int32) {d3 : Option ai_V} (h : sh_H) (H : sh_ok (f_Tokens_word_b70 N l2 h) R) : wq_139 d Q 70 [oR 10 0, oR 15 0, oI l2, d3] [] (sh_E h) := by
  refine ai_WP_steps mc_139 (sh_CM d) 6 (And.intro (fun c => ?_) (fun c => ?_))
  · replace H := sh_okT c H
    show wq_139 d Q 81 [oR 10 0, oR 15 0, oI l2, _] [] (sh_E h)
    exact ai_WP_steps mc_139 (sh_CM d) 2 (hR (24 : Int32) h H)
  · replace H := sh_okF c H
    show wq_139 d Q 84 [oR 10 0, oR 15 0, oI l2, _] [] (sh_E h)
    refine ai_WP_steps mc_139 (sh_CM d) 2 ?_
    exact x_Tokens_word_l86 N hd hR N l2 (0 : Int32) h H
def f_Tokens_word (N : Nat)   (h : sh_H) : Option (Int32 × sh_H) := f_Tokens_word_l5 N (f_Tokens_word_b70 N) N (h.1 10 0 4) h
theorem x_Tokens_word (N : Nat) {d : Nat} (hd : 6 ≤ d)  (h : sh_H) {Q : ai_Q} {R : Int32 × sh_H → Prop} (H : sh_ok (f_Tokens_word N h) R) (hR : ∀ r h, R (r, h) → Q (some (aI r)) (sh_E h)) : ai_Ex sh_T d 139 [aR 10 0, aR 15 0] (sh_E h) Q := by
  obtain ⟨d, rfl⟩ : ∃ e, d = e + 1 := ⟨d - 1, by omega⟩
  replace hd : 5 ≤ d := by omega
  refine And.intro (Nat.le_of_ble_eq_true rfl) ?_
  show wq_139 d Q 0 [oR 10 0, oR 15 0, none, none] [] (sh_E h)
  refine ai_WP_steps mc_139 (sh_CM d) 3 ?_
  exact x_Tokens_word_l5 N hd hR (f_Tokens_word_b70 N) (fun z0 {e3} h H => x_Tokens_word_b70 N hd hR z0 h H) N (h.1 10 0 4) h H
def f_Lat_canEncode_b15    (h : sh_H) : Option Int32 := (some (ai_nar 1 (0 : Int32)))
theorem x_Lat_canEncode_b15 {d : Nat} (hd : 0 ≤ d) (h : sh_H) {Q : ai_Q} {R : Int32 → Prop} (hR : ∀ r, R r → Q (some (aI r)) (sh_E h))    {d0 : Option ai_V} (H : sh_ok (f_Lat_canEncode_b15 h) R) : wq_355 d Q 15 [d0] [] (sh_E h) := by
  exact ai_WP_steps mc_355 (sh_CM d) 2 (hR (ai_nar 1 (0 : Int32)) H)
def f_Lat_canEncode  (l0 : Int32) (h : sh_H) : Option Int32 := (if l0 < 0 then f_Lat_canEncode_b15 h else (if (255 : Int32) < l0 then f_Lat_canEncode_b15 h else (some (ai_nar 1 (1 : Int32)))))
theorem x_Lat_canEncode {d : Nat} (hd : 1 ≤ d) (l0 : Int32) (h : sh_H) {Q : ai_Q} {R : Int32 → Prop} (H : sh_ok (f_Lat_canEncode l0 h) R) (hR : ∀ r, R r → Q (some (aI r)) (sh_E h)) : ai_Ex sh_T d 355 [aI l0] (sh_E h) Q := by
  obtain ⟨d, rfl⟩ : ∃ e, d = e + 1 := ⟨d - 1, by omega⟩
  replace hd : 0 ≤ d := by omega
  refine And.intro (Nat.le_of_ble_eq_true rfl) ?_
  show wq_355 d Q 0 [oI l0] [] (sh_E h)
  refine ai_WP_steps mc_355 (sh_CM d) 2 (And.intro (fun c => ?_) (fun c => ?_))
  · replace H := sh_okT c H
    exact x_Lat_canEncode_b15 hd h hR H
  · replace H := sh_okF c H
    show wq_355 d Q 4 [oI l0] [] (sh_E h)
    refine ai_WP_steps mc_355 (sh_CM d) 3 (And.intro (fun c => ?_) (fun c => ?_))
    · replace H := sh_okT c H
      exact x_Lat_canEncode_b15 hd h hR H
    · replace H := sh_okF c H
      show wq_355 d Q 11 [oI l0] [] (sh_E h)
      exact ai_WP_steps mc_355 (sh_CM d) 3 (hR (ai_nar 1 (1 : Int32)) H)
def f_Lat_indexOfChar_c7 (N : Nat)   (k7 : Nat → Int32 → Int32 → Int32 → sh_H → Option Int32) (l0 : Nat) (l3 : Int32) (l4 : Int32) (l5 : Int32) (h : sh_H) : Option Int32 := (if l5 < l3 then (if ai_in l5 (ai_slen.getD l0 0) then (if (h.1 19 l0 l5.toNatClampNeg) = l4 then (some l5) else k7 l0 l3 l4 (l5 + (1 : Int32)) h) else none) else (some (-1 : Int32)))
def f_Lat_indexOfChar_l7 (N : Nat)   (n : Nat) : Nat → Int32 → Int32 → Int32 → sh_H → Option Int32 := Nat.rec (motive := fun _ => Nat → Int32 → Int32 → Int32 → sh_H → Option Int32) (fun _ _ _ _ _ => none) (fun _ k7 => f_Lat_indexOfChar_c7 N k7) n
theorem x_Lat_indexOfChar_l7 (N : Nat) {d : Nat} (hd : 0 ≤ d) (h : sh_H) {Q : ai_Q} {R : Int32 → Prop} (hR : ∀ r, R r → Q (some (aI r)) (sh_E h))   (n : Nat) : ∀ (l0 : Nat) (l3 : Int32) (l4 : Int32) (l5 : Int32) {d1 d2 : Option ai_V}, sh_ok (f_Lat_indexOfChar_l7 N n l0 l3 l4 l5 h) R → wq_357 d Q 7 [oR 19 l0, d1, d2, oI l3, oI l4, oI l5] [] (sh_E h) := by
  induction n with
  | zero => intro l0 l3 l4 l5 d1 d2 H; exact H.elim
  | succ n ih =>
    intro l0 l3 l4 l5 d1 d2 H
    have hk7 := @ih
    replace H : sh_ok (f_Lat_indexOfChar_c7 N (f_Lat_indexOfChar_l7 N n) l0 l3 l4 l5 h) R := H
    revert hk7 H
    generalize f_Lat_indexOfChar_l7 N n = k7
    intro hk7 H
    refine ai_WP_steps mc_357 (sh_CM d) 3 (And.intro (fun c => ?_) (fun c => ?_))
    · replace H := sh_okT c H
      show wq_357 d Q 13 [oR 19 l0, _, _, oI l3, oI l4, oI l5] [] (sh_E h)
      have c := sh_okG H
      replace H := sh_okH H
      refine ai_WP_steps mc_357 (sh_CM d) 3 (And.intro c ?_)
      show wq_357 d Q 17 [oR 19 l0, _, _, oI l3, oI l4, oI l5] [aI (h.1 19 l0 l5.toNatClampNeg)] (sh_E h)
      refine ai_WP_steps mc_357 (sh_CM d) 2 (And.intro (fun c => ?_) (fun c => ?_))
      · replace H := sh_okT c H
        show wq_357 d Q 22 [oR 19 l0, _, _, oI l3, oI l4, oI l5] [] (sh_E h)
        exact ai_WP_steps mc_357 (sh_CM d) 2 (hR l5 H)
      · replace H := sh_okF c H
        show wq_357 d Q 25 [oR 19 l0, _, _, oI l3, oI l4, oI l5] [] (sh_E h)
        refine ai_WP_steps mc_357 (sh_CM d) 2 ?_
        exact hk7 l0 l3 l4 (l5 + (1 : Int32)) H
    · replace H := sh_okF c H
      show wq_357 d Q 31 [oR 19 l0, _, _, oI l3, oI l4, oI l5] [] (sh_E h)
      exact ai_WP_steps mc_357 (sh_CM d) 2 (hR (-1 : Int32) H)
def f_Lat_indexOfChar (N : Nat)  (l0 : Nat) (l1 : Int32) (l2 : Int32) (l3 : Int32) (h : sh_H) : Option Int32 := f_Lat_indexOfChar_l7 N N l0 l3 l1.toInt8.toInt32 l2 h
theorem x_Lat_indexOfChar (N : Nat) {d : Nat} (hd : 1 ≤ d) (l0 : Nat) (l1 : Int32) (l2 : Int32) (l3 : Int32) (h : sh_H) {Q : ai_Q} {R : Int32 → Prop} (H : sh_ok (f_Lat_indexOfChar N l0 l1 l2 l3 h) R) (hR : ∀ r, R r → Q (some (aI r)) (sh_E h)) : ai_Ex sh_T d 357 [aR 19 l0, aI l1, aI l2, aI l3] (sh_E h) Q := by
  obtain ⟨d, rfl⟩ : ∃ e, d = e + 1 := ⟨d - 1, by omega⟩
  replace hd : 0 ≤ d := by omega
  refine And.intro (Nat.le_of_ble_eq_true rfl) ?_
  show wq_357 d Q 0 [oR 19 l0, oI l1, oI l2, oI l3, none, none] [] (sh_E h)
  refine ai_WP_steps mc_357 (sh_CM d) 5 ?_
  exact x_Lat_indexOfChar_l7 N hd h hR N l0 l3 l1.toInt8.toInt32 l2 H
def f_Lat_indexOf (N : Nat)  (l0 : Nat) (l1 : Int32) (l2 : Int32) (l3 : Int32) (h : sh_H) : Option Int32 := (Option.bind (f_Lat_canEncode l1 h) (fun v1 => (if v1 = 0 then (some (-1 : Int32)) else (Option.bind (f_Math_max l2 (0 : Int32) h) (fun v2 => (Option.bind (f_Math_min l3 (Int32.ofNat (ai_slen.getD l0 0)) h) (fun v3 => (if v2 < v3 then (Option.bind (f_Lat_indexOfChar N l0 l1 v2 v3 h) (fun v4 => (some v4))) else (some (-1 : Int32))))))))))
theorem x_Lat_indexOf (N : Nat) {d : Nat} (hd : 2 ≤ d) (l0 : Nat) (l1 : Int32) (l2 : Int32) (l3 : Int32) (h : sh_H) {Q : ai_Q} {R : Int32 → Prop} (H : sh_ok (f_Lat_indexOf N l0 l1 l2 l3 h) R) (hR : ∀ r, R r → Q (some (aI r)) (sh_E h)) : ai_Ex sh_T d 356 [aR 19 l0, aI l1, aI l2, aI l3] (sh_E h) Q := by
  obtain ⟨d, rfl⟩ : ∃ e, d = e + 1 := ⟨d - 1, by omega⟩
  replace hd : 1 ≤ d := by omega
  refine And.intro (Nat.le_of_ble_eq_true rfl) ?_
  show wq_356 d Q 0 [oR 19 l0, oI l1, oI l2, oI l3] [] (sh_E h)
  refine ai_WP_steps mc_356 (sh_CM d) 2 (And.intro (Nat.le_of_ble_eq_true rfl) (x_Lat_canEncode (Nat.le_trans (Nat.le_of_ble_eq_true rfl) hd) l1 h (sh_okB H) (fun v1 H => ?_)))
  show wq_356 d Q 4 [oR 19 l0, oI l1, oI l2, oI l3] [aI v1] (sh_E h)
  refine ai_WP_steps mc_356 (sh_CM d) 1 (And.intro (fun c => ?_) (fun c => ?_))
  · replace H := sh_okT c H
    show wq_356 d Q 7 [oR 19 l0, oI l1, oI l2, oI l3] [] (sh_E h)
    exact ai_WP_steps mc_356 (sh_CM d) 2 (hR (-1 : Int32) H)
  · replace H := sh_okF c H
    show wq_356 d Q 9 [oR 19 l0, oI l1, oI l2, oI l3] [] (sh_E h)
    refine ai_WP_steps mc_356 (sh_CM d) 3 (And.intro (Nat.le_of_ble_eq_true rfl) (x_Math_max (Nat.le_trans (Nat.le_of_ble_eq_true rfl) hd) l2 (0 : Int32) h (sh_okB H) (fun v2 H => ?_)))
    show wq_356 d Q 14 [oR 19 l0, oI l1, oI l2, oI l3] [aI v2] (sh_E h)
    refine ai_WP_steps mc_356 (sh_CM d) 5 (And.intro (Nat.le_of_ble_eq_true rfl) (x_Math_min (Nat.le_trans (Nat.le_of_ble_eq_true rfl) hd) l3 (Int32.ofNat (ai_slen.getD l0 0)) h (sh_okB H) (fun v3 H => ?_)))
    show wq_356 d Q 21 [oR 19 l0, oI l1, oI v2, oI l3] [aI v3] (sh_E h)
    refine ai_WP_steps mc_356 (sh_CM d) 4 (And.intro (fun c => ?_) (fun c => ?_))
    · replace H := sh_okT c H
      show wq_356 d Q 29 [oR 19 l0, oI l1, oI v2, oI v3] [] (sh_E h)
      refine ai_WP_steps mc_356 (sh_CM d) 5 (And.intro (Nat.le_of_ble_eq_true rfl) (x_Lat_indexOfChar N (Nat.le_trans (Nat.le_of_ble_eq_true rfl) hd) l0 l1 v2 v3 h (sh_okB H) (fun v4 H => ?_)))
      show wq_356 d Q 36 [oR 19 l0, oI l1, oI v2, oI v3] [aI v4] (sh_E h)
      exact ai_WP_steps mc_356 (sh_CM d) 1 (hR v4 H)
    · replace H := sh_okF c H
      show wq_356 d Q 27 [oR 19 l0, oI l1, oI v2, oI v3] [] (sh_E h)
      exact ai_WP_steps mc_356 (sh_CM d) 2 (hR (-1 : Int32) H)
def f_Str_indexOf2 (N : Nat)  (l0 : Nat) (l1 : Int32) (l2 : Int32) (h : sh_H) : Option Int32 := (Option.bind (f_Str_isLatin1 l0 h) (fun v1 => (if v1 = 0 then (Option.bind (f_Str_length l0 h) (fun v2 => none)) else (Option.bind (f_Str_length l0 h) (fun v3 => (Option.bind (f_Lat_indexOf N l0 l1 l2 v3 h) (fun v4 => (some v4))))))))
theorem x_Str_indexOf2 (N : Nat) {d : Nat} (hd : 3 ≤ d) (l0 : Nat) (l1 : Int32) (l2 : Int32) (h : sh_H) {Q : ai_Q} {R : Int32 → Prop} (H : sh_ok (f_Str_indexOf2 N l0 l1 l2 h) R) (hR : ∀ r, R r → Q (some (aI r)) (sh_E h)) : ai_Ex sh_T d 350 [aR 18 l0, aI l1, aI l2] (sh_E h) Q := by
  obtain ⟨d, rfl⟩ : ∃ e, d = e + 1 := ⟨d - 1, by omega⟩
  replace hd : 2 ≤ d := by omega
  refine And.intro (Nat.le_of_ble_eq_true rfl) ?_
  show wq_350 d Q 0 [oR 18 l0, oI l1, oI l2] [] (sh_E h)
  refine ai_WP_steps mc_350 (sh_CM d) 2 (And.intro (Nat.le_of_ble_eq_true rfl) (x_Str_isLatin1 (Nat.le_trans (Nat.le_of_ble_eq_true rfl) hd) l0 h (sh_okB H) (fun v1 H => ?_)))
  show wq_350 d Q 4 [oR 18 l0, oI l1, oI l2] [aI v1] (sh_E h)
  refine ai_WP_steps mc_350 (sh_CM d) 1 (And.intro (fun c => ?_) (fun c => ?_))
  · replace H := sh_okT c H
    show wq_350 d Q 23 [oR 18 l0, oI l1, oI l2] [] (sh_E h)
    refine ai_WP_steps mc_350 (sh_CM d) 6 (And.intro (Nat.le_of_ble_eq_true rfl) (x_Str_length (Nat.le_trans (Nat.le_of_ble_eq_true rfl) hd) l0 h (sh_okB H) (fun v2 H => ?_)))
    show wq_350 d Q 33 [oR 18 l0, oI l1, oI l2] [aI v2, aI l2, aI l1, aR 19 l0] (sh_E h)
    exact H.elim
  · replace H := sh_okF c H
    show wq_350 d Q 7 [oR 18 l0, oI l1, oI l2] [] (sh_E h)
    refine ai_WP_steps mc_350 (sh_CM d) 6 (And.intro (Nat.le_of_ble_eq_true rfl) (x_Str_length (Nat.le_trans (Nat.le_of_ble_eq_true rfl) hd) l0 h (sh_okB H) (fun v3 H => ?_)))
    show wq_350 d Q 17 [oR 18 l0, oI l1, oI l2] [aI v3, aI l2, aI l1, aR 19 l0] (sh_E h)
    refine ai_WP_steps mc_350 (sh_CM d) 1 (And.intro (Nat.le_of_ble_eq_true rfl) (x_Lat_indexOf N (Nat.le_trans (Nat.le_of_ble_eq_true rfl) hd) l0 l1 l2 v3 h (sh_okB H) (fun v4 H => ?_)))
    show wq_350 d Q 20 [oR 18 l0, oI l1, oI l2] [aI v4] (sh_E h)
    exact ai_WP_steps mc_350 (sh_CM d) 2 (hR v4 H)
def f_Str_indexOf (N : Nat)  (l0 : Nat) (l1 : Int32) (h : sh_H) : Option Int32 := (Option.bind (f_Str_indexOf2 N l0 l1 (0 : Int32) h) (fun v1 => (some v1)))
theorem x_Str_indexOf (N : Nat) {d : Nat} (hd : 4 ≤ d) (l0 : Nat) (l1 : Int32) (h : sh_H) {Q : ai_Q} {R : Int32 → Prop} (H : sh_ok (f_Str_indexOf N l0 l1 h) R) (hR : ∀ r, R r → Q (some (aI r)) (sh_E h)) : ai_Ex sh_T d 349 [aR 18 l0, aI l1] (sh_E h) Q := by
  obtain ⟨d, rfl⟩ : ∃ e, d = e + 1 := ⟨d - 1, by omega⟩
  replace hd : 3 ≤ d := by omega
  refine And.intro (Nat.le_of_ble_eq_true rfl) ?_
  show wq_349 d Q 0 [oR 18 l0, oI l1] [] (sh_E h)
  refine ai_WP_steps mc_349 (sh_CM d) 4 (And.intro (Nat.le_of_ble_eq_true rfl) (x_Str_indexOf2 N (Nat.le_trans (Nat.le_of_ble_eq_true rfl) hd) l0 l1 (0 : Int32) h (sh_okB H) (fun v1 H => ?_)))
  show wq_349 d Q 6 [oR 18 l0, oI l1] [aI v1] (sh_E h)
  exact ai_WP_steps mc_349 (sh_CM d) 1 (hR v1 H)
def f_Tokens_next_b87 (N : Nat)   (l2 : Int32) (h : sh_H) : Option (Int32 × sh_H) := (Option.bind (f_Str_indexOf N 1 (l2.toUInt32 % 65536).toInt32 h) (fun v1 => (if v1 < 0 then (some ((24 : Int32), h)) else (some (l2, h)))))
theorem x_Tokens_next_b87 (N : Nat) {d : Nat} (hd : 6 ≤ d) {Q : ai_Q} {R : Int32 × sh_H → Prop} (hR : ∀ r h, R (r, h) → Q (some (aI r)) (sh_E h))   (l2 : Int32) {d0 d1 : Option ai_V} (h : sh_H) (H : sh_ok (f_Tokens_next_b87 N l2 h) R) : wq_138 d Q 87 [d0, d1, oI l2] [] (sh_E h) := by
  refine ai_WP_steps mc_138 (sh_CM d) 4 (And.intro (Nat.le_of_ble_eq_true rfl) (x_Str_indexOf N (Nat.le_trans (Nat.le_of_ble_eq_true rfl) hd) 1 (l2.toUInt32 % 65536).toInt32 h (sh_okB H) (fun v1 H => ?_)))
  show wq_138 d Q 94 [_, _, oI l2] [aI v1] (sh_E h)
  refine ai_WP_steps mc_138 (sh_CM d) 1 (And.intro (fun c => ?_) (fun c => ?_))
  · replace H := sh_okT c H
    show wq_138 d Q 101 [_, _, oI l2] [] (sh_E h)
    exact ai_WP_steps mc_138 (sh_CM d) 2 (hR (24 : Int32) h H)
  · replace H := sh_okF c H
    show wq_138 d Q 97 [_, _, oI l2] [] (sh_E h)
    exact ai_WP_steps mc_138 (sh_CM d) 3 (hR l2 h H)
def f_Tokens_next (N : Nat)   (h : sh_H) : Option (Int32 × sh_H) := (Option.bind (f_Tokens_byteAt (h.1 10 0 4) h) (fun v2 => (if v2 = (-1 : Int32) then (some ((23 : Int32), h)) else (Option.bind (f_Tokens_isLetter v2 h) (fun v3 => (if v3 = 0 then (Option.bind (f_Tokens_isDigit v2 h) (fun v4 => (if v4 = 0 then (sh_let (sh_pI h 10 0 4 ((h.1 10 0 4) + (1 : Int32))) (fun h5 => (if v2 = (61 : Int32) then (Option.bind (f_Tokens_byteAt (h5.1 10 0 4) h5) (fun v6 => (if v6 = (61 : Int32) then (sh_let (sh_pI h5 10 0 4 ((h5.1 10 0 4) + (1 : Int32))) (fun h7 => (some ((22 : Int32), h7)))) else f_Tokens_next_b87 N v2 h5))) else f_Tokens_next_b87 N v2 h5))) else (sh_b2 (f_Tokens_digits N h) (fun v8 h9 => (some (v8, h9))))))) else (sh_b2 (f_Tokens_word N h) (fun v10 h11 => (some (v10, h11))))))))))
theorem x_Tokens_next (N : Nat) {d : Nat} (hd : 7 ≤ d)  (h : sh_H) {Q : ai_Q} {R : Int32 × sh_H → Prop} (H : sh_ok (f_Tokens_next N h) R) (hR : ∀ r h, R (r, h) → Q (some (aI r)) (sh_E h)) : ai_Ex sh_T d 138 [aR 10 0, aR 15 0] (sh_E h) Q := by
  obtain ⟨d, rfl⟩ : ∃ e, d = e + 1 := ⟨d - 1, by omega⟩
  replace hd : 6 ≤ d := by omega
  refine And.intro (Nat.le_of_ble_eq_true rfl) ?_
  show wq_138 d Q 0 [oR 10 0, oR 15 0, none] [] (sh_E h)
  refine ai_WP_steps mc_138 (sh_CM d) 5 (And.intro (Nat.le_of_ble_eq_true rfl) (x_Tokens_byteAt (Nat.le_trans (Nat.le_of_ble_eq_true rfl) hd) (h.1 10 0 4) h (sh_okB H) (fun v2 H => ?_)))
  show wq_138 d Q 9 [oR 10 0, oR 15 0, _] [aI v2] (sh_E h)
  refine ai_WP_steps mc_138 (sh_CM d) 4 (And.intro (fun c => ?_) (fun c => ?_))
  · replace H := sh_okT c H
    show wq_138 d Q 15 [oR 10 0, oR 15 0, oI v2] [] (sh_E h)
    exact ai_WP_steps mc_138 (sh_CM d) 2 (hR (23 : Int32) h H)
  · replace H := sh_okF c H
    show wq_138 d Q 18 [oR 10 0, oR 15 0, oI v2] [] (sh_E h)
    refine ai_WP_steps mc_138 (sh_CM d) 2 (And.intro (Nat.le_of_ble_eq_true rfl) (x_Tokens_isLetter (Nat.le_trans (Nat.le_of_ble_eq_true rfl) hd) v2 h (sh_okB H) (fun v3 H => ?_)))
    show wq_138 d Q 22 [oR 10 0, oR 15 0, oI v2] [aI v3] (sh_E h)
    refine ai_WP_steps mc_138 (sh_CM d) 1 (And.intro (fun c => ?_) (fun c => ?_))
    · replace H := sh_okT c H
      show wq_138 d Q 31 [oR 10 0, oR 15 0, oI v2] [] (sh_E h)
      refine ai_WP_steps mc_138 (sh_CM d) 2 (And.intro (Nat.le_of_ble_eq_true rfl) (x_Tokens_isDigit (Nat.le_trans (Nat.le_of_ble_eq_true rfl) hd) v2 h (sh_okB H) (fun v4 H => ?_)))
      show wq_138 d Q 35 [oR 10 0, oR 15 0, oI v2] [aI v4] (sh_E h)
      refine ai_WP_steps mc_138 (sh_CM d) 1 (And.intro (fun c => ?_) (fun c => ?_))
      · replace H := sh_okT c H
        show wq_138 d Q 44 [oR 10 0, oR 15 0, oI v2] [] (sh_E h)
        refine ai_WP_steps mc_138 (sh_CM d) 6 (And.intro trivial ?_)
        show wq_138 d Q 54 [oR 10 0, oR 15 0, oI v2] [] (sh_E (sh_pI h 10 0 4 ((h.1 10 0 4) + (1 : Int32))))
        replace H := sh_okL H
        generalize sh_pI h 10 0 4 ((h.1 10 0 4) + (1 : Int32)) = h5 at H ⊢
        refine ai_WP_steps mc_138 (sh_CM d) 3 (And.intro (fun c => ?_) (fun c => ?_))
        · replace H := sh_okT c H
          show wq_138 d Q 60 [oR 10 0, oR 15 0, oI v2] [] (sh_E h5)
          refine ai_WP_steps mc_138 (sh_CM d) 5 (And.intro (Nat.le_of_ble_eq_true rfl) (x_Tokens_byteAt (Nat.le_trans (Nat.le_of_ble_eq_true rfl) hd) (h5.1 10 0 4) h5 (sh_okB H) (fun v6 H => ?_)))
          show wq_138 d Q 69 [oR 10 0, oR 15 0, oI v2] [aI v6] (sh_E h5)
          refine ai_WP_steps mc_138 (sh_CM d) 2 (And.intro (fun c => ?_) (fun c => ?_))
          · replace H := sh_okT c H
            show wq_138 d Q 74 [oR 10 0, oR 15 0, oI v2] [] (sh_E h5)
            refine ai_WP_steps mc_138 (sh_CM d) 6 (And.intro trivial ?_)
            show wq_138 d Q 84 [oR 10 0, oR 15 0, oI v2] [] (sh_E (sh_pI h5 10 0 4 ((h5.1 10 0 4) + (1 : Int32))))
            replace H := sh_okL H
            generalize sh_pI h5 10 0 4 ((h5.1 10 0 4) + (1 : Int32)) = h7 at H ⊢
            exact ai_WP_steps mc_138 (sh_CM d) 2 (hR (22 : Int32) h7 H)
          · replace H := sh_okF c H
            exact x_Tokens_next_b87 N hd hR v2 h5 H
        · replace H := sh_okF c H
          exact x_Tokens_next_b87 N hd hR v2 h5 H
      · replace H := sh_okF c H
        show wq_138 d Q 38 [oR 10 0, oR 15 0, oI v2] [] (sh_E h)
        refine ai_WP_steps mc_138 (sh_CM d) 3 (And.intro (Nat.le_of_ble_eq_true rfl) (x_Tokens_digits N (Nat.le_trans (Nat.le_of_ble_eq_true rfl) hd) h (sh_okB H) (fun v8 h9 H => ?_)))
        show wq_138 d Q 43 [oR 10 0, oR 15 0, oI v2] [aI v8] (sh_E h9)
        exact ai_WP_steps mc_138 (sh_CM d) 1 (hR v8 h9 H)
    · replace H := sh_okF c H
      show wq_138 d Q 25 [oR 10 0, oR 15 0, oI v2] [] (sh_E h)
      refine ai_WP_steps mc_138 (sh_CM d) 3 (And.intro (Nat.le_of_ble_eq_true rfl) (x_Tokens_word N (Nat.le_trans (Nat.le_of_ble_eq_true rfl) hd) h (sh_okB H) (fun v10 h11 H => ?_)))
      show wq_138 d Q 30 [oR 10 0, oR 15 0, oI v2] [aI v10] (sh_E h11)
      exact ai_WP_steps mc_138 (sh_CM d) 1 (hR v10 h11 H)
def f_Tokens_isBlank_b24    (h : sh_H) : Option Int32 := (some (ai_nar 1 (1 : Int32)))
theorem x_Tokens_isBlank_b24 {d : Nat} (hd : 0 ≤ d) (h : sh_H) {Q : ai_Q} {R : Int32 → Prop} (hR : ∀ r, R r → Q (some (aI r)) (sh_E h))    {d0 : Option ai_V} (H : sh_ok (f_Tokens_isBlank_b24 h) R) : wq_143 d Q 24 [d0] [] (sh_E h) := by
  exact ai_WP_steps mc_143 (sh_CM d) 3 (hR (ai_nar 1 (1 : Int32)) H)
def f_Tokens_isBlank  (l0 : Int32) (h : sh_H) : Option Int32 := (if l0 = (9 : Int32) then f_Tokens_isBlank_b24 h else (if l0 = (10 : Int32) then f_Tokens_isBlank_b24 h else (if l0 = (13 : Int32) then f_Tokens_isBlank_b24 h else (if l0 = (32 : Int32) then f_Tokens_isBlank_b24 h else (some (ai_nar 1 (0 : Int32)))))))
theorem x_Tokens_isBlank {d : Nat} (hd : 1 ≤ d) (l0 : Int32) (h : sh_H) {Q : ai_Q} {R : Int32 → Prop} (H : sh_ok (f_Tokens_isBlank l0 h) R) (hR : ∀ r, R r → Q (some (aI r)) (sh_E h)) : ai_Ex sh_T d 143 [aI l0] (sh_E h) Q := by
  obtain ⟨d, rfl⟩ : ∃ e, d = e + 1 := ⟨d - 1, by omega⟩
  replace hd : 0 ≤ d := by omega
  refine And.intro (Nat.le_of_ble_eq_true rfl) ?_
  show wq_143 d Q 0 [oI l0] [] (sh_E h)
  refine ai_WP_steps mc_143 (sh_CM d) 3 (And.intro (fun c => ?_) (fun c => ?_))
  · replace H := sh_okT c H
    exact x_Tokens_isBlank_b24 hd h hR H
  · replace H := sh_okF c H
    show wq_143 d Q 6 [oI l0] [] (sh_E h)
    refine ai_WP_steps mc_143 (sh_CM d) 3 (And.intro (fun c => ?_) (fun c => ?_))
    · replace H := sh_okT c H
      exact x_Tokens_isBlank_b24 hd h hR H
    · replace H := sh_okF c H
      show wq_143 d Q 12 [oI l0] [] (sh_E h)
      refine ai_WP_steps mc_143 (sh_CM d) 3 (And.intro (fun c => ?_) (fun c => ?_))
      · replace H := sh_okT c H
        exact x_Tokens_isBlank_b24 hd h hR H
      · replace H := sh_okF c H
        show wq_143 d Q 18 [oI l0] [] (sh_E h)
        refine ai_WP_steps mc_143 (sh_CM d) 3 (And.intro (fun c => ?_) (fun c => ?_))
        · replace H := sh_okT c H
          exact x_Tokens_isBlank_b24 hd h hR H
        · replace H := sh_okF c H
          show wq_143 d Q 28 [oI l0] [] (sh_E h)
          exact ai_WP_steps mc_143 (sh_CM d) 2 (hR (ai_nar 1 (0 : Int32)) H)
def f_Tokens_skipBlanks_c0 (N : Nat)   (k0 : sh_H → Option sh_H)  (h : sh_H) : Option sh_H := (if (h.1 10 0 4) < (h.1 10 0 5) then (Option.bind (f_Tokens_byteAt (h.1 10 0 4) h) (fun v1 => (Option.bind (f_Tokens_isBlank v1 h) (fun v2 => (if v2 = 0 then (some h) else (sh_let (sh_pI h 10 0 4 ((h.1 10 0 4) + (1 : Int32))) (fun h3 => k0 h3))))))) else (some h))
def f_Tokens_skipBlanks_l0 (N : Nat)   (n : Nat) : sh_H → Option sh_H := Nat.rec (motive := fun _ => sh_H → Option sh_H) (fun _ => none) (fun _ k0 => f_Tokens_skipBlanks_c0 N k0) n
theorem x_Tokens_skipBlanks_l0 (N : Nat) {d : Nat} (hd : 1 ≤ d) {Q : ai_Q} {R : sh_H → Prop} (hR : ∀ h, R h → Q none (sh_E h))   (n : Nat) : ∀ (h : sh_H), sh_ok (f_Tokens_skipBlanks_l0 N n h) R → wq_137 d Q 0 [oR 10 0, oR 15 0] [] (sh_E h) := by
  induction n with
  | zero => intro h H; exact H.elim
  | succ n ih =>
    intro h H
    have hk0 := @ih
    replace H : sh_ok (f_Tokens_skipBlanks_c0 N (f_Tokens_skipBlanks_l0 N n) h) R := H
    revert hk0 H
    generalize f_Tokens_skipBlanks_l0 N n = k0
    intro hk0 H
    refine ai_WP_steps mc_137 (sh_CM d) 5 (And.intro (fun c => ?_) (fun c => ?_))
    · replace H := sh_okT c H
      show wq_137 d Q 11 [oR 10 0, oR 15 0] [] (sh_E h)
      refine ai_WP_steps mc_137 (sh_CM d) 5 (And.intro (Nat.le_of_ble_eq_true rfl) (x_Tokens_byteAt (Nat.le_trans (Nat.le_of_ble_eq_true rfl) hd) (h.1 10 0 4) h (sh_okB H) (fun v1 H => ?_)))
      show wq_137 d Q 20 [oR 10 0, oR 15 0] [aI v1] (sh_E h)
      refine ai_WP_steps mc_137 (sh_CM d) 1 (And.intro (Nat.le_of_ble_eq_true rfl) (x_Tokens_isBlank (Nat.le_trans (Nat.le_of_ble_eq_true rfl) hd) v1 h (sh_okB H) (fun v2 H => ?_)))
      show wq_137 d Q 23 [oR 10 0, oR 15 0] [aI v2] (sh_E h)
      refine ai_WP_steps mc_137 (sh_CM d) 1 (And.intro (fun c => ?_) (fun c => ?_))
      · replace H := sh_okT c H
        show wq_137 d Q 39 [oR 10 0, oR 15 0] [] (sh_E h)
        exact ai_WP_steps mc_137 (sh_CM d) 1 (hR h H)
      · replace H := sh_okF c H
        show wq_137 d Q 26 [oR 10 0, oR 15 0] [] (sh_E h)
        refine ai_WP_steps mc_137 (sh_CM d) 6 (And.intro trivial ?_)
        show wq_137 d Q 36 [oR 10 0, oR 15 0] [] (sh_E (sh_pI h 10 0 4 ((h.1 10 0 4) + (1 : Int32))))
        replace H := sh_okL H
        generalize sh_pI h 10 0 4 ((h.1 10 0 4) + (1 : Int32)) = h3 at H ⊢
        refine ai_WP_steps mc_137 (sh_CM d) 1 ?_
        exact hk0 h3 H
    · replace H := sh_okF c H
      show wq_137 d Q 39 [oR 10 0, oR 15 0] [] (sh_E h)
      exact ai_WP_steps mc_137 (sh_CM d) 1 (hR h H)
def f_Tokens_skipBlanks (N : Nat)   (h : sh_H) : Option sh_H := f_Tokens_skipBlanks_l0 N N h
theorem x_Tokens_skipBlanks (N : Nat) {d : Nat} (hd : 2 ≤ d)  (h : sh_H) {Q : ai_Q} {R : sh_H → Prop} (H : sh_ok (f_Tokens_skipBlanks N h) R) (hR : ∀ h, R h → Q none (sh_E h)) : ai_Ex sh_T d 137 [aR 10 0, aR 15 0] (sh_E h) Q := by
  obtain ⟨d, rfl⟩ : ∃ e, d = e + 1 := ⟨d - 1, by omega⟩
  replace hd : 1 ≤ d := by omega
  refine And.intro (Nat.le_of_ble_eq_true rfl) ?_
  show wq_137 d Q 0 [oR 10 0, oR 15 0] [] (sh_E h)
  exact x_Tokens_skipBlanks_l0 N hd hR N h H
def f_Tokens_scan_b140 (N : Nat)  (k25 : Int32 → Int32 → sh_H → Option sh_H) (l4 : Int32) (s0 : Int32) (h : sh_H) : Option sh_H := k25 s0 (l4 + (1 : Int32)) h
theorem x_Tokens_scan_b140 (N : Nat) {d : Nat} (hd : 7 ≤ d) {Q : ai_Q} {R : sh_H → Prop} (hR : ∀ h, R h → Q none (sh_E h))  (k25 : Int32 → Int32 → sh_H → Option sh_H) (hk25 : ∀ (l3 : Int32) (l4 : Int32) {d2 : Option ai_V} (h : sh_H), sh_ok (k25 l3 l4 h) R → wq_133 d Q 25 [oR 10 0, oR 15 0, d2, oI l3, oI l4] [] (sh_E h)) (l4 : Int32) (s0 : Int32) {d2 d3 : Option ai_V} (h : sh_H) (H : sh_ok (f_Tokens_scan_b140 N k25 l4 s0 h) R) : wq_133 d Q 140 [oR 10 0, oR 15 0, d2, d3, oI l4] [aI s0] (sh_E h) := by
  refine ai_WP_steps mc_133 (sh_CM d) 3 ?_
  exact hk25 s0 (l4 + (1 : Int32)) h H
def f_Tokens_scan_b139 (N : Nat)  (k25 : Int32 → Int32 → sh_H → Option sh_H) (l4 : Int32) (h : sh_H) : Option sh_H := f_Tokens_scan_b140 N k25 l4 (0 : Int32) h
theorem x_Tokens_scan_b139 (N : Nat) {d : Nat} (hd : 7 ≤ d) {Q : ai_Q} {R : sh_H → Prop} (hR : ∀ h, R h → Q none (sh_E h))  (k25 : Int32 → Int32 → sh_H → Option sh_H) (hk25 : ∀ (l3 : Int32) (l4 : Int32) {d2 : Option ai_V} (h : sh_H), sh_ok (k25 l3 l4 h) R → wq_133 d Q 25 [oR 10 0, oR 15 0, d2, oI l3, oI l4] [] (sh_E h)) (l4 : Int32) {d2 d3 : Option ai_V} (h : sh_H) (H : sh_ok (f_Tokens_scan_b139 N k25 l4 h) R) : wq_133 d Q 139 [oR 10 0, oR 15 0, d2, d3, oI l4] [] (sh_E h) := by
  refine ai_WP_steps mc_133 (sh_CM d) 1 ?_
  exact x_Tokens_scan_b140 N hd hR k25 hk25 l4 (0 : Int32) h H
def f_Tokens_scan_c25 (N : Nat)   (k25 : Int32 → Int32 → sh_H → Option sh_H) (l3 : Int32) (l4 : Int32) (h : sh_H) : Option sh_H := (if l4 < (Int32.ofNat 401) then (if l4 < (Int32.ofNat 401) then (if l4 < (Int32.ofNat 401) then (if l3 = 0 then (some h) else (Option.bind (f_Tokens_skipBlanks N h) (fun h1 => (if ai_in l4 401 then (sh_let (sh_pI h1 13 19 l4.toNatClampNeg (h1.1 10 0 4)) (fun h2 => (sh_let (sh_pJ h2 10 0 6 (0 : Int64)) (fun h3 => (sh_b2 (f_Tokens_next N h3) (fun v4 h5 => (if ai_in l4 401 then (sh_let (sh_pI h5 13 18 l4.toNatClampNeg v4) (fun h6 => (if ai_in l4 401 then (sh_let (sh_pJ h6 14 0 l4.toNatClampNeg (h6.2.1 10 0 6)) (fun h7 => (sh_let (sh_pI h7 10 0 3 (l4 + (1 : Int32))) (fun h8 => (if ai_in l4 401 then (if (h8.1 13 18 l4.toNatClampNeg) = (23 : Int32) then f_Tokens_scan_b139 N k25 l4 h8 else (if ai_in l4 401 then (if (h8.1 13 18 l4.toNatClampNeg) = (24 : Int32) then f_Tokens_scan_b139 N k25 l4 h8 else f_Tokens_scan_b140 N k25 l4 (1 : Int32) h8) else none)) else none))))) else none))) else none))))))) else none)))) else (some h)) else (some h)) else (some h))
def f_Tokens_scan_l25 (N : Nat)   (n : Nat) : Int32 → Int32 → sh_H → Option sh_H := Nat.rec (motive := fun _ => Int32 → Int32 → sh_H → Option sh_H) (fun _ _ _ => none) (fun _ k25 => f_Tokens_scan_c25 N k25) n
theorem x_Tokens_scan_l25 (N : Nat) {d : Nat} (hd : 7 ≤ d) {Q : ai_Q} {R : sh_H → Prop} (hR : ∀ h, R h → Q none (sh_E h))   (n : Nat) : ∀ (l3 : Int32) (l4 : Int32) {d2 : Option ai_V} (h : sh_H), sh_ok (f_Tokens_scan_l25 N n l3 l4 h) R → wq_133 d Q 25 [oR 10 0, oR 15 0, d2, oI l3, oI l4] [] (sh_E h) := by
  induction n with
  | zero => intro l3 l4 d2 h H; exact H.elim
  | succ n ih =>
    intro l3 l4 d2 h H
    have hk25 := @ih
    replace H : sh_ok (f_Tokens_scan_c25 N (f_Tokens_scan_l25 N n) l3 l4 h) R := H
    revert hk25 H
    generalize f_Tokens_scan_l25 N n = k25
    intro hk25 H
    refine ai_WP_steps mc_133 (sh_CM d) 5 (And.intro (fun c => ?_) (fun c => ?_))
    · replace H := sh_okT c H
      show wq_133 d Q 35 [oR 10 0, oR 15 0, _, oI l3, oI l4] [] (sh_E h)
      refine ai_WP_steps mc_133 (sh_CM d) 5 (And.intro (fun c => ?_) (fun c => ?_))
      · replace H := sh_okT c H
        show wq_133 d Q 45 [oR 10 0, oR 15 0, _, oI l3, oI l4] [] (sh_E h)
        refine ai_WP_steps mc_133 (sh_CM d) 5 (And.intro (fun c => ?_) (fun c => ?_))
        · replace H := sh_okT c H
          show wq_133 d Q 55 [oR 10 0, oR 15 0, _, oI l3, oI l4] [] (sh_E h)
          refine ai_WP_steps mc_133 (sh_CM d) 2 (And.intro (fun c => ?_) (fun c => ?_))
          · replace H := sh_okT c H
            show wq_133 d Q 147 [oR 10 0, oR 15 0, _, oI l3, oI l4] [] (sh_E h)
            exact ai_WP_steps mc_133 (sh_CM d) 1 (hR h H)
          · replace H := sh_okF c H
            show wq_133 d Q 59 [oR 10 0, oR 15 0, _, oI l3, oI l4] [] (sh_E h)
            refine ai_WP_steps mc_133 (sh_CM d) 3 (And.intro (Nat.le_of_ble_eq_true rfl) (x_Tokens_skipBlanks N (Nat.le_trans (Nat.le_of_ble_eq_true rfl) hd) h (sh_okB H) (fun h1 H => ?_)))
            show wq_133 d Q 64 [oR 10 0, oR 15 0, _, oI l3, oI l4] [] (sh_E h1)
            have c := sh_okG H
            replace H := sh_okH H
            refine ai_WP_steps mc_133 (sh_CM d) 6 (And.intro c ?_)
            show wq_133 d Q 75 [oR 10 0, oR 15 0, _, oI l3, oI l4] [] (sh_E (sh_pI h1 13 19 l4.toNatClampNeg (h1.1 10 0 4)))
            replace H := sh_okL H
            generalize sh_pI h1 13 19 l4.toNatClampNeg (h1.1 10 0 4) = h2 at H ⊢
            refine ai_WP_steps mc_133 (sh_CM d) 3 ?_
            show wq_133 d Q 80 [oR 10 0, oR 15 0, _, oI l3, oI l4] [] (sh_E (sh_pJ h2 10 0 6 (0 : Int64)))
            replace H := sh_okL H
            generalize sh_pJ h2 10 0 6 (0 : Int64) = h3 at H ⊢
            refine ai_WP_steps mc_133 (sh_CM d) 6 (And.intro (Nat.le_of_ble_eq_true rfl) (x_Tokens_next N (Nat.le_trans (Nat.le_of_ble_eq_true rfl) hd) h3 (sh_okB H) (fun v4 h5 H => ?_)))
            show wq_133 d Q 91 [oR 10 0, oR 15 0, _, oI l3, oI l4] [aI v4, aI l4, aR 13 18] (sh_E h5)
            have c := sh_okG H
            replace H := sh_okH H
            refine ai_WP_steps mc_133 (sh_CM d) 1 (And.intro c ?_)
            show wq_133 d Q 92 [oR 10 0, oR 15 0, _, oI l3, oI l4] [] (sh_E (sh_pI h5 13 18 l4.toNatClampNeg v4))
            replace H := sh_okL H
            generalize sh_pI h5 13 18 l4.toNatClampNeg v4 = h6 at H ⊢
            have c := sh_okG H
            replace H := sh_okH H
            refine ai_WP_steps mc_133 (sh_CM d) 6 (And.intro c ?_)
            show wq_133 d Q 103 [oR 10 0, oR 15 0, _, oI l3, oI l4] [] (sh_E (sh_pJ h6 14 0 l4.toNatClampNeg (h6.2.1 10 0 6)))
            replace H := sh_okL H
            generalize sh_pJ h6 14 0 l4.toNatClampNeg (h6.2.1 10 0 6) = h7 at H ⊢
            refine ai_WP_steps mc_133 (sh_CM d) 5 (And.intro trivial ?_)
            show wq_133 d Q 111 [oR 10 0, oR 15 0, _, oI l3, oI l4] [] (sh_E (sh_pI h7 10 0 3 (l4 + (1 : Int32))))
            replace H := sh_okL H
            generalize sh_pI h7 10 0 3 (l4 + (1 : Int32)) = h8 at H ⊢
            have c := sh_okG H
            replace H := sh_okH H
            refine ai_WP_steps mc_133 (sh_CM d) 4 (And.intro c ?_)
            show wq_133 d Q 118 [oR 10 0, oR 15 0, _, oI l3, oI l4] [aI (h8.1 13 18 l4.toNatClampNeg)] (sh_E h8)
            refine ai_WP_steps mc_133 (sh_CM d) 2 (And.intro (fun c => ?_) (fun c => ?_))
            · replace H := sh_okT c H
              exact x_Tokens_scan_b139 N hd hR k25 hk25 l4 h8 H
            · replace H := sh_okF c H
              show wq_133 d Q 123 [oR 10 0, oR 15 0, _, oI l3, oI l4] [] (sh_E h8)
              have c := sh_okG H
              replace H := sh_okH H
              refine ai_WP_steps mc_133 (sh_CM d) 4 (And.intro c ?_)
              show wq_133 d Q 130 [oR 10 0, oR 15 0, _, oI l3, oI l4] [aI (h8.1 13 18 l4.toNatClampNeg)] (sh_E h8)
              refine ai_WP_steps mc_133 (sh_CM d) 2 (And.intro (fun c => ?_) (fun c => ?_))
              · replace H := sh_okT c H
                exact x_Tokens_scan_b139 N hd hR k25 hk25 l4 h8 H
              · replace H := sh_okF c H
                show wq_133 d Q 135 [oR 10 0, oR 15 0, _, oI l3, oI l4] [] (sh_E h8)
                refine ai_WP_steps mc_133 (sh_CM d) 2 ?_
                exact x_Tokens_scan_b140 N hd hR k25 hk25 l4 (1 : Int32) h8 H
        · replace H := sh_okF c H
          show wq_133 d Q 147 [oR 10 0, oR 15 0, _, oI l3, oI l4] [] (sh_E h)
          exact ai_WP_steps mc_133 (sh_CM d) 1 (hR h H)
      · replace H := sh_okF c H
        show wq_133 d Q 147 [oR 10 0, oR 15 0, _, oI l3, oI l4] [] (sh_E h)
        exact ai_WP_steps mc_133 (sh_CM d) 1 (hR h H)
    · replace H := sh_okF c H
      show wq_133 d Q 147 [oR 10 0, oR 15 0, _, oI l3, oI l4] [] (sh_E h)
      exact ai_WP_steps mc_133 (sh_CM d) 1 (hR h H)
def f_Tokens_scan (N : Nat)  (l2 : Int32) (h : sh_H) : Option sh_H := (sh_let (sh_pI h 10 0 3 (0 : Int32)) (fun h9 => (sh_let (sh_pI h9 10 0 4 (0 : Int32)) (fun h10 => (Option.bind (f_CB_limit l2 (Int32.ofNat 2000) h10) (fun v11 => (sh_let (sh_pI h10 10 0 5 v11) (fun h12 => f_Tokens_scan_l25 N N (1 : Int32) (0 : Int32) h12))))))))
theorem x_Tokens_scan (N : Nat) {d : Nat} (hd : 8 ≤ d) (l2 : Int32) (h : sh_H) {Q : ai_Q} {R : sh_H → Prop} (H : sh_ok (f_Tokens_scan N l2 h) R) (hR : ∀ h, R h → Q none (sh_E h)) : ai_Ex sh_T d 133 [aR 10 0, aR 15 0, aI l2] (sh_E h) Q := by
  obtain ⟨d, rfl⟩ : ∃ e, d = e + 1 := ⟨d - 1, by omega⟩
  replace hd : 7 ≤ d := by omega
  refine And.intro (Nat.le_of_ble_eq_true rfl) ?_
  show wq_133 d Q 0 [oR 10 0, oR 15 0, oI l2, none, none] [] (sh_E h)
  refine ai_WP_steps mc_133 (sh_CM d) 3 (And.intro trivial ?_)
  show wq_133 d Q 5 [oR 10 0, oR 15 0, oI l2, _, _] [] (sh_E (sh_pI h 10 0 3 (0 : Int32)))
  replace H := sh_okL H
  generalize sh_pI h 10 0 3 (0 : Int32) = h9 at H ⊢
  refine ai_WP_steps mc_133 (sh_CM d) 3 (And.intro trivial ?_)
  show wq_133 d Q 10 [oR 10 0, oR 15 0, oI l2, _, _] [] (sh_E (sh_pI h9 10 0 4 (0 : Int32)))
  replace H := sh_okL H
  generalize sh_pI h9 10 0 4 (0 : Int32) = h10 at H ⊢
  refine ai_WP_steps mc_133 (sh_CM d) 5 (And.intro (Nat.le_of_ble_eq_true rfl) (x_CB_limit (Nat.le_trans (Nat.le_of_ble_eq_true rfl) hd) l2 (Int32.ofNat 2000) h10 (sh_okB H) (fun v11 H => ?_)))
  show wq_133 d Q 17 [oR 10 0, oR 15 0, oI l2, _, _] [aI v11, aR 10 0] (sh_E h10)
  refine ai_WP_steps mc_133 (sh_CM d) 1 (And.intro trivial ?_)
  show wq_133 d Q 20 [oR 10 0, oR 15 0, oI l2, _, _] [] (sh_E (sh_pI h10 10 0 5 v11))
  replace H := sh_okL H
  generalize sh_pI h10 10 0 5 v11 = h12 at H ⊢
  refine ai_WP_steps mc_133 (sh_CM d) 4 ?_
  exact x_Tokens_scan_l25 N hd hR N (1 : Int32) (0 : Int32) h12 H
def f_Reader_examine_c45 (N : Nat)  (k84 : sh_H → Option (Int32 × sh_H)) (k45 : Nat → Int32 → sh_H → Option (Int32 × sh_H)) (l3 : Nat) (l4 : Int32) (h : sh_H) : Option (Int32 × sh_H) := (if l4 < (400 : Int32) then (if (h.1 5 0 4) = 0 then (Option.bind (f_Reader_upcoming h) (fun v1 => (if v1 = (23 : Int32) then k84 h else (Option.bind (f_Reader_upcoming h) (fun v2 => (Option.bind (f_Reader_tell N l3 v2 h) (fun h3 => k45 l3 (l4 + (1 : Int32)) h3))))))) else k84 h) else k84 h)
def f_Reader_examine_l45 (N : Nat)  (k84 : sh_H → Option (Int32 × sh_H)) (n : Nat) : Nat → Int32 → sh_H → Option (Int32 × sh_H) := Nat.rec (motive := fun _ => Nat → Int32 → sh_H → Option (Int32 × sh_H)) (fun _ _ _ => none) (fun _ k45 => f_Reader_examine_c45 N k84 k45) n
theorem x_Reader_examine_l45 (N : Nat) {d : Nat} (hd : 65 ≤ d) {Q : ai_Q} {R : Int32 × sh_H → Prop} (hR : ∀ r h, R (r, h) → Q (some (aI r)) (sh_E h))  (k84 : sh_H → Option (Int32 × sh_H)) (hk84 : ∀ {d1 d2 d3 d4 : Option ai_V} (h : sh_H), sh_ok (k84 h) R → wq_70 d Q 84 [oR 5 0, d1, d2, d3, d4] [] (sh_E h)) (n : Nat) : ∀ (l3 : Nat) (l4 : Int32) {d1 d2 : Option ai_V} (h : sh_H), sh_ok (f_Reader_examine_l45 N k84 n l3 l4 h) R → wq_70 d Q 45 [oR 5 0, d1, d2, oR 9 l3, oI l4] [] (sh_E h) := by
  induction n with
  | zero => intro l3 l4 d1 d2 h H; exact H.elim
  | succ n ih =>
    intro l3 l4 d1 d2 h H
    have hk45 := @ih
    replace H : sh_ok (f_Reader_examine_c45 N k84 (f_Reader_examine_l45 N k84 n) l3 l4 h) R := H
    revert hk45 H
    generalize f_Reader_examine_l45 N k84 n = k45
    intro hk45 H
    refine ai_WP_steps mc_70 (sh_CM d) 3 (And.intro (fun c => ?_) (fun c => ?_))
    · replace H := sh_okT c H
      show wq_70 d Q 53 [oR 5 0, _, _, oR 9 l3, oI l4] [] (sh_E h)
      refine ai_WP_steps mc_70 (sh_CM d) 3 (And.intro (fun c => ?_) (fun c => ?_))
      · replace H := sh_okT c H
        show wq_70 d Q 60 [oR 5 0, _, _, oR 9 l3, oI l4] [] (sh_E h)
        refine ai_WP_steps mc_70 (sh_CM d) 2 (And.intro (Nat.le_of_ble_eq_true rfl) (x_Reader_upcoming (Nat.le_trans (Nat.le_of_ble_eq_true rfl) hd) h (sh_okB H) (fun v1 H => ?_)))
        show wq_70 d Q 64 [oR 5 0, _, _, oR 9 l3, oI l4] [aI v1] (sh_E h)
        refine ai_WP_steps mc_70 (sh_CM d) 2 (And.intro (fun c => ?_) (fun c => ?_))
        · replace H := sh_okT c H
          exact hk84 h H
        · replace H := sh_okF c H
          show wq_70 d Q 69 [oR 5 0, _, _, oR 9 l3, oI l4] [] (sh_E h)
          refine ai_WP_steps mc_70 (sh_CM d) 4 (And.intro (Nat.le_of_ble_eq_true rfl) (x_Reader_upcoming (Nat.le_trans (Nat.le_of_ble_eq_true rfl) hd) h (sh_okB H) (fun v2 H => ?_)))
          show wq_70 d Q 75 [oR 5 0, _, _, oR 9 l3, oI l4] [aI v2, aR 9 l3, aR 5 0] (sh_E h)
          refine ai_WP_steps mc_70 (sh_CM d) 1 (And.intro (Nat.le_of_ble_eq_true rfl) (x_Reader_tell N (Nat.le_trans (Nat.le_of_ble_eq_true rfl) hd) l3 v2 h (sh_okB H) (fun h3 H => ?_)))
          show wq_70 d Q 78 [oR 5 0, _, _, oR 9 l3, oI l4] [] (sh_E h3)
          refine ai_WP_steps mc_70 (sh_CM d) 2 ?_
          exact hk45 l3 (l4 + (1 : Int32)) h3 H
      · replace H := sh_okF c H
        exact hk84 h H
    · replace H := sh_okF c H
      exact hk84 h H
def f_Reader_examine_b107 (N : Nat)    (h : sh_H) : Option (Int32 × sh_H) := (some ((h.1 5 0 4), h))
theorem x_Reader_examine_b107 (N : Nat) {d : Nat} (hd : 65 ≤ d) {Q : ai_Q} {R : Int32 × sh_H → Prop} (hR : ∀ r h, R (r, h) → Q (some (aI r)) (sh_E h))    {d1 d2 d3 d4 : Option ai_V} (h : sh_H) (H : sh_ok (f_Reader_examine_b107 N h) R) : wq_70 d Q 107 [oR 5 0, d1, d2, d3, d4] [] (sh_E h) := by
  exact ai_WP_steps mc_70 (sh_CM d) 3 (hR (h.1 5 0 4) h H)
def f_Reader_examine_b84 (N : Nat)    (h : sh_H) : Option (Int32 × sh_H) := (if (h.1 5 0 4) = 0 then (sh_let (sh_pI h 5 0 4 (h.1 5 0 6)) (fun h4 => (sh_let (sh_pI h4 5 0 5 (h4.1 5 0 7)) (fun h5 => f_Reader_examine_b107 N h5)))) else f_Reader_examine_b107 N h)
theorem x_Reader_examine_b84 (N : Nat) {d : Nat} (hd : 65 ≤ d) {Q : ai_Q} {R : Int32 × sh_H → Prop} (hR : ∀ r h, R (r, h) → Q (some (aI r)) (sh_E h))    {d1 d2 d3 d4 : Option ai_V} (h : sh_H) (H : sh_ok (f_Reader_examine_b84 N h) R) : wq_70 d Q 84 [oR 5 0, d1, d2, d3, d4] [] (sh_E h) := by
  refine ai_WP_steps mc_70 (sh_CM d) 3 (And.intro (fun c => ?_) (fun c => ?_))
  · replace H := sh_okT c H
    show wq_70 d Q 91 [oR 5 0, _, _, _, _] [] (sh_E h)
    refine ai_WP_steps mc_70 (sh_CM d) 4 (And.intro trivial ?_)
    show wq_70 d Q 99 [oR 5 0, _, _, _, _] [] (sh_E (sh_pI h 5 0 4 (h.1 5 0 6)))
    replace H := sh_okL H
    generalize sh_pI h 5 0 4 (h.1 5 0 6) = h4 at H ⊢
    refine ai_WP_steps mc_70 (sh_CM d) 4 (And.intro trivial ?_)
    show wq_70 d Q 107 [oR 5 0, _, _, _, _] [] (sh_E (sh_pI h4 5 0 5 (h4.1 5 0 7)))
    replace H := sh_okL H
    generalize sh_pI h4 5 0 5 (h4.1 5 0 7) = h5 at H ⊢
    exact x_Reader_examine_b107 N hd hR h5 H
  · replace H := sh_okF c H
    exact x_Reader_examine_b107 N hd hR h H
def f_Reader_examine (N : Nat)  (l2 : Int32) (l3 : Nat) (h : sh_H) : Option (Int32 × sh_H) := (Option.bind (f_Reader_clearNames N 1 h) (fun h6 => (Option.bind (f_Reader_clearNames N 2 h6) (fun h7 => (Option.bind (f_Text_clear l3 h7) (fun h8 => (Option.bind (f_Tokens_scan N l2 h8) (fun h9 => (sh_let (sh_pI h9 5 0 3 (0 : Int32)) (fun h10 => (sh_let (sh_pI h10 5 0 4 (0 : Int32)) (fun h11 => (sh_let (sh_pI h11 5 0 6 (0 : Int32)) (fun h12 => f_Reader_examine_l45 N (f_Reader_examine_b84 N) N l3 (0 : Int32) h12))))))))))))))
theorem x_Reader_examine (N : Nat) {d : Nat} (hd : 66 ≤ d) (l2 : Int32) (l3 : Nat) (h : sh_H) {Q : ai_Q} {R : Int32 × sh_H → Prop} (H : sh_ok (f_Reader_examine N l2 l3 h) R) (hR : ∀ r h, R (r, h) → Q (some (aI r)) (sh_E h)) : ai_Ex sh_T d 70 [aR 5 0, aR 15 0, aI l2, aR 9 l3] (sh_E h) Q := by
  obtain ⟨d, rfl⟩ : ∃ e, d = e + 1 := ⟨d - 1, by omega⟩
  replace hd : 65 ≤ d := by omega
  refine And.intro (Nat.le_of_ble_eq_true rfl) ?_
  show wq_70 d Q 0 [oR 5 0, oR 15 0, oI l2, oR 9 l3, none] [] (sh_E h)
  refine ai_WP_steps mc_70 (sh_CM d) 3 (And.intro (Nat.le_of_ble_eq_true rfl) (x_Reader_clearNames N (Nat.le_trans (Nat.le_of_ble_eq_true rfl) hd) 1 h (sh_okB H) (fun h6 H => ?_)))
  show wq_70 d Q 7 [oR 5 0, oR 15 0, oI l2, oR 9 l3, _] [] (sh_E h6)
  refine ai_WP_steps mc_70 (sh_CM d) 3 (And.intro (Nat.le_of_ble_eq_true rfl) (x_Reader_clearNames N (Nat.le_trans (Nat.le_of_ble_eq_true rfl) hd) 2 h6 (sh_okB H) (fun h7 H => ?_)))
  show wq_70 d Q 14 [oR 5 0, oR 15 0, oI l2, oR 9 l3, _] [] (sh_E h7)
  refine ai_WP_steps mc_70 (sh_CM d) 2 (And.intro (Nat.le_of_ble_eq_true rfl) (x_Text_clear (Nat.le_trans (Nat.le_of_ble_eq_true rfl) hd) l3 h7 (sh_okB H) (fun h8 H => ?_)))
  show wq_70 d Q 18 [oR 5 0, oR 15 0, oI l2, oR 9 l3, _] [] (sh_E h8)
  refine ai_WP_steps mc_70 (sh_CM d) 5 (And.intro (Nat.le_of_ble_eq_true rfl) (x_Tokens_scan N (Nat.le_trans (Nat.le_of_ble_eq_true rfl) hd) l2 h8 (sh_okB H) (fun h9 H => ?_)))
  show wq_70 d Q 27 [oR 5 0, oR 15 0, oI l2, oR 9 l3, _] [] (sh_E h9)
  refine ai_WP_steps mc_70 (sh_CM d) 3 (And.intro trivial ?_)
  show wq_70 d Q 32 [oR 5 0, oR 15 0, oI l2, oR 9 l3, _] [] (sh_E (sh_pI h9 5 0 3 (0 : Int32)))
  replace H := sh_okL H
  generalize sh_pI h9 5 0 3 (0 : Int32) = h10 at H ⊢
  refine ai_WP_steps mc_70 (sh_CM d) 3 (And.intro trivial ?_)
  show wq_70 d Q 37 [oR 5 0, oR 15 0, oI l2, oR 9 l3, _] [] (sh_E (sh_pI h10 5 0 4 (0 : Int32)))
  replace H := sh_okL H
  generalize sh_pI h10 5 0 4 (0 : Int32) = h11 at H ⊢
  refine ai_WP_steps mc_70 (sh_CM d) 3 (And.intro trivial ?_)
  show wq_70 d Q 42 [oR 5 0, oR 15 0, oI l2, oR 9 l3, _] [] (sh_E (sh_pI h11 5 0 6 (0 : Int32)))
  replace H := sh_okL H
  generalize sh_pI h11 5 0 6 (0 : Int32) = h12 at H ⊢
  refine ai_WP_steps mc_70 (sh_CM d) 2 ?_
  exact x_Reader_examine_l45 N hd hR (f_Reader_examine_b84 N) (fun {e1} {e2} {e3} {e4} h H => x_Reader_examine_b84 N hd hR  h H) N l3 (0 : Int32) h12 H
def f_Tokens_placeOf_b26   (l1 : Int32) (s0 : Int32) (h : sh_H) : Option Int32 := (if s0 = 0 then (some (h.1 10 0 5)) else (if ai_in l1 401 then (some (h.1 13 19 l1.toNatClampNeg)) else none))
theorem x_Tokens_placeOf_b26 {d : Nat} (hd : 0 ≤ d) (h : sh_H) {Q : ai_Q} {R : Int32 → Prop} (hR : ∀ r, R r → Q (some (aI r)) (sh_E h))   (l1 : Int32) (s0 : Int32) {d2 : Option ai_V} (H : sh_ok (f_Tokens_placeOf_b26 l1 s0 h) R) : wq_135 d Q 26 [oR 10 0, oI l1, d2] [aI s0] (sh_E h) := by
  refine ai_WP_steps mc_135 (sh_CM d) 3 (And.intro (fun c => ?_) (fun c => ?_))
  · replace H := sh_okT c H
    show wq_135 d Q 40 [oR 10 0, oI l1, oI s0] [] (sh_E h)
    exact ai_WP_steps mc_135 (sh_CM d) 3 (hR (h.1 10 0 5) H)
  · replace H := sh_okF c H
    show wq_135 d Q 31 [oR 10 0, oI l1, oI s0] [] (sh_E h)
    have c := sh_okG H
    replace H := sh_okH H
    refine ai_WP_steps mc_135 (sh_CM d) 4 (And.intro c ?_)
    show wq_135 d Q 37 [oR 10 0, oI l1, oI s0] [aI (h.1 13 19 l1.toNatClampNeg)] (sh_E h)
    exact ai_WP_steps mc_135 (sh_CM d) 2 (hR (h.1 13 19 l1.toNatClampNeg) H)
def f_Tokens_placeOf_b25   (l1 : Int32) (h : sh_H) : Option Int32 := f_Tokens_placeOf_b26 l1 (0 : Int32) h
theorem x_Tokens_placeOf_b25 {d : Nat} (hd : 0 ≤ d) (h : sh_H) {Q : ai_Q} {R : Int32 → Prop} (hR : ∀ r, R r → Q (some (aI r)) (sh_E h))   (l1 : Int32) {d2 : Option ai_V} (H : sh_ok (f_Tokens_placeOf_b25 l1 h) R) : wq_135 d Q 25 [oR 10 0, oI l1, d2] [] (sh_E h) := by
  refine ai_WP_steps mc_135 (sh_CM d) 1 ?_
  exact x_Tokens_placeOf_b26 hd h hR l1 (0 : Int32) H
def f_Tokens_placeOf  (l1 : Int32) (h : sh_H) : Option Int32 := (if l1 < 0 then f_Tokens_placeOf_b25 l1 h else (if l1 < (h.1 10 0 3) then (if l1 < (Int32.ofNat 401) then f_Tokens_placeOf_b26 l1 (1 : Int32) h else f_Tokens_placeOf_b25 l1 h) else f_Tokens_placeOf_b25 l1 h))
theorem x_Tokens_placeOf {d : Nat} (hd : 1 ≤ d) (l1 : Int32) (h : sh_H) {Q : ai_Q} {R : Int32 → Prop} (H : sh_ok (f_Tokens_placeOf l1 h) R) (hR : ∀ r, R r → Q (some (aI r)) (sh_E h)) : ai_Ex sh_T d 135 [aR 10 0, aI l1] (sh_E h) Q := by
  obtain ⟨d, rfl⟩ : ∃ e, d = e + 1 := ⟨d - 1, by omega⟩
  replace hd : 0 ≤ d := by omega
  refine And.intro (Nat.le_of_ble_eq_true rfl) ?_
  show wq_135 d Q 0 [oR 10 0, oI l1, none] [] (sh_E h)
  refine ai_WP_steps mc_135 (sh_CM d) 2 (And.intro (fun c => ?_) (fun c => ?_))
  · replace H := sh_okT c H
    exact x_Tokens_placeOf_b25 hd h hR l1 H
  · replace H := sh_okF c H
    show wq_135 d Q 4 [oR 10 0, oI l1, _] [] (sh_E h)
    refine ai_WP_steps mc_135 (sh_CM d) 4 (And.intro (fun c => ?_) (fun c => ?_))
    · replace H := sh_okT c H
      show wq_135 d Q 12 [oR 10 0, oI l1, _] [] (sh_E h)
      refine ai_WP_steps mc_135 (sh_CM d) 5 (And.intro (fun c => ?_) (fun c => ?_))
      · replace H := sh_okT c H
        show wq_135 d Q 21 [oR 10 0, oI l1, _] [] (sh_E h)
        refine ai_WP_steps mc_135 (sh_CM d) 2 ?_
        exact x_Tokens_placeOf_b26 hd h hR l1 (1 : Int32) H
      · replace H := sh_okF c H
        exact x_Tokens_placeOf_b25 hd h hR l1 H
    · replace H := sh_okF c H
      exact x_Tokens_placeOf_b25 hd h hR l1 H
def f_Reader_faultPlace   (h : sh_H) : Option Int32 := (if (h.1 5 0 4) = 0 then (some (-1 : Int32)) else (Option.bind (f_Tokens_placeOf (h.1 5 0 5) h) (fun v1 => (some v1))))
theorem x_Reader_faultPlace {d : Nat} (hd : 2 ≤ d)  (h : sh_H) {Q : ai_Q} {R : Int32 → Prop} (H : sh_ok (f_Reader_faultPlace h) R) (hR : ∀ r, R r → Q (some (aI r)) (sh_E h)) : ai_Ex sh_T d 71 [aR 5 0] (sh_E h) Q := by
  obtain ⟨d, rfl⟩ : ∃ e, d = e + 1 := ⟨d - 1, by omega⟩
  replace hd : 1 ≤ d := by omega
  refine And.intro (Nat.le_of_ble_eq_true rfl) ?_
  show wq_71 d Q 0 [oR 5 0] [] (sh_E h)
  refine ai_WP_steps mc_71 (sh_CM d) 3 (And.intro (fun c => ?_) (fun c => ?_))
  · replace H := sh_okT c H
    show wq_71 d Q 7 [oR 5 0] [] (sh_E h)
    exact ai_WP_steps mc_71 (sh_CM d) 3 (hR (-1 : Int32) H)
  · replace H := sh_okF c H
    show wq_71 d Q 11 [oR 5 0] [] (sh_E h)
    refine ai_WP_steps mc_71 (sh_CM d) 5 (And.intro (Nat.le_of_ble_eq_true rfl) (x_Tokens_placeOf (Nat.le_trans (Nat.le_of_ble_eq_true rfl) hd) (h.1 5 0 5) h (sh_okB H) (fun v1 H => ?_)))
    show wq_71 d Q 22 [oR 5 0] [aI v1] (sh_E h)
    exact ai_WP_steps mc_71 (sh_CM d) 1 (hR v1 H)
def f_State_clear (N : Nat)  (l0 : Nat) (h : sh_H) : Option sh_H := (Option.bind (f_Pieces_clear N l0 h) (fun h1 => (Option.bind (f_Rows_clear (4 * l0 + 15) h1) (fun h2 => (Option.bind (f_Rows_clear (4 * l0 + 16) h2) (fun h3 => (Option.bind (f_Rows_zero N (4 * l0 + 17) h3) (fun h4 => (sh_let (sh_pI h4 7 l0 4 (0 : Int32)) (fun h5 => (sh_let (sh_pJ h5 7 l0 5 (0 : Int64)) (fun h6 => (sh_let (sh_pJ h6 7 l0 6 (0 : Int64)) (fun h7 => (sh_let (sh_pJ h7 7 l0 7 (0 : Int64)) (fun h8 => (sh_let (sh_pI h8 7 l0 8 (0 : Int32)) (fun h9 => (some h9)))))))))))))))))))
theorem x_State_clear (N : Nat) {d : Nat} (hd : 3 ≤ d) (l0 : Nat) (h : sh_H) {Q : ai_Q} {R : sh_H → Prop} (H : sh_ok (f_State_clear N l0 h) R) (hR : ∀ h, R h → Q none (sh_E h)) : ai_Ex sh_T d 108 [aR 7 l0] (sh_E h) Q := by
  obtain ⟨d, rfl⟩ : ∃ e, d = e + 1 := ⟨d - 1, by omega⟩
  replace hd : 2 ≤ d := by omega
  refine And.intro (Nat.le_of_ble_eq_true rfl) ?_
  show wq_108 d Q 0 [oR 7 l0] [] (sh_E h)
  refine ai_WP_steps mc_108 (sh_CM d) 3 (And.intro (Nat.le_of_ble_eq_true rfl) (x_Pieces_clear N (Nat.le_trans (Nat.le_of_ble_eq_true rfl) hd) l0 h (sh_okB H) (fun h1 H => ?_)))
  show wq_108 d Q 7 [oR 7 l0] [] (sh_E h1)
  refine ai_WP_steps mc_108 (sh_CM d) 3 (And.intro (Nat.le_of_ble_eq_true rfl) (x_Rows_clear (Nat.le_trans (Nat.le_of_ble_eq_true rfl) hd) (4 * l0 + 15) h1 (sh_okB H) (fun h2 H => ?_)))
  show wq_108 d Q 14 [oR 7 l0] [] (sh_E h2)
  refine ai_WP_steps mc_108 (sh_CM d) 3 (And.intro (Nat.le_of_ble_eq_true rfl) (x_Rows_clear (Nat.le_trans (Nat.le_of_ble_eq_true rfl) hd) (4 * l0 + 16) h2 (sh_okB H) (fun h3 H => ?_)))
  show wq_108 d Q 21 [oR 7 l0] [] (sh_E h3)
  refine ai_WP_steps mc_108 (sh_CM d) 3 (And.intro (Nat.le_of_ble_eq_true rfl) (x_Rows_zero N (Nat.le_trans (Nat.le_of_ble_eq_true rfl) hd) (4 * l0 + 17) h3 (sh_okB H) (fun h4 H => ?_)))
  show wq_108 d Q 28 [oR 7 l0] [] (sh_E h4)
  refine ai_WP_steps mc_108 (sh_CM d) 3 (And.intro trivial ?_)
  show wq_108 d Q 33 [oR 7 l0] [] (sh_E (sh_pI h4 7 l0 4 (0 : Int32)))
  replace H := sh_okL H
  generalize sh_pI h4 7 l0 4 (0 : Int32) = h5 at H ⊢
  refine ai_WP_steps mc_108 (sh_CM d) 3 ?_
  show wq_108 d Q 38 [oR 7 l0] [] (sh_E (sh_pJ h5 7 l0 5 (0 : Int64)))
  replace H := sh_okL H
  generalize sh_pJ h5 7 l0 5 (0 : Int64) = h6 at H ⊢
  refine ai_WP_steps mc_108 (sh_CM d) 3 ?_
  show wq_108 d Q 43 [oR 7 l0] [] (sh_E (sh_pJ h6 7 l0 6 (0 : Int64)))
  replace H := sh_okL H
  generalize sh_pJ h6 7 l0 6 (0 : Int64) = h7 at H ⊢
  refine ai_WP_steps mc_108 (sh_CM d) 3 ?_
  show wq_108 d Q 48 [oR 7 l0] [] (sh_E (sh_pJ h7 7 l0 7 (0 : Int64)))
  replace H := sh_okL H
  generalize sh_pJ h7 7 l0 7 (0 : Int64) = h8 at H ⊢
  refine ai_WP_steps mc_108 (sh_CM d) 3 (And.intro (Or.inl rfl) ?_)
  show wq_108 d Q 53 [oR 7 l0] [] (sh_E (sh_pI h8 7 l0 8 (0 : Int32)))
  replace H := sh_okL H
  generalize sh_pI h8 7 l0 8 (0 : Int32) = h9 at H ⊢
  exact ai_WP_steps mc_108 (sh_CM d) 1 (hR h9 H)
def f_State_copy (N : Nat)  (l0 : Nat) (l1 : Nat) (h : sh_H) : Option sh_H := (Option.bind (f_Pieces_copy N l0 l1 h) (fun h1 => (Option.bind (f_Rows_copy N (4 * l0 + 15) (4 * l1 + 15) h1) (fun h2 => (Option.bind (f_Rows_copy N (4 * l0 + 16) (4 * l1 + 16) h2) (fun h3 => (Option.bind (f_Rows_copy N (4 * l0 + 17) (4 * l1 + 17) h3) (fun h4 => (sh_let (sh_pI h4 7 l0 4 (h4.1 7 l1 4)) (fun h5 => (sh_let (sh_pJ h5 7 l0 5 (h5.2.1 7 l1 5)) (fun h6 => (sh_let (sh_pJ h6 7 l0 6 (h6.2.1 7 l1 6)) (fun h7 => (sh_let (sh_pJ h7 7 l0 7 (h7.2.1 7 l1 7)) (fun h8 => (some h8)))))))))))))))))
theorem x_State_copy (N : Nat) {d : Nat} (hd : 4 ≤ d) (l0 : Nat) (l1 : Nat) (h : sh_H) {Q : ai_Q} {R : sh_H → Prop} (H : sh_ok (f_State_copy N l0 l1 h) R) (hR : ∀ h, R h → Q none (sh_E h)) : ai_Ex sh_T d 109 [aR 7 l0, aR 7 l1] (sh_E h) Q := by
  obtain ⟨d, rfl⟩ : ∃ e, d = e + 1 := ⟨d - 1, by omega⟩
  replace hd : 3 ≤ d := by omega
  refine And.intro (Nat.le_of_ble_eq_true rfl) ?_
  show wq_109 d Q 0 [oR 7 l0, oR 7 l1] [] (sh_E h)
  refine ai_WP_steps mc_109 (sh_CM d) 5 (And.intro (Nat.le_of_ble_eq_true rfl) (x_Pieces_copy N (Nat.le_trans (Nat.le_of_ble_eq_true rfl) hd) l0 l1 h (sh_okB H) (fun h1 H => ?_)))
  show wq_109 d Q 11 [oR 7 l0, oR 7 l1] [] (sh_E h1)
  refine ai_WP_steps mc_109 (sh_CM d) 5 (And.intro (Nat.le_of_ble_eq_true rfl) (x_Rows_copy N (Nat.le_trans (Nat.le_of_ble_eq_true rfl) hd) (4 * l0 + 15) (4 * l1 + 15) h1 (sh_okB H) (fun h2 H => ?_)))
  show wq_109 d Q 22 [oR 7 l0, oR 7 l1] [] (sh_E h2)
  refine ai_WP_steps mc_109 (sh_CM d) 5 (And.intro (Nat.le_of_ble_eq_true rfl) (x_Rows_copy N (Nat.le_trans (Nat.le_of_ble_eq_true rfl) hd) (4 * l0 + 16) (4 * l1 + 16) h2 (sh_okB H) (fun h3 H => ?_)))
  show wq_109 d Q 33 [oR 7 l0, oR 7 l1] [] (sh_E h3)
  refine ai_WP_steps mc_109 (sh_CM d) 5 (And.intro (Nat.le_of_ble_eq_true rfl) (x_Rows_copy N (Nat.le_trans (Nat.le_of_ble_eq_true rfl) hd) (4 * l0 + 17) (4 * l1 + 17) h3 (sh_okB H) (fun h4 H => ?_)))
  show wq_109 d Q 44 [oR 7 l0, oR 7 l1] [] (sh_E h4)
  refine ai_WP_steps mc_109 (sh_CM d) 4 (And.intro trivial ?_)
  show wq_109 d Q 52 [oR 7 l0, oR 7 l1] [] (sh_E (sh_pI h4 7 l0 4 (h4.1 7 l1 4)))
  replace H := sh_okL H
  generalize sh_pI h4 7 l0 4 (h4.1 7 l1 4) = h5 at H ⊢
  refine ai_WP_steps mc_109 (sh_CM d) 4 ?_
  show wq_109 d Q 60 [oR 7 l0, oR 7 l1] [] (sh_E (sh_pJ h5 7 l0 5 (h5.2.1 7 l1 5)))
  replace H := sh_okL H
  generalize sh_pJ h5 7 l0 5 (h5.2.1 7 l1 5) = h6 at H ⊢
  refine ai_WP_steps mc_109 (sh_CM d) 4 ?_
  show wq_109 d Q 68 [oR 7 l0, oR 7 l1] [] (sh_E (sh_pJ h6 7 l0 6 (h6.2.1 7 l1 6)))
  replace H := sh_okL H
  generalize sh_pJ h6 7 l0 6 (h6.2.1 7 l1 6) = h7 at H ⊢
  refine ai_WP_steps mc_109 (sh_CM d) 4 ?_
  show wq_109 d Q 76 [oR 7 l0, oR 7 l1] [] (sh_E (sh_pJ h7 7 l0 7 (h7.2.1 7 l1 7)))
  replace H := sh_okL H
  generalize sh_pJ h7 7 l0 7 (h7.2.1 7 l1 7) = h8 at H ⊢
  exact ai_WP_steps mc_109 (sh_CM d) 1 (hR h8 H)
def f_Stocks_behind_b22    (h : sh_H) : Option Int64 := (some (0 : Int64))
theorem x_Stocks_behind_b22 {d : Nat} (hd : 0 ≤ d) (h : sh_H) {Q : ai_Q} {R : Int64 → Prop} (hR : ∀ r, R r → Q (some (aL r)) (sh_E h))    {d0 d1 : Option ai_V} (H : sh_ok (f_Stocks_behind_b22 h) R) : wq_114 d Q 22 [d0, d1] [] (sh_E h) := by
  exact ai_WP_steps mc_114 (sh_CM d) 2 (hR (0 : Int64) H)
def f_Stocks_behind  (l1 : Int32) (h : sh_H) : Option Int64 := (if l1 < 0 then f_Stocks_behind_b22 h else (if l1 < (Int32.ofNat 61) then (if ai_in l1 61 then (some (h.2.1 14 4 l1.toNatClampNeg)) else none) else f_Stocks_behind_b22 h))
theorem x_Stocks_behind {d : Nat} (hd : 1 ≤ d) (l1 : Int32) (h : sh_H) {Q : ai_Q} {R : Int64 → Prop} (H : sh_ok (f_Stocks_behind l1 h) R) (hR : ∀ r, R r → Q (some (aL r)) (sh_E h)) : ai_Ex sh_T d 114 [aR 8 0, aI l1] (sh_E h) Q := by
  obtain ⟨d, rfl⟩ : ∃ e, d = e + 1 := ⟨d - 1, by omega⟩
  replace hd : 0 ≤ d := by omega
  refine And.intro (Nat.le_of_ble_eq_true rfl) ?_
  show wq_114 d Q 0 [oR 8 0, oI l1] [] (sh_E h)
  refine ai_WP_steps mc_114 (sh_CM d) 2 (And.intro (fun c => ?_) (fun c => ?_))
  · replace H := sh_okT c H
    exact x_Stocks_behind_b22 hd h hR H
  · replace H := sh_okF c H
    show wq_114 d Q 4 [oR 8 0, oI l1] [] (sh_E h)
    refine ai_WP_steps mc_114 (sh_CM d) 5 (And.intro (fun c => ?_) (fun c => ?_))
    · replace H := sh_okT c H
      show wq_114 d Q 13 [oR 8 0, oI l1] [] (sh_E h)
      have c := sh_okG H
      replace H := sh_okH H
      refine ai_WP_steps mc_114 (sh_CM d) 4 (And.intro c ?_)
      show wq_114 d Q 19 [oR 8 0, oI l1] [aL (h.2.1 14 4 l1.toNatClampNeg)] (sh_E h)
      exact ai_WP_steps mc_114 (sh_CM d) 2 (hR (h.2.1 14 4 l1.toNatClampNeg) H)
    · replace H := sh_okF c H
      exact x_Stocks_behind_b22 hd h hR H
def f_Stocks_chooseOrders_b177 (N : Nat)  (k101 : Nat → Int32 → Int64 → Int32 → Int32 → Int32 → Int32 → Int64 → Int32 → Int32 → sh_H → Option sh_H) (l1 : Nat) (l3 : Int32) (l5 : Int64) (l7 : Int32) (l9 : Int32) (l10 : Int32) (l11 : Int32) (l12 : Int64) (l14 : Int32) (l15 : Int32) (h : sh_H) : Option sh_H := k101 l1 l3 l5 l7 l9 l10 l11 l12 l14 (l15 + (1 : Int32)) h
theorem x_Stocks_chooseOrders_b177 (N : Nat) {d : Nat} (hd : 3 ≤ d) {Q : ai_Q} {R : sh_H → Prop} (hR : ∀ h, R h → Q none (sh_E h))  (k101 : Nat → Int32 → Int64 → Int32 → Int32 → Int32 → Int32 → Int64 → Int32 → Int32 → sh_H → Option sh_H) (hk101 : ∀ (l1 : Nat) (l3 : Int32) (l5 : Int64) (l7 : Int32) (l9 : Int32) (l10 : Int32) (l11 : Int32) (l12 : Int64) (l14 : Int32) (l15 : Int32) {d2 d4 d6 d8 d13 d16 d17 d18 : Option ai_V} (h : sh_H), sh_ok (k101 l1 l3 l5 l7 l9 l10 l11 l12 l14 l15 h) R → wq_113 d Q 101 [oR 8 0, oR 9 l1, d2, oI l3, d4, oL l5, d6, oI l7, d8, oI l9, oI l10, oI l11, oL l12, d13, oI l14, oI l15, d16, d17, d18] [] (sh_E h)) (l1 : Nat) (l3 : Int32) (l5 : Int64) (l7 : Int32) (l9 : Int32) (l10 : Int32) (l11 : Int32) (l12 : Int64) (l14 : Int32) (l15 : Int32) {d2 d4 d6 d8 d13 d16 d17 d18 : Option ai_V} (h : sh_H) (H : sh_ok (f_Stocks_chooseOrders_b177 N k101 l1 l3 l5 l7 l9 l10 l11 l12 l14 l15 h) R) : wq_113 d Q 177 [oR 8 0, oR 9 l1, d2, oI l3, d4, oL l5, d6, oI l7, d8, oI l9, oI l10, oI l11, oL l12, d13, oI l14, oI l15, d16, d17, d18] [] (sh_E h) := by
  refine ai_WP_steps mc_113 (sh_CM d) 2 ?_
  exact hk101 l1 l3 l5 l7 l9 l10 l11 l12 l14 (l15 + (1 : Int32)) h H
def f_Stocks_chooseOrders_c101 (N : Nat)  (k183 : Nat → Int32 → Int64 → Int32 → Int32 → Int32 → Int32 → Int64 → Int32 → sh_H → Option sh_H) (k101 : Nat → Int32 → Int64 → Int32 → Int32 → Int32 → Int32 → Int64 → Int32 → Int32 → sh_H → Option sh_H) (l1 : Nat) (l3 : Int32) (l5 : Int64) (l7 : Int32) (l9 : Int32) (l10 : Int32) (l11 : Int32) (l12 : Int64) (l14 : Int32) (l15 : Int32) (h : sh_H) : Option sh_H := (if l9 < l15 then k183 l1 l3 l5 l7 l9 l10 l11 l12 l14 h else (if (l10 - l11) < l15 then k183 l1 l3 l5 l7 l9 l10 l11 l12 l14 h else (Option.bind (f_Rows_get (7 * l1 + 6) l7 (3 : Int32) h) (fun v1 => (Option.bind (f_Rows_get (7 * l1 + 0) l3 (2 : Int32) h) (fun v2 => (Option.bind (f_Stocks_behind (l11 + l15) h) (fun v3 => (if (lg_cmp (((v1 + (l15 * v2)).toInt64 * l5) + v3) l12) < 0 then f_Stocks_chooseOrders_b177 N k101 l1 l3 l5 l7 l9 l10 l11 (((v1 + (l15 * v2)).toInt64 * l5) + v3) l15 l15 h else f_Stocks_chooseOrders_b177 N k101 l1 l3 l5 l7 l9 l10 l11 l12 l14 l15 h)))))))))
def f_Stocks_chooseOrders_l101 (N : Nat)  (k183 : Nat → Int32 → Int64 → Int32 → Int32 → Int32 → Int32 → Int64 → Int32 → sh_H → Option sh_H) (n : Nat) : Nat → Int32 → Int64 → Int32 → Int32 → Int32 → Int32 → Int64 → Int32 → Int32 → sh_H → Option sh_H := Nat.rec (motive := fun _ => Nat → Int32 → Int64 → Int32 → Int32 → Int32 → Int32 → Int64 → Int32 → Int32 → sh_H → Option sh_H) (fun _ _ _ _ _ _ _ _ _ _ _ => none) (fun _ k101 => f_Stocks_chooseOrders_c101 N k183 k101) n
theorem x_Stocks_chooseOrders_l101 (N : Nat) {d : Nat} (hd : 3 ≤ d) {Q : ai_Q} {R : sh_H → Prop} (hR : ∀ h, R h → Q none (sh_E h))  (k183 : Nat → Int32 → Int64 → Int32 → Int32 → Int32 → Int32 → Int64 → Int32 → sh_H → Option sh_H) (hk183 : ∀ (l1 : Nat) (l3 : Int32) (l5 : Int64) (l7 : Int32) (l9 : Int32) (l10 : Int32) (l11 : Int32) (l12 : Int64) (l14 : Int32) {d2 d4 d6 d8 d13 d15 d16 d17 d18 : Option ai_V} (h : sh_H), sh_ok (k183 l1 l3 l5 l7 l9 l10 l11 l12 l14 h) R → wq_113 d Q 183 [oR 8 0, oR 9 l1, d2, oI l3, d4, oL l5, d6, oI l7, d8, oI l9, oI l10, oI l11, oL l12, d13, oI l14, d15, d16, d17, d18] [] (sh_E h)) (n : Nat) : ∀ (l1 : Nat) (l3 : Int32) (l5 : Int64) (l7 : Int32) (l9 : Int32) (l10 : Int32) (l11 : Int32) (l12 : Int64) (l14 : Int32) (l15 : Int32) {d2 d4 d6 d8 d13 d16 d17 d18 : Option ai_V} (h : sh_H), sh_ok (f_Stocks_chooseOrders_l101 N k183 n l1 l3 l5 l7 l9 l10 l11 l12 l14 l15 h) R → wq_113 d Q 101 [oR 8 0, oR 9 l1, d2, oI l3, d4, oL l5, d6, oI l7, d8, oI l9, oI l10, oI l11, oL l12, d13, oI l14, oI l15, d16, d17, d18] [] (sh_E h) := by
  induction n with
  | zero => intro l1 l3 l5 l7 l9 l10 l11 l12 l14 l15 d2 d4 d6 d8 d13 d16 d17 d18 h H; exact H.elim
  | succ n ih =>
    intro l1 l3 l5 l7 l9 l10 l11 l12 l14 l15 d2 d4 d6 d8 d13 d16 d17 d18 h H
    have hk101 := @ih
    replace H : sh_ok (f_Stocks_chooseOrders_c101 N k183 (f_Stocks_chooseOrders_l101 N k183 n) l1 l3 l5 l7 l9 l10 l11 l12 l14 l15 h) R := H
    revert hk101 H
    generalize f_Stocks_chooseOrders_l101 N k183 n = k101
    intro hk101 H
    refine ai_WP_steps mc_113 (sh_CM d) 3 (And.intro (fun c => ?_) (fun c => ?_))
    · replace H := sh_okT c H
      exact hk183 l1 l3 l5 l7 l9 l10 l11 l12 l14 h H
    · replace H := sh_okF c H
      show wq_113 d Q 108 [oR 8 0, oR 9 l1, _, oI l3, _, oL l5, _, oI l7, _, oI l9, oI l10, oI l11, oL l12, _, oI l14, oI l15, _, _, _] [] (sh_E h)
      refine ai_WP_steps mc_113 (sh_CM d) 5 (And.intro (fun c => ?_) (fun c => ?_))
      · replace H := sh_okT c H
        exact hk183 l1 l3 l5 l7 l9 l10 l11 l12 l14 h H
      · replace H := sh_okF c H
        show wq_113 d Q 118 [oR 8 0, oR 9 l1, _, oI l3, _, oL l5, _, oI l7, _, oI l9, oI l10, oI l11, oL l12, _, oI l14, oI l15, _, _, _] [] (sh_E h)
        refine ai_WP_steps mc_113 (sh_CM d) 5 (And.intro (Nat.le_of_ble_eq_true rfl) (x_Rows_get (Nat.le_trans (Nat.le_of_ble_eq_true rfl) hd) (7 * l1 + 6) l7 (3 : Int32) h (sh_okB H) (fun v1 H => ?_)))
        show wq_113 d Q 128 [oR 8 0, oR 9 l1, _, oI l3, _, oL l5, _, oI l7, _, oI l9, oI l10, oI l11, oL l12, _, oI l14, oI l15, _, _, _] [aI v1] (sh_E h)
        refine ai_WP_steps mc_113 (sh_CM d) 6 (And.intro (Nat.le_of_ble_eq_true rfl) (x_Rows_get (Nat.le_trans (Nat.le_of_ble_eq_true rfl) hd) (7 * l1 + 0) l3 (2 : Int32) h (sh_okB H) (fun v2 H => ?_)))
        show wq_113 d Q 139 [oR 8 0, oR 9 l1, _, oI l3, _, oL l5, _, oI l7, _, oI l9, oI l10, oI l11, oL l12, _, oI l14, oI l15, _, _, _] [aI v2, aI l15, aI v1] (sh_E h)
        refine ai_WP_steps mc_113 (sh_CM d) 12 (And.intro (Nat.le_of_ble_eq_true rfl) (x_Stocks_behind (Nat.le_trans (Nat.le_of_ble_eq_true rfl) hd) (l11 + l15) h (sh_okB H) (fun v3 H => ?_)))
        show wq_113 d Q 158 [oR 8 0, oR 9 l1, _, oI l3, _, oL l5, _, oI l7, _, oI l9, oI l10, oI l11, oL l12, _, oI l14, oI l15, oI (v1 + (l15 * v2)), _, _] [aL v3, aL ((v1 + (l15 * v2)).toInt64 * l5)] (sh_E h)
        refine ai_WP_steps mc_113 (sh_CM d) 6 (And.intro (fun c => ?_) (fun c => ?_))
        · replace H := sh_okT c H
          show wq_113 d Q 169 [oR 8 0, oR 9 l1, _, oI l3, _, oL l5, _, oI l7, _, oI l9, oI l10, oI l11, oL l12, _, oI l14, oI l15, _, oL (((v1 + (l15 * v2)).toInt64 * l5) + v3), _] [] (sh_E h)
          refine ai_WP_steps mc_113 (sh_CM d) 4 ?_
          exact x_Stocks_chooseOrders_b177 N hd hR k101 hk101 l1 l3 l5 l7 l9 l10 l11 (((v1 + (l15 * v2)).toInt64 * l5) + v3) l15 l15 h H
        · replace H := sh_okF c H
          exact x_Stocks_chooseOrders_b177 N hd hR k101 hk101 l1 l3 l5 l7 l9 l10 l11 l12 l14 l15 h H
def f_Stocks_chooseOrders_b183 (N : Nat)  (k67 : Nat → Int32 → Int64 → Int32 → Int32 → Int32 → Int32 → sh_H → Option sh_H) (l1 : Nat) (l3 : Int32) (l5 : Int64) (l7 : Int32) (l9 : Int32) (l10 : Int32) (l11 : Int32) (l12 : Int64) (l14 : Int32) (h : sh_H) : Option sh_H := (if ai_in l11 61 then (sh_let (sh_pJ h 14 3 l11.toNatClampNeg l12) (fun h4 => (if ai_in l11 61 then (sh_let (sh_pI h4 13 37 l11.toNatClampNeg l14) (fun h5 => k67 l1 l3 l5 l7 l9 l10 (l11 + (1 : Int32)) h5)) else none))) else none)
theorem x_Stocks_chooseOrders_b183 (N : Nat) {d : Nat} (hd : 3 ≤ d) {Q : ai_Q} {R : sh_H → Prop} (hR : ∀ h, R h → Q none (sh_E h))  (k67 : Nat → Int32 → Int64 → Int32 → Int32 → Int32 → Int32 → sh_H → Option sh_H) (hk67 : ∀ (l1 : Nat) (l3 : Int32) (l5 : Int64) (l7 : Int32) (l9 : Int32) (l10 : Int32) (l11 : Int32) {d2 d4 d6 d8 d12 d13 d14 d15 d16 d17 d18 : Option ai_V} (h : sh_H), sh_ok (k67 l1 l3 l5 l7 l9 l10 l11 h) R → wq_113 d Q 67 [oR 8 0, oR 9 l1, d2, oI l3, d4, oL l5, d6, oI l7, d8, oI l9, oI l10, oI l11, d12, d13, d14, d15, d16, d17, d18] [] (sh_E h)) (l1 : Nat) (l3 : Int32) (l5 : Int64) (l7 : Int32) (l9 : Int32) (l10 : Int32) (l11 : Int32) (l12 : Int64) (l14 : Int32) {d2 d4 d6 d8 d13 d15 d16 d17 d18 : Option ai_V} (h : sh_H) (H : sh_ok (f_Stocks_chooseOrders_b183 N k67 l1 l3 l5 l7 l9 l10 l11 l12 l14 h) R) : wq_113 d Q 183 [oR 8 0, oR 9 l1, d2, oI l3, d4, oL l5, d6, oI l7, d8, oI l9, oI l10, oI l11, oL l12, d13, oI l14, d15, d16, d17, d18] [] (sh_E h) := by
  have c := sh_okG H
  replace H := sh_okH H
  refine ai_WP_steps mc_113 (sh_CM d) 5 (And.intro c ?_)
  show wq_113 d Q 192 [oR 8 0, oR 9 l1, _, oI l3, _, oL l5, _, oI l7, _, oI l9, oI l10, oI l11, oL l12, _, oI l14, _, _, _, _] [] (sh_E (sh_pJ h 14 3 l11.toNatClampNeg l12))
  replace H := sh_okL H
  generalize sh_pJ h 14 3 l11.toNatClampNeg l12 = h4 at H ⊢
  have c := sh_okG H
  replace H := sh_okH H
  refine ai_WP_steps mc_113 (sh_CM d) 5 (And.intro c ?_)
  show wq_113 d Q 201 [oR 8 0, oR 9 l1, _, oI l3, _, oL l5, _, oI l7, _, oI l9, oI l10, oI l11, oL l12, _, oI l14, _, _, _, _] [] (sh_E (sh_pI h4 13 37 l11.toNatClampNeg l14))
  replace H := sh_okL H
  generalize sh_pI h4 13 37 l11.toNatClampNeg l14 = h5 at H ⊢
  refine ai_WP_steps mc_113 (sh_CM d) 2 ?_
  exact hk67 l1 l3 l5 l7 l9 l10 (l11 + (1 : Int32)) h5 H
def f_Stocks_chooseOrders_c67 (N : Nat)   (k67 : Nat → Int32 → Int64 → Int32 → Int32 → Int32 → Int32 → sh_H → Option sh_H) (l1 : Nat) (l3 : Int32) (l5 : Int64) (l7 : Int32) (l9 : Int32) (l10 : Int32) (l11 : Int32) (h : sh_H) : Option sh_H := (if l11 < (Int32.ofNat 61) then (if l11 < (Int32.ofNat 61) then (Option.bind (f_Stocks_behind l11 h) (fun v6 => f_Stocks_chooseOrders_l101 N (f_Stocks_chooseOrders_b183 N k67) N l1 l3 l5 l7 l9 l10 l11 v6 (0 : Int32) (1 : Int32) h)) else (some h)) else (some h))
def f_Stocks_chooseOrders_l67 (N : Nat)   (n : Nat) : Nat → Int32 → Int64 → Int32 → Int32 → Int32 → Int32 → sh_H → Option sh_H := Nat.rec (motive := fun _ => Nat → Int32 → Int64 → Int32 → Int32 → Int32 → Int32 → sh_H → Option sh_H) (fun _ _ _ _ _ _ _ _ => none) (fun _ k67 => f_Stocks_chooseOrders_c67 N k67) n
theorem x_Stocks_chooseOrders_l67 (N : Nat) {d : Nat} (hd : 3 ≤ d) {Q : ai_Q} {R : sh_H → Prop} (hR : ∀ h, R h → Q none (sh_E h))   (n : Nat) : ∀ (l1 : Nat) (l3 : Int32) (l5 : Int64) (l7 : Int32) (l9 : Int32) (l10 : Int32) (l11 : Int32) {d2 d4 d6 d8 d12 d13 d14 d15 d16 d17 d18 : Option ai_V} (h : sh_H), sh_ok (f_Stocks_chooseOrders_l67 N n l1 l3 l5 l7 l9 l10 l11 h) R → wq_113 d Q 67 [oR 8 0, oR 9 l1, d2, oI l3, d4, oL l5, d6, oI l7, d8, oI l9, oI l10, oI l11, d12, d13, d14, d15, d16, d17, d18] [] (sh_E h) := by
  induction n with
  | zero => intro l1 l3 l5 l7 l9 l10 l11 d2 d4 d6 d8 d12 d13 d14 d15 d16 d17 d18 h H; exact H.elim
  | succ n ih =>
    intro l1 l3 l5 l7 l9 l10 l11 d2 d4 d6 d8 d12 d13 d14 d15 d16 d17 d18 h H
    have hk67 := @ih
    replace H : sh_ok (f_Stocks_chooseOrders_c67 N (f_Stocks_chooseOrders_l67 N n) l1 l3 l5 l7 l9 l10 l11 h) R := H
    revert hk67 H
    generalize f_Stocks_chooseOrders_l67 N n = k67
    intro hk67 H
    refine ai_WP_steps mc_113 (sh_CM d) 5 (And.intro (fun c => ?_) (fun c => ?_))
    · replace H := sh_okT c H
      show wq_113 d Q 77 [oR 8 0, oR 9 l1, _, oI l3, _, oL l5, _, oI l7, _, oI l9, oI l10, oI l11, _, _, _, _, _, _, _] [] (sh_E h)
      refine ai_WP_steps mc_113 (sh_CM d) 5 (And.intro (fun c => ?_) (fun c => ?_))
      · replace H := sh_okT c H
        show wq_113 d Q 87 [oR 8 0, oR 9 l1, _, oI l3, _, oL l5, _, oI l7, _, oI l9, oI l10, oI l11, _, _, _, _, _, _, _] [] (sh_E h)
        refine ai_WP_steps mc_113 (sh_CM d) 3 (And.intro (Nat.le_of_ble_eq_true rfl) (x_Stocks_behind (Nat.le_trans (Nat.le_of_ble_eq_true rfl) hd) l11 h (sh_okB H) (fun v6 H => ?_)))
        show wq_113 d Q 93 [oR 8 0, oR 9 l1, _, oI l3, _, oL l5, _, oI l7, _, oI l9, oI l10, oI l11, _, _, _, _, _, _, _] [aL v6] (sh_E h)
        refine ai_WP_steps mc_113 (sh_CM d) 5 ?_
        exact x_Stocks_chooseOrders_l101 N hd hR (f_Stocks_chooseOrders_b183 N k67) (fun z0 z1 z2 z3 z4 z5 z6 z7 z8 {e2} {e4} {e6} {e8} {e13} {e15} {e16} {e17} {e18} h H => x_Stocks_chooseOrders_b183 N hd hR k67 hk67 z0 z1 z2 z3 z4 z5 z6 z7 z8 h H) N l1 l3 l5 l7 l9 l10 l11 v6 (0 : Int32) (1 : Int32) h H
      · replace H := sh_okF c H
        show wq_113 d Q 207 [oR 8 0, oR 9 l1, _, oI l3, _, oL l5, _, oI l7, _, oI l9, oI l10, oI l11, _, _, _, _, _, _, _] [] (sh_E h)
        exact ai_WP_steps mc_113 (sh_CM d) 1 (hR h H)
    · replace H := sh_okF c H
      show wq_113 d Q 207 [oR 8 0, oR 9 l1, _, oI l3, _, oL l5, _, oI l7, _, oI l9, oI l10, oI l11, _, _, _, _, _, _, _] [] (sh_E h)
      exact ai_WP_steps mc_113 (sh_CM d) 1 (hR h H)
def f_Stocks_chooseOrders_b49 (N : Nat)   (l1 : Nat) (l2 : Int32) (l3 : Int32) (l5 : Int64) (l7 : Int32) (s0 : Int32) (h : sh_H) : Option sh_H := (Option.bind (f_Rows_get (7 * l1 + 1) (l2 - (1 : Int32)) (0 : Int32) h) (fun v7 => f_Stocks_chooseOrders_l67 N N l1 l3 l5 l7 s0 v7 (0 : Int32) h))
theorem x_Stocks_chooseOrders_b49 (N : Nat) {d : Nat} (hd : 3 ≤ d) {Q : ai_Q} {R : sh_H → Prop} (hR : ∀ h, R h → Q none (sh_E h))   (l1 : Nat) (l2 : Int32) (l3 : Int32) (l5 : Int64) (l7 : Int32) (s0 : Int32) {d4 d6 d8 d9 d10 d11 d12 d13 d14 d15 d16 d17 d18 : Option ai_V} (h : sh_H) (H : sh_ok (f_Stocks_chooseOrders_b49 N l1 l2 l3 l5 l7 s0 h) R) : wq_113 d Q 49 [oR 8 0, oR 9 l1, oI l2, oI l3, d4, oL l5, d6, oI l7, d8, d9, d10, d11, d12, d13, d14, d15, d16, d17, d18] [aI s0] (sh_E h) := by
  refine ai_WP_steps mc_113 (sh_CM d) 8 (And.intro (Nat.le_of_ble_eq_true rfl) (x_Rows_get (Nat.le_trans (Nat.le_of_ble_eq_true rfl) hd) (7 * l1 + 1) (l2 - (1 : Int32)) (0 : Int32) h (sh_okB H) (fun v7 H => ?_)))
  show wq_113 d Q 62 [oR 8 0, oR 9 l1, oI l2, oI l3, _, oL l5, _, oI l7, _, oI s0, _, _, _, _, _, _, _, _, _] [aI v7] (sh_E h)
  refine ai_WP_steps mc_113 (sh_CM d) 3 ?_
  exact x_Stocks_chooseOrders_l67 N hd hR N l1 l3 l5 l7 s0 v7 (0 : Int32) h H
def f_Stocks_chooseOrders_b32 (N : Nat)   (l1 : Nat) (l2 : Int32) (l3 : Int32) (l5 : Int64) (l7 : Int32) (h : sh_H) : Option sh_H := f_Stocks_chooseOrders_b49 N l1 l2 l3 l5 l7 (0 : Int32) h
theorem x_Stocks_chooseOrders_b32 (N : Nat) {d : Nat} (hd : 3 ≤ d) {Q : ai_Q} {R : sh_H → Prop} (hR : ∀ h, R h → Q none (sh_E h))   (l1 : Nat) (l2 : Int32) (l3 : Int32) (l5 : Int64) (l7 : Int32) {d4 d6 d8 d9 d10 d11 d12 d13 d14 d15 d16 d17 d18 : Option ai_V} (h : sh_H) (H : sh_ok (f_Stocks_chooseOrders_b32 N l1 l2 l3 l5 l7 h) R) : wq_113 d Q 32 [oR 8 0, oR 9 l1, oI l2, oI l3, d4, oL l5, d6, oI l7, d8, d9, d10, d11, d12, d13, d14, d15, d16, d17, d18] [] (sh_E h) := by
  refine ai_WP_steps mc_113 (sh_CM d) 2 ?_
  exact x_Stocks_chooseOrders_b49 N hd hR l1 l2 l3 l5 l7 (0 : Int32) h H
def f_Stocks_chooseOrders (N : Nat)  (l1 : Nat) (l2 : Int32) (l3 : Int32) (l4 : Int32) (l5 : Int64) (h : sh_H) : Option sh_H := (Option.bind (f_Text_boatOf N l1 l2 l4 h) (fun v8 => (Option.bind (f_Rows_get (7 * l1 + 0) l3 (1 : Int32) h) (fun v9 => (if v8 = (-1 : Int32) then f_Stocks_chooseOrders_b32 N l1 l2 l3 l5 v8 h else (if v9 < (1 : Int32) then f_Stocks_chooseOrders_b32 N l1 l2 l3 l5 v8 h else (Option.bind (f_Rows_get (7 * l1 + 6) v8 (2 : Int32) h) (fun v10 => (if ¬ v9 = 0 then f_Stocks_chooseOrders_b49 N l1 l2 l3 l5 v8 (v10 / v9) h else none)))))))))
theorem x_Stocks_chooseOrders (N : Nat) {d : Nat} (hd : 4 ≤ d) (l1 : Nat) (l2 : Int32) (l3 : Int32) (l4 : Int32) (l5 : Int64) (h : sh_H) {Q : ai_Q} {R : sh_H → Prop} (H : sh_ok (f_Stocks_chooseOrders N l1 l2 l3 l4 l5 h) R) (hR : ∀ h, R h → Q none (sh_E h)) : ai_Ex sh_T d 113 [aR 8 0, aR 9 l1, aI l2, aI l3, aI l4, aL l5] (sh_E h) Q := by
  obtain ⟨d, rfl⟩ : ∃ e, d = e + 1 := ⟨d - 1, by omega⟩
  replace hd : 3 ≤ d := by omega
  refine And.intro (Nat.le_of_ble_eq_true rfl) ?_
  show wq_113 d Q 0 [oR 8 0, oR 9 l1, oI l2, oI l3, oI l4, oL l5, none, none, none, none, none, none, none, none, none, none, none, none, none] [] (sh_E h)
  refine ai_WP_steps mc_113 (sh_CM d) 4 (And.intro (Nat.le_of_ble_eq_true rfl) (x_Text_boatOf N (Nat.le_trans (Nat.le_of_ble_eq_true rfl) hd) l1 l2 l4 h (sh_okB H) (fun v8 H => ?_)))
  show wq_113 d Q 7 [oR 8 0, oR 9 l1, oI l2, oI l3, oI l4, oL l5, _, _, _, _, _, _, _, _, _, _, _, _, _] [aI v8] (sh_E h)
  refine ai_WP_steps mc_113 (sh_CM d) 6 (And.intro (Nat.le_of_ble_eq_true rfl) (x_Rows_get (Nat.le_trans (Nat.le_of_ble_eq_true rfl) hd) (7 * l1 + 0) l3 (1 : Int32) h (sh_okB H) (fun v9 H => ?_)))
  show wq_113 d Q 18 [oR 8 0, oR 9 l1, oI l2, oI l3, oI l4, oL l5, _, oI v8, _, _, _, _, _, _, _, _, _, _, _] [aI v9] (sh_E h)
  refine ai_WP_steps mc_113 (sh_CM d) 4 (And.intro (fun c => ?_) (fun c => ?_))
  · replace H := sh_okT c H
    exact x_Stocks_chooseOrders_b32 N hd hR l1 l2 l3 l5 v8 h H
  · replace H := sh_okF c H
    show wq_113 d Q 26 [oR 8 0, oR 9 l1, oI l2, oI l3, oI l4, oL l5, _, oI v8, oI v9, _, _, _, _, _, _, _, _, _, _] [] (sh_E h)
    refine ai_WP_steps mc_113 (sh_CM d) 3 (And.intro (fun c => ?_) (fun c => ?_))
    · replace H := sh_okT c H
      exact x_Stocks_chooseOrders_b32 N hd hR l1 l2 l3 l5 v8 h H
    · replace H := sh_okF c H
      show wq_113 d Q 36 [oR 8 0, oR 9 l1, oI l2, oI l3, oI l4, oL l5, _, oI v8, oI v9, _, _, _, _, _, _, _, _, _, _] [] (sh_E h)
      refine ai_WP_steps mc_113 (sh_CM d) 5 (And.intro (Nat.le_of_ble_eq_true rfl) (x_Rows_get (Nat.le_trans (Nat.le_of_ble_eq_true rfl) hd) (7 * l1 + 6) v8 (2 : Int32) h (sh_okB H) (fun v10 H => ?_)))
      show wq_113 d Q 46 [oR 8 0, oR 9 l1, oI l2, oI l3, oI l4, oL l5, _, oI v8, oI v9, _, _, _, _, _, _, _, _, _, _] [aI v10] (sh_E h)
      have c := sh_okG H
      replace H := sh_okH H
      refine ai_WP_steps mc_113 (sh_CM d) 2 (And.intro c ?_)
      show wq_113 d Q 49 [oR 8 0, oR 9 l1, oI l2, oI l3, oI l4, oL l5, _, oI v8, oI v9, _, _, _, _, _, _, _, _, _, _] [aI (v10 / v9)] (sh_E h)
      exact x_Stocks_chooseOrders_b49 N hd hR l1 l2 l3 l5 v8 (v10 / v9) h H
def f_Stocks_cost_b22    (h : sh_H) : Option Int64 := (some (0 : Int64))
theorem x_Stocks_cost_b22 {d : Nat} (hd : 0 ≤ d) (h : sh_H) {Q : ai_Q} {R : Int64 → Prop} (hR : ∀ r, R r → Q (some (aL r)) (sh_E h))    {d0 d1 : Option ai_V} (H : sh_ok (f_Stocks_cost_b22 h) R) : wq_115 d Q 22 [d0, d1] [] (sh_E h) := by
  exact ai_WP_steps mc_115 (sh_CM d) 2 (hR (0 : Int64) H)
def f_Stocks_cost  (l1 : Int32) (h : sh_H) : Option Int64 := (if l1 < 0 then f_Stocks_cost_b22 h else (if l1 < (Int32.ofNat 61) then (if ai_in l1 61 then (some (h.2.1 14 3 l1.toNatClampNeg)) else none) else f_Stocks_cost_b22 h))
theorem x_Stocks_cost {d : Nat} (hd : 1 ≤ d) (l1 : Int32) (h : sh_H) {Q : ai_Q} {R : Int64 → Prop} (H : sh_ok (f_Stocks_cost l1 h) R) (hR : ∀ r, R r → Q (some (aL r)) (sh_E h)) : ai_Ex sh_T d 115 [aR 8 0, aI l1] (sh_E h) Q := by
  obtain ⟨d, rfl⟩ : ∃ e, d = e + 1 := ⟨d - 1, by omega⟩
  replace hd : 0 ≤ d := by omega
  refine And.intro (Nat.le_of_ble_eq_true rfl) ?_
  show wq_115 d Q 0 [oR 8 0, oI l1] [] (sh_E h)
  refine ai_WP_steps mc_115 (sh_CM d) 2 (And.intro (fun c => ?_) (fun c => ?_))
  · replace H := sh_okT c H
    exact x_Stocks_cost_b22 hd h hR H
  · replace H := sh_okF c H
    show wq_115 d Q 4 [oR 8 0, oI l1] [] (sh_E h)
    refine ai_WP_steps mc_115 (sh_CM d) 5 (And.intro (fun c => ?_) (fun c => ?_))
    · replace H := sh_okT c H
      show wq_115 d Q 13 [oR 8 0, oI l1] [] (sh_E h)
      have c := sh_okG H
      replace H := sh_okH H
      refine ai_WP_steps mc_115 (sh_CM d) 4 (And.intro c ?_)
      show wq_115 d Q 19 [oR 8 0, oI l1] [aL (h.2.1 14 3 l1.toNatClampNeg)] (sh_E h)
      exact ai_WP_steps mc_115 (sh_CM d) 2 (hR (h.2.1 14 3 l1.toNatClampNeg) H)
    · replace H := sh_okF c H
      exact x_Stocks_cost_b22 hd h hR H
def f_Stocks_takeWanted_c19 (N : Nat)  (k73 : Int32 → Int32 → Int32 → Int64 → Int32 → Int64 → sh_H → Option sh_H) (k19 : Int32 → Int32 → Int32 → Int64 → Int32 → Int64 → Int32 → sh_H → Option sh_H) (l1 : Int32) (l2 : Int32) (l3 : Int32) (l4 : Int64) (l6 : Int32) (l7 : Int64) (l9 : Int32) (h : sh_H) : Option sh_H := (if l2 < l9 then k73 l1 l2 l3 l4 l6 l7 h else (Option.bind (f_Math_max (0 : Int32) ((l1 + l9) - l6) h) (fun v1 => (Option.bind (f_Math_max (0 : Int32) ((l6 - l1) - l9) h) (fun v2 => (Option.bind (f_Stocks_cost v2 h) (fun v3 => k19 l1 l2 l3 l4 l6 (l7 + (((v1 * l3).toInt64 * l4) + v3)) (l9 + (1 : Int32)) h)))))))
def f_Stocks_takeWanted_l19 (N : Nat)  (k73 : Int32 → Int32 → Int32 → Int64 → Int32 → Int64 → sh_H → Option sh_H) (n : Nat) : Int32 → Int32 → Int32 → Int64 → Int32 → Int64 → Int32 → sh_H → Option sh_H := Nat.rec (motive := fun _ => Int32 → Int32 → Int32 → Int64 → Int32 → Int64 → Int32 → sh_H → Option sh_H) (fun _ _ _ _ _ _ _ _ => none) (fun _ k19 => f_Stocks_takeWanted_c19 N k73 k19) n
theorem x_Stocks_takeWanted_l19 (N : Nat) {d : Nat} (hd : 1 ≤ d) {Q : ai_Q} {R : sh_H → Prop} (hR : ∀ h, R h → Q none (sh_E h))  (k73 : Int32 → Int32 → Int32 → Int64 → Int32 → Int64 → sh_H → Option sh_H) (hk73 : ∀ (l1 : Int32) (l2 : Int32) (l3 : Int32) (l4 : Int64) (l6 : Int32) (l7 : Int64) {d5 d8 d9 d10 : Option ai_V} (h : sh_H), sh_ok (k73 l1 l2 l3 l4 l6 l7 h) R → wq_112 d Q 73 [oR 8 0, oI l1, oI l2, oI l3, oL l4, d5, oI l6, oL l7, d8, d9, d10] [] (sh_E h)) (n : Nat) : ∀ (l1 : Int32) (l2 : Int32) (l3 : Int32) (l4 : Int64) (l6 : Int32) (l7 : Int64) (l9 : Int32) {d5 d8 d10 : Option ai_V} (h : sh_H), sh_ok (f_Stocks_takeWanted_l19 N k73 n l1 l2 l3 l4 l6 l7 l9 h) R → wq_112 d Q 19 [oR 8 0, oI l1, oI l2, oI l3, oL l4, d5, oI l6, oL l7, d8, oI l9, d10] [] (sh_E h) := by
  induction n with
  | zero => intro l1 l2 l3 l4 l6 l7 l9 d5 d8 d10 h H; exact H.elim
  | succ n ih =>
    intro l1 l2 l3 l4 l6 l7 l9 d5 d8 d10 h H
    have hk19 := @ih
    replace H : sh_ok (f_Stocks_takeWanted_c19 N k73 (f_Stocks_takeWanted_l19 N k73 n) l1 l2 l3 l4 l6 l7 l9 h) R := H
    revert hk19 H
    generalize f_Stocks_takeWanted_l19 N k73 n = k19
    intro hk19 H
    refine ai_WP_steps mc_112 (sh_CM d) 3 (And.intro (fun c => ?_) (fun c => ?_))
    · replace H := sh_okT c H
      exact hk73 l1 l2 l3 l4 l6 l7 h H
    · replace H := sh_okF c H
      show wq_112 d Q 25 [oR 8 0, oI l1, oI l2, oI l3, oL l4, _, oI l6, oL l7, _, oI l9, _] [] (sh_E h)
      refine ai_WP_steps mc_112 (sh_CM d) 7 (And.intro (Nat.le_of_ble_eq_true rfl) (x_Math_max (Nat.le_trans (Nat.le_of_ble_eq_true rfl) hd) (0 : Int32) ((l1 + l9) - l6) h (sh_okB H) (fun v1 H => ?_)))
      show wq_112 d Q 36 [oR 8 0, oI l1, oI l2, oI l3, oL l4, _, oI l6, oL l7, _, oI l9, _] [aI v1] (sh_E h)
      refine ai_WP_steps mc_112 (sh_CM d) 16 (And.intro (Nat.le_of_ble_eq_true rfl) (x_Math_max (Nat.le_trans (Nat.le_of_ble_eq_true rfl) hd) (0 : Int32) ((l6 - l1) - l9) h (sh_okB H) (fun v2 H => ?_)))
      show wq_112 d Q 60 [oR 8 0, oI l1, oI l2, oI l3, oL l4, _, oI l6, oL l7, _, oI l9, oI v1] [aI v2, aR 8 0, aL ((v1 * l3).toInt64 * l4), aL l7] (sh_E h)
      refine ai_WP_steps mc_112 (sh_CM d) 1 (And.intro (Nat.le_of_ble_eq_true rfl) (x_Stocks_cost (Nat.le_trans (Nat.le_of_ble_eq_true rfl) hd) v2 h (sh_okB H) (fun v3 H => ?_)))
      show wq_112 d Q 63 [oR 8 0, oI l1, oI l2, oI l3, oL l4, _, oI l6, oL l7, _, oI l9, oI v1] [aL v3, aL ((v1 * l3).toInt64 * l4), aL l7] (sh_E h)
      refine ai_WP_steps mc_112 (sh_CM d) 5 ?_
      exact hk19 l1 l2 l3 l4 l6 (l7 + (((v1 * l3).toInt64 * l4) + v3)) (l9 + (1 : Int32)) h H
def f_Stocks_takeWanted_b73 (N : Nat)  (k3 : Int32 → Int32 → Int32 → Int64 → Int32 → sh_H → Option sh_H) (l1 : Int32) (l2 : Int32) (l3 : Int32) (l4 : Int64) (l6 : Int32) (l7 : Int64) (h : sh_H) : Option sh_H := (if ai_in l6 61 then (sh_let (sh_pJ h 14 4 l6.toNatClampNeg l7) (fun h4 => k3 l1 l2 l3 l4 (l6 + (1 : Int32)) h4)) else none)
theorem x_Stocks_takeWanted_b73 (N : Nat) {d : Nat} (hd : 1 ≤ d) {Q : ai_Q} {R : sh_H → Prop} (hR : ∀ h, R h → Q none (sh_E h))  (k3 : Int32 → Int32 → Int32 → Int64 → Int32 → sh_H → Option sh_H) (hk3 : ∀ (l1 : Int32) (l2 : Int32) (l3 : Int32) (l4 : Int64) (l6 : Int32) {d5 d7 d8 d9 d10 : Option ai_V} (h : sh_H), sh_ok (k3 l1 l2 l3 l4 l6 h) R → wq_112 d Q 3 [oR 8 0, oI l1, oI l2, oI l3, oL l4, d5, oI l6, d7, d8, d9, d10] [] (sh_E h)) (l1 : Int32) (l2 : Int32) (l3 : Int32) (l4 : Int64) (l6 : Int32) (l7 : Int64) {d5 d8 d9 d10 : Option ai_V} (h : sh_H) (H : sh_ok (f_Stocks_takeWanted_b73 N k3 l1 l2 l3 l4 l6 l7 h) R) : wq_112 d Q 73 [oR 8 0, oI l1, oI l2, oI l3, oL l4, d5, oI l6, oL l7, d8, d9, d10] [] (sh_E h) := by
  have c := sh_okG H
  replace H := sh_okH H
  refine ai_WP_steps mc_112 (sh_CM d) 5 (And.intro c ?_)
  show wq_112 d Q 82 [oR 8 0, oI l1, oI l2, oI l3, oL l4, _, oI l6, oL l7, _, _, _] [] (sh_E (sh_pJ h 14 4 l6.toNatClampNeg l7))
  replace H := sh_okL H
  generalize sh_pJ h 14 4 l6.toNatClampNeg l7 = h4 at H ⊢
  refine ai_WP_steps mc_112 (sh_CM d) 2 ?_
  exact hk3 l1 l2 l3 l4 (l6 + (1 : Int32)) h4 H
def f_Stocks_takeWanted_c3 (N : Nat)   (k3 : Int32 → Int32 → Int32 → Int64 → Int32 → sh_H → Option sh_H) (l1 : Int32) (l2 : Int32) (l3 : Int32) (l4 : Int64) (l6 : Int32) (h : sh_H) : Option sh_H := (if l6 < (Int32.ofNat 61) then f_Stocks_takeWanted_l19 N (f_Stocks_takeWanted_b73 N k3) N l1 l2 l3 l4 l6 (0 : Int64) (0 : Int32) h else (some h))
def f_Stocks_takeWanted_l3 (N : Nat)   (n : Nat) : Int32 → Int32 → Int32 → Int64 → Int32 → sh_H → Option sh_H := Nat.rec (motive := fun _ => Int32 → Int32 → Int32 → Int64 → Int32 → sh_H → Option sh_H) (fun _ _ _ _ _ _ => none) (fun _ k3 => f_Stocks_takeWanted_c3 N k3) n
theorem x_Stocks_takeWanted_l3 (N : Nat) {d : Nat} (hd : 1 ≤ d) {Q : ai_Q} {R : sh_H → Prop} (hR : ∀ h, R h → Q none (sh_E h))   (n : Nat) : ∀ (l1 : Int32) (l2 : Int32) (l3 : Int32) (l4 : Int64) (l6 : Int32) {d5 d7 d8 d9 d10 : Option ai_V} (h : sh_H), sh_ok (f_Stocks_takeWanted_l3 N n l1 l2 l3 l4 l6 h) R → wq_112 d Q 3 [oR 8 0, oI l1, oI l2, oI l3, oL l4, d5, oI l6, d7, d8, d9, d10] [] (sh_E h) := by
  induction n with
  | zero => intro l1 l2 l3 l4 l6 d5 d7 d8 d9 d10 h H; exact H.elim
  | succ n ih =>
    intro l1 l2 l3 l4 l6 d5 d7 d8 d9 d10 h H
    have hk3 := @ih
    replace H : sh_ok (f_Stocks_takeWanted_c3 N (f_Stocks_takeWanted_l3 N n) l1 l2 l3 l4 l6 h) R := H
    revert hk3 H
    generalize f_Stocks_takeWanted_l3 N n = k3
    intro hk3 H
    refine ai_WP_steps mc_112 (sh_CM d) 5 (And.intro (fun c => ?_) (fun c => ?_))
    · replace H := sh_okT c H
      show wq_112 d Q 13 [oR 8 0, oI l1, oI l2, oI l3, oL l4, _, oI l6, _, _, _, _] [] (sh_E h)
      refine ai_WP_steps mc_112 (sh_CM d) 4 ?_
      exact x_Stocks_takeWanted_l19 N hd hR (f_Stocks_takeWanted_b73 N k3) (fun z0 z1 z2 z3 z4 z5 {e5} {e8} {e9} {e10} h H => x_Stocks_takeWanted_b73 N hd hR k3 hk3 z0 z1 z2 z3 z4 z5 h H) N l1 l2 l3 l4 l6 (0 : Int64) (0 : Int32) h H
    · replace H := sh_okF c H
      show wq_112 d Q 88 [oR 8 0, oI l1, oI l2, oI l3, oL l4, _, oI l6, _, _, _, _] [] (sh_E h)
      exact ai_WP_steps mc_112 (sh_CM d) 1 (hR h H)
def f_Stocks_takeWanted (N : Nat)  (l1 : Int32) (l2 : Int32) (l3 : Int32) (l4 : Int64) (h : sh_H) : Option sh_H := f_Stocks_takeWanted_l3 N N l1 l2 l3 l4 (0 : Int32) h
theorem x_Stocks_takeWanted (N : Nat) {d : Nat} (hd : 2 ≤ d) (l1 : Int32) (l2 : Int32) (l3 : Int32) (l4 : Int64) (h : sh_H) {Q : ai_Q} {R : sh_H → Prop} (H : sh_ok (f_Stocks_takeWanted N l1 l2 l3 l4 h) R) (hR : ∀ h, R h → Q none (sh_E h)) : ai_Ex sh_T d 112 [aR 8 0, aI l1, aI l2, aI l3, aL l4] (sh_E h) Q := by
  obtain ⟨d, rfl⟩ : ∃ e, d = e + 1 := ⟨d - 1, by omega⟩
  replace hd : 1 ≤ d := by omega
  refine And.intro (Nat.le_of_ble_eq_true rfl) ?_
  show wq_112 d Q 0 [oR 8 0, oI l1, oI l2, oI l3, oL l4, none, none, none, none, none, none] [] (sh_E h)
  refine ai_WP_steps mc_112 (sh_CM d) 2 ?_
  exact x_Stocks_takeWanted_l3 N hd hR N l1 l2 l3 l4 (0 : Int32) h H
