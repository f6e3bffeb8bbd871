/-! shallow functions, written by program -/
def f_M_layFewest_b39 (N : Nat)  (k13 : Int32 → Int32 → Int32 → Int32 → sh_H → Option sh_H) (l1 : Int32) (l2 : Int32) (l3 : Int32) (l4 : Int32) (s0 : Nat) (s1 : Int32) (s2 : Int32) (h : sh_H) : Option sh_H := (if ai_in s1 (sh_l13 s0) then (sh_let (sh_pI h 13 s0 s1.toNatClampNeg s2) (fun h1 => k13 l1 l2 l3 (l4 + (1 : Int32)) h1)) else none)
theorem x_M_layFewest_b39 (N : Nat) {d : Nat} (hd : 2 ≤ d) {Q : ai_Q} {R : sh_H → Prop} (hR : ∀ h, R h → Q none (sh_E h))  (k13 : Int32 → Int32 → Int32 → Int32 → sh_H → Option sh_H) (hk13 : ∀ (l1 : Int32) (l2 : Int32) (l3 : Int32) (l4 : Int32) (h : sh_H), sh_ok (k13 l1 l2 l3 l4 h) R → wq_292 d Q 13 [oR 12 0, oI l1, oI l2, oI l3, oI l4] [] (sh_E h)) (l1 : Int32) (l2 : Int32) (l3 : Int32) (l4 : Int32) (s0 : Nat) (s1 : Int32) (s2 : Int32) (h : sh_H) (H : sh_ok (f_M_layFewest_b39 N k13 l1 l2 l3 l4 s0 s1 s2 h) R) : wq_292 d Q 39 [oR 12 0, oI l1, oI l2, oI l3, oI l4] [aI s2, aI s1, aR 13 s0] (sh_E h) := by
  have c := sh_okG H
  replace H := sh_okH H
  refine ai_WP_steps mc_292 (sh_CM d) 1 (And.intro c ?_)
  show wq_292 d Q 40 [oR 12 0, oI l1, oI l2, oI l3, oI l4] [] (sh_E (sh_pI h 13 s0 s1.toNatClampNeg s2))
  replace H := sh_okL H
  generalize sh_pI h 13 s0 s1.toNatClampNeg s2 = h1 at H ⊢
  refine ai_WP_steps mc_292 (sh_CM d) 2 ?_
  exact hk13 l1 l2 l3 (l4 + (1 : Int32)) h1 H
def f_M_layFewest_c13 (N : Nat)  (k46 : Int32 → Int32 → sh_H → Option sh_H) (k13 : Int32 → Int32 → Int32 → Int32 → sh_H → Option sh_H) (l1 : Int32) (l2 : Int32) (l3 : Int32) (l4 : Int32) (h : sh_H) : Option sh_H := (if l2 < l4 then k46 l1 l2 h else (if l4 = 0 then f_M_layFewest_b39 N k13 l1 l2 l3 l4 55 (l3 + l4) (0 : Int32) h else f_M_layFewest_b39 N k13 l1 l2 l3 l4 55 (l3 + l4) (1000000 : Int32) h))
def f_M_layFewest_l13 (N : Nat)  (k46 : Int32 → Int32 → sh_H → Option sh_H) (n : Nat) : Int32 → Int32 → Int32 → Int32 → sh_H → Option sh_H := Nat.rec (motive := fun _ => Int32 → Int32 → Int32 → Int32 → sh_H → Option sh_H) (fun _ _ _ _ _ => none) (fun _ k13 => f_M_layFewest_c13 N k46 k13) n
theorem x_M_layFewest_l13 (N : Nat) {d : Nat} (hd : 2 ≤ d) {Q : ai_Q} {R : sh_H → Prop} (hR : ∀ h, R h → Q none (sh_E h))  (k46 : Int32 → Int32 → sh_H → Option sh_H) (hk46 : ∀ (l1 : Int32) (l2 : Int32) {d3 d4 : Option ai_V} (h : sh_H), sh_ok (k46 l1 l2 h) R → wq_292 d Q 46 [oR 12 0, oI l1, oI l2, d3, d4] [] (sh_E h)) (n : Nat) : ∀ (l1 : Int32) (l2 : Int32) (l3 : Int32) (l4 : Int32) (h : sh_H), sh_ok (f_M_layFewest_l13 N k46 n l1 l2 l3 l4 h) R → wq_292 d Q 13 [oR 12 0, oI l1, oI l2, oI l3, oI l4] [] (sh_E h) := by
  induction n with
  | zero => intro l1 l2 l3 l4 h H; exact H.elim
  | succ n ih =>
    intro l1 l2 l3 l4 h H
    have hk13 := @ih
    replace H : sh_ok (f_M_layFewest_c13 N k46 (f_M_layFewest_l13 N k46 n) l1 l2 l3 l4 h) R := H
    revert hk13 H
    generalize f_M_layFewest_l13 N k46 n = k13
    intro hk13 H
    refine ai_WP_steps mc_292 (sh_CM d) 3 (And.intro (fun c => ?_) (fun c => ?_))
    · replace H := sh_okT c H
      exact hk46 l1 l2 h H
    · replace H := sh_okF c H
      show wq_292 d Q 19 [oR 12 0, oI l1, oI l2, oI l3, oI l4] [] (sh_E h)
      refine ai_WP_steps mc_292 (sh_CM d) 7 (And.intro (fun c => ?_) (fun c => ?_))
      · replace H := sh_okT c H
        show wq_292 d Q 32 [oR 12 0, oI l1, oI l2, oI l3, oI l4] [aI (l3 + l4), aR 13 55] (sh_E h)
        refine ai_WP_steps mc_292 (sh_CM d) 2 ?_
        exact x_M_layFewest_b39 N hd hR k13 hk13 l1 l2 l3 l4 55 (l3 + l4) (0 : Int32) h H
      · replace H := sh_okF c H
        show wq_292 d Q 36 [oR 12 0, oI l1, oI l2, oI l3, oI l4] [aI (l3 + l4), aR 13 55] (sh_E h)
        refine ai_WP_steps mc_292 (sh_CM d) 1 ?_
        exact x_M_layFewest_b39 N hd hR k13 hk13 l1 l2 l3 l4 55 (l3 + l4) (1000000 : Int32) h H
def f_M_layFewest_c49 (N : Nat)   (k49 : Int32 → Int32 → Int32 → sh_H → Option sh_H) (l1 : Int32) (l2 : Int32) (l4 : Int32) (h : sh_H) : Option sh_H := (if l4 < 0 then (some h) else (Option.bind (f_M_layKind N l1 l4 l2 h) (fun h2 => k49 l1 l2 (l4 + (-1 : Int32)) h2)))
def f_M_layFewest_l49 (N : Nat)   (n : Nat) : Int32 → Int32 → Int32 → sh_H → Option sh_H := Nat.rec (motive := fun _ => Int32 → Int32 → Int32 → sh_H → Option sh_H) (fun _ _ _ _ => none) (fun _ k49 => f_M_layFewest_c49 N k49) n
theorem x_M_layFewest_l49 (N : Nat) {d : Nat} (hd : 2 ≤ d) {Q : ai_Q} {R : sh_H → Prop} (hR : ∀ h, R h → Q none (sh_E h))   (n : Nat) : ∀ (l1 : Int32) (l2 : Int32) (l4 : Int32) {d3 : Option ai_V} (h : sh_H), sh_ok (f_M_layFewest_l49 N n l1 l2 l4 h) R → wq_292 d Q 49 [oR 12 0, oI l1, oI l2, d3, oI l4] [] (sh_E h) := by
  induction n with
  | zero => intro l1 l2 l4 d3 h H; exact H.elim
  | succ n ih =>
    intro l1 l2 l4 d3 h H
    have hk49 := @ih
    replace H : sh_ok (f_M_layFewest_c49 N (f_M_layFewest_l49 N n) l1 l2 l4 h) R := H
    revert hk49 H
    generalize f_M_layFewest_l49 N n = k49
    intro hk49 H
    refine ai_WP_steps mc_292 (sh_CM d) 2 (And.intro (fun c => ?_) (fun c => ?_))
    · replace H := sh_okT c H
      show wq_292 d Q 68 [oR 12 0, oI l1, oI l2, _, oI l4] [] (sh_E h)
      exact ai_WP_steps mc_292 (sh_CM d) 1 (hR h H)
    · replace H := sh_okF c H
      show wq_292 d Q 54 [oR 12 0, oI l1, oI l2, _, oI l4] [] (sh_E h)
      refine ai_WP_steps mc_292 (sh_CM d) 5 (And.intro (Nat.le_of_ble_eq_true rfl) (x_M_layKind N (Nat.le_trans (Nat.le_of_ble_eq_true rfl) hd) l1 l4 l2 h (sh_okB H) (fun h2 H => ?_)))
      show wq_292 d Q 62 [oR 12 0, oI l1, oI l2, _, oI l4] [] (sh_E h2)
      refine ai_WP_steps mc_292 (sh_CM d) 2 ?_
      exact hk49 l1 l2 (l4 + (-1 : Int32)) h2 H
def f_M_layFewest_b46 (N : Nat)   (l1 : Int32) (l2 : Int32) (h : sh_H) : Option sh_H := f_M_layFewest_l49 N N l1 l2 (5 : Int32) h
theorem x_M_layFewest_b46 (N : Nat) {d : Nat} (hd : 2 ≤ d) {Q : ai_Q} {R : sh_H → Prop} (hR : ∀ h, R h → Q none (sh_E h))   (l1 : Int32) (l2 : Int32) {d3 d4 : Option ai_V} (h : sh_H) (H : sh_ok (f_M_layFewest_b46 N l1 l2 h) R) : wq_292 d Q 46 [oR 12 0, oI l1, oI l2, d3, d4] [] (sh_E h) := by
  refine ai_WP_steps mc_292 (sh_CM d) 2 ?_
  exact x_M_layFewest_l49 N hd hR N l1 l2 (5 : Int32) h H
def f_M_layFewest (N : Nat)  (l1 : Int32) (l2 : Int32) (h : sh_H) : Option sh_H := f_M_layFewest_l13 N (f_M_layFewest_b46 N) N l1 l2 (((28007 : Int32) * l1) + (24006 : Int32)) (0 : Int32) h
theorem x_M_layFewest (N : Nat) {d : Nat} (hd : 3 ≤ d) (l1 : Int32) (l2 : Int32) (h : sh_H) {Q : ai_Q} {R : sh_H → Prop} (H : sh_ok (f_M_layFewest N l1 l2 h) R) (hR : ∀ h, R h → Q none (sh_E h)) : ai_Ex sh_T d 292 [aR 12 0, aI l1, aI l2] (sh_E h) Q := by
  obtain ⟨d, rfl⟩ : ∃ e, d = e + 1 := ⟨d - 1, by omega⟩
  replace hd : 2 ≤ d := by omega
  refine And.intro (Nat.le_of_ble_eq_true rfl) ?_
  show wq_292 d Q 0 [oR 12 0, oI l1, oI l2, none, none] [] (sh_E h)
  refine ai_WP_steps mc_292 (sh_CM d) 8 ?_
  exact x_M_layFewest_l13 N hd hR (f_M_layFewest_b46 N) (fun z0 z1 {e3} {e4} h H => x_M_layFewest_b46 N hd hR z0 z1 h H) N l1 l2 (((28007 : Int32) * l1) + (24006 : Int32)) (0 : Int32) h H
def f_M_fewestOf  (l1 : Int32) (l2 : Int32) (h : sh_H) : Option Int32 := (if ai_in (((28007 : Int32) * l1) + l2) 56014 then (if (h.1 13 55 (((28007 : Int32) * l1) + l2).toNatClampNeg) < (1000000 : Int32) then (some (h.1 13 55 (((28007 : Int32) * l1) + l2).toNatClampNeg)) else (some (1000000 : Int32))) else none)
theorem x_M_fewestOf {d : Nat} (hd : 1 ≤ d) (l1 : Int32) (l2 : Int32) (h : sh_H) {Q : ai_Q} {R : Int32 → Prop} (H : sh_ok (f_M_fewestOf l1 l2 h) R) (hR : ∀ r, R r → Q (some (aI r)) (sh_E h)) : ai_Ex sh_T d 294 [aR 12 0, aI l1, aI l2] (sh_E h) Q := by
  obtain ⟨d, rfl⟩ : ∃ e, d = e + 1 := ⟨d - 1, by omega⟩
  replace hd : 0 ≤ d := by omega
  refine And.intro (Nat.le_of_ble_eq_true rfl) ?_
  show wq_294 d Q 0 [oR 12 0, oI l1, oI l2, none] [] (sh_E h)
  have c := sh_okG H
  replace H := sh_okH H
  refine ai_WP_steps mc_294 (sh_CM d) 8 (And.intro c ?_)
  show wq_294 d Q 12 [oR 12 0, oI l1, oI l2, _] [aI (h.1 13 55 (((28007 : Int32) * l1) + l2).toNatClampNeg)] (sh_E h)
  refine ai_WP_steps mc_294 (sh_CM d) 4 (And.intro (fun c => ?_) (fun c => ?_))
  · replace H := sh_okT c H
    show wq_294 d Q 26 [oR 12 0, oI l1, _, oI (h.1 13 55 (((28007 : Int32) * l1) + l2).toNatClampNeg)] [] (sh_E h)
    exact ai_WP_steps mc_294 (sh_CM d) 2 (hR (h.1 13 55 (((28007 : Int32) * l1) + l2).toNatClampNeg) H)
  · replace H := sh_okF c H
    show wq_294 d Q 20 [oR 12 0, oI l1, _, oI (h.1 13 55 (((28007 : Int32) * l1) + l2).toNatClampNeg)] [] (sh_E h)
    exact ai_WP_steps mc_294 (sh_CM d) 3 (hR (1000000 : Int32) H)
def f_M_paidOf_c77 (N : Nat)  (k137 : Int32 → Int32 → Int32 → Int32 → Int32 → Int32 → sh_H → Option Int32) (k77 : Int32 → Int32 → Int32 → Int32 → Int32 → Int32 → sh_H → Option Int32) (l1 : Int32) (l3 : Int32) (l4 : Int32) (l5 : Int32) (l6 : Int32) (l7 : Int32) (h : sh_H) : Option Int32 := (if ai_in (((((28007 : Int32) * l1) + ((4001 : Int32) * (l5 + (1 : Int32)))) + l4) - (l6 * l7)) 56014 then (if ai_in ((((28007 : Int32) * l1) + ((4001 : Int32) * l5)) + l4) 56014 then (if ((h.1 13 55 (((((28007 : Int32) * l1) + ((4001 : Int32) * (l5 + (1 : Int32)))) + l4) - (l6 * l7)).toNatClampNeg) + l6) = (h.1 13 55 ((((28007 : Int32) * l1) + ((4001 : Int32) * l5)) + l4).toNatClampNeg) then k137 l1 l3 l4 l5 l6 l7 h else k77 l1 l3 l4 l5 (l6 + (-1 : Int32)) l7 h) else none) else none)
def f_M_paidOf_l77 (N : Nat)  (k137 : Int32 → Int32 → Int32 → Int32 → Int32 → Int32 → sh_H → Option Int32) (n : Nat) : Int32 → Int32 → Int32 → Int32 → Int32 → Int32 → sh_H → Option Int32 := Nat.rec (motive := fun _ => Int32 → Int32 → Int32 → Int32 → Int32 → Int32 → sh_H → Option Int32) (fun _ _ _ _ _ _ _ => none) (fun _ k77 => f_M_paidOf_c77 N k137 k77) n
theorem x_M_paidOf_l77 (N : Nat) {d : Nat} (hd : 1 ≤ d) (h : sh_H) {Q : ai_Q} {R : Int32 → Prop} (hR : ∀ r, R r → Q (some (aI r)) (sh_E h))  (k137 : Int32 → Int32 → Int32 → Int32 → Int32 → Int32 → sh_H → Option Int32) (hk137 : ∀ (l1 : Int32) (l3 : Int32) (l4 : Int32) (l5 : Int32) (l6 : Int32) (l7 : Int32) {d2 : Option ai_V}, sh_ok (k137 l1 l3 l4 l5 l6 l7 h) R → wq_295 d Q 137 [oR 12 0, oI l1, d2, oI l3, oI l4, oI l5, oI l6, oI l7] [] (sh_E h)) (n : Nat) : ∀ (l1 : Int32) (l3 : Int32) (l4 : Int32) (l5 : Int32) (l6 : Int32) (l7 : Int32) {d2 : Option ai_V}, sh_ok (f_M_paidOf_l77 N k137 n l1 l3 l4 l5 l6 l7 h) R → wq_295 d Q 77 [oR 12 0, oI l1, d2, oI l3, oI l4, oI l5, oI l6, oI l7] [] (sh_E h) := by
  induction n with
  | zero => intro l1 l3 l4 l5 l6 l7 d2 H; exact H.elim
  | succ n ih =>
    intro l1 l3 l4 l5 l6 l7 d2 H
    have hk77 := @ih
    replace H : sh_ok (f_M_paidOf_c77 N k137 (f_M_paidOf_l77 N k137 n) l1 l3 l4 l5 l6 l7 h) R := H
    revert hk77 H
    generalize f_M_paidOf_l77 N k137 n = k77
    intro hk77 H
    have c := sh_okG H
    replace H := sh_okH H
    refine ai_WP_steps mc_295 (sh_CM d) 18 (And.intro c ?_)
    show wq_295 d Q 105 [oR 12 0, oI l1, _, oI l3, oI l4, oI l5, oI l6, oI l7] [aI (h.1 13 55 (((((28007 : Int32) * l1) + ((4001 : Int32) * (l5 + (1 : Int32)))) + l4) - (l6 * l7)).toNatClampNeg)] (sh_E h)
    have c := sh_okG H
    replace H := sh_okH H
    refine ai_WP_steps mc_295 (sh_CM d) 14 (And.intro c ?_)
    show wq_295 d Q 128 [oR 12 0, oI l1, _, oI l3, oI l4, oI l5, oI l6, oI l7] [aI (h.1 13 55 ((((28007 : Int32) * l1) + ((4001 : Int32) * l5)) + l4).toNatClampNeg), aI ((h.1 13 55 (((((28007 : Int32) * l1) + ((4001 : Int32) * (l5 + (1 : Int32)))) + l4) - (l6 * l7)).toNatClampNeg) + l6)] (sh_E h)
    refine ai_WP_steps mc_295 (sh_CM d) 1 (And.intro (fun c => ?_) (fun c => ?_))
    · replace H := sh_okT c H
      exact hk137 l1 l3 l4 l5 l6 l7 H
    · replace H := sh_okF c H
      show wq_295 d Q 131 [oR 12 0, oI l1, _, oI l3, oI l4, oI l5, oI l6, oI l7] [] (sh_E h)
      refine ai_WP_steps mc_295 (sh_CM d) 2 ?_
      exact hk77 l1 l3 l4 l5 (l6 + (-1 : Int32)) l7 H
def f_M_paidOf_b147 (N : Nat)  (k6 : Int32 → Int32 → Int32 → Int32 → sh_H → Option Int32) (l1 : Int32) (l3 : Int32) (l4 : Int32) (l5 : Int32) (l6 : Int32) (h : sh_H) : Option Int32 := (if l5 = l3 then (some l6) else k6 l1 l3 l4 (l5 + (1 : Int32)) h)
theorem x_M_paidOf_b147 (N : Nat) {d : Nat} (hd : 1 ≤ d) (h : sh_H) {Q : ai_Q} {R : Int32 → Prop} (hR : ∀ r, R r → Q (some (aI r)) (sh_E h))  (k6 : Int32 → Int32 → Int32 → Int32 → sh_H → Option Int32) (hk6 : ∀ (l1 : Int32) (l3 : Int32) (l4 : Int32) (l5 : Int32) {d2 d6 d7 : Option ai_V}, sh_ok (k6 l1 l3 l4 l5 h) R → wq_295 d Q 6 [oR 12 0, oI l1, d2, oI l3, oI l4, oI l5, d6, d7] [] (sh_E h)) (l1 : Int32) (l3 : Int32) (l4 : Int32) (l5 : Int32) (l6 : Int32) {d2 d7 : Option ai_V} (H : sh_ok (f_M_paidOf_b147 N k6 l1 l3 l4 l5 l6 h) R) : wq_295 d Q 147 [oR 12 0, oI l1, d2, oI l3, oI l4, oI l5, oI l6, d7] [] (sh_E h) := by
  refine ai_WP_steps mc_295 (sh_CM d) 3 (And.intro (fun c => ?_) (fun c => ?_))
  · replace H := sh_okT c H
    show wq_295 d Q 153 [oR 12 0, oI l1, _, oI l3, oI l4, oI l5, oI l6, _] [] (sh_E h)
    exact ai_WP_steps mc_295 (sh_CM d) 2 (hR l6 H)
  · replace H := sh_okF c H
    show wq_295 d Q 156 [oR 12 0, oI l1, _, oI l3, oI l4, oI l5, oI l6, _] [] (sh_E h)
    refine ai_WP_steps mc_295 (sh_CM d) 2 ?_
    exact hk6 l1 l3 l4 (l5 + (1 : Int32)) H
def f_M_paidOf_b137 (N : Nat)  (k6 : Int32 → Int32 → Int32 → Int32 → sh_H → Option Int32) (l1 : Int32) (l3 : Int32) (l4 : Int32) (l5 : Int32) (l6 : Int32) (l7 : Int32) (h : sh_H) : Option Int32 := f_M_paidOf_b147 N k6 l1 l3 (l4 - (l6 * l7)) l5 l6 h
theorem x_M_paidOf_b137 (N : Nat) {d : Nat} (hd : 1 ≤ d) (h : sh_H) {Q : ai_Q} {R : Int32 → Prop} (hR : ∀ r, R r → Q (some (aI r)) (sh_E h))  (k6 : Int32 → Int32 → Int32 → Int32 → sh_H → Option Int32) (hk6 : ∀ (l1 : Int32) (l3 : Int32) (l4 : Int32) (l5 : Int32) {d2 d6 d7 : Option ai_V}, sh_ok (k6 l1 l3 l4 l5 h) R → wq_295 d Q 6 [oR 12 0, oI l1, d2, oI l3, oI l4, oI l5, d6, d7] [] (sh_E h)) (l1 : Int32) (l3 : Int32) (l4 : Int32) (l5 : Int32) (l6 : Int32) (l7 : Int32) {d2 : Option ai_V} (H : sh_ok (f_M_paidOf_b137 N k6 l1 l3 l4 l5 l6 l7 h) R) : wq_295 d Q 137 [oR 12 0, oI l1, d2, oI l3, oI l4, oI l5, oI l6, oI l7] [] (sh_E h) := by
  refine ai_WP_steps mc_295 (sh_CM d) 6 ?_
  exact x_M_paidOf_b147 N hd h hR k6 hk6 l1 l3 (l4 - (l6 * l7)) l5 l6 H
def f_M_paidOf_b75 (N : Nat)  (k6 : Int32 → Int32 → Int32 → Int32 → sh_H → Option Int32) (l1 : Int32) (l3 : Int32) (l4 : Int32) (l5 : Int32) (l7 : Int32) (s0 : Int32) (h : sh_H) : Option Int32 := f_M_paidOf_l77 N (f_M_paidOf_b137 N k6) N l1 l3 l4 l5 s0 l7 h
theorem x_M_paidOf_b75 (N : Nat) {d : Nat} (hd : 1 ≤ d) (h : sh_H) {Q : ai_Q} {R : Int32 → Prop} (hR : ∀ r, R r → Q (some (aI r)) (sh_E h))  (k6 : Int32 → Int32 → Int32 → Int32 → sh_H → Option Int32) (hk6 : ∀ (l1 : Int32) (l3 : Int32) (l4 : Int32) (l5 : Int32) {d2 d6 d7 : Option ai_V}, sh_ok (k6 l1 l3 l4 l5 h) R → wq_295 d Q 6 [oR 12 0, oI l1, d2, oI l3, oI l4, oI l5, d6, d7] [] (sh_E h)) (l1 : Int32) (l3 : Int32) (l4 : Int32) (l5 : Int32) (l7 : Int32) (s0 : Int32) {d2 d6 : Option ai_V} (H : sh_ok (f_M_paidOf_b75 N k6 l1 l3 l4 l5 l7 s0 h) R) : wq_295 d Q 75 [oR 12 0, oI l1, d2, oI l3, oI l4, oI l5, d6, oI l7] [aI s0] (sh_E h) := by
  refine ai_WP_steps mc_295 (sh_CM d) 1 ?_
  exact x_M_paidOf_l77 N hd h hR (f_M_paidOf_b137 N k6) (fun z0 z1 z2 z3 z4 z5 {e2} H => x_M_paidOf_b137 N hd h hR k6 hk6 z0 z1 z2 z3 z4 z5 H) N l1 l3 l4 l5 s0 l7 H
def f_M_paidOf_c6 (N : Nat)   (k6 : Int32 → Int32 → Int32 → Int32 → sh_H → Option Int32) (l1 : Int32) (l3 : Int32) (l4 : Int32) (l5 : Int32) (h : sh_H) : Option Int32 := (if l5 < (6 : Int32) then (if ai_in (0 : Int32) 8000 then (if l5 < (h.1 13 46 (0 : Int32).toNatClampNeg) then (Option.bind (f_M_worth l5 h) (fun v1 => (if ¬ v1 = 0 then (if ai_in (((6 : Int32) * l1) + l5) 12 then (if (l4 / v1) < (h.1 13 54 (((6 : Int32) * l1) + l5).toNatClampNeg) then (if ¬ v1 = 0 then f_M_paidOf_b75 N k6 l1 l3 l4 l5 v1 (l4 / v1) h else none) else (if ai_in (((6 : Int32) * l1) + l5) 12 then f_M_paidOf_b75 N k6 l1 l3 l4 l5 v1 (h.1 13 54 (((6 : Int32) * l1) + l5).toNatClampNeg) h else none)) else none) else none))) else f_M_paidOf_b147 N k6 l1 l3 l4 l5 (0 : Int32) h) else none) else (some (0 : Int32)))
def f_M_paidOf_l6 (N : Nat)   (n : Nat) : Int32 → Int32 → Int32 → Int32 → sh_H → Option Int32 := Nat.rec (motive := fun _ => Int32 → Int32 → Int32 → Int32 → sh_H → Option Int32) (fun _ _ _ _ _ => none) (fun _ k6 => f_M_paidOf_c6 N k6) n
theorem x_M_paidOf_l6 (N : Nat) {d : Nat} (hd : 1 ≤ d) (h : sh_H) {Q : ai_Q} {R : Int32 → Prop} (hR : ∀ r, R r → Q (some (aI r)) (sh_E h))   (n : Nat) : ∀ (l1 : Int32) (l3 : Int32) (l4 : Int32) (l5 : Int32) {d2 d6 d7 : Option ai_V}, sh_ok (f_M_paidOf_l6 N n l1 l3 l4 l5 h) R → wq_295 d Q 6 [oR 12 0, oI l1, d2, oI l3, oI l4, oI l5, d6, d7] [] (sh_E h) := by
  induction n with
  | zero => intro l1 l3 l4 l5 d2 d6 d7 H; exact H.elim
  | succ n ih =>
    intro l1 l3 l4 l5 d2 d6 d7 H
    have hk6 := @ih
    replace H : sh_ok (f_M_paidOf_c6 N (f_M_paidOf_l6 N n) l1 l3 l4 l5 h) R := H
    revert hk6 H
    generalize f_M_paidOf_l6 N n = k6
    intro hk6 H
    refine ai_WP_steps mc_295 (sh_CM d) 3 (And.intro (fun c => ?_) (fun c => ?_))
    · replace H := sh_okT c H
      show wq_295 d Q 13 [oR 12 0, oI l1, _, oI l3, oI l4, oI l5, _, _] [] (sh_E h)
      have c := sh_okG H
      replace H := sh_okH H
      refine ai_WP_steps mc_295 (sh_CM d) 7 (And.intro c ?_)
      show wq_295 d Q 24 [oR 12 0, oI l1, _, oI l3, oI l4, oI l5, oI (0 : Int32), _] [aI (h.1 13 46 (0 : Int32).toNatClampNeg), aI l5] (sh_E h)
      refine ai_WP_steps mc_295 (sh_CM d) 1 (And.intro (fun c => ?_) (fun c => ?_))
      · replace H := sh_okT c H
        show wq_295 d Q 27 [oR 12 0, oI l1, _, oI l3, oI l4, oI l5, oI (0 : Int32), _] [] (sh_E h)
        refine ai_WP_steps mc_295 (sh_CM d) 3 (And.intro (Nat.le_of_ble_eq_true rfl) (x_M_worth (Nat.le_trans (Nat.le_of_ble_eq_true rfl) hd) l5 h (sh_okB H) (fun v1 H => ?_)))
        show wq_295 d Q 33 [oR 12 0, oI l1, _, oI l3, oI l4, oI l5, oI (0 : Int32), _] [aI v1] (sh_E h)
        have c := sh_okG H
        replace H := sh_okH H
        refine ai_WP_steps mc_295 (sh_CM d) 4 (And.intro c ?_)
        show wq_295 d Q 40 [oR 12 0, oI l1, _, oI l3, oI l4, oI l5, _, oI v1] [aI (l4 / v1)] (sh_E h)
        have c := sh_okG H
        replace H := sh_okH H
        refine ai_WP_steps mc_295 (sh_CM d) 8 (And.intro c ?_)
        show wq_295 d Q 52 [oR 12 0, oI l1, _, oI l3, oI l4, oI l5, _, oI v1] [aI (h.1 13 54 (((6 : Int32) * l1) + l5).toNatClampNeg), aI (l4 / v1)] (sh_E h)
        refine ai_WP_steps mc_295 (sh_CM d) 1 (And.intro (fun c => ?_) (fun c => ?_))
        · replace H := sh_okT c H
          show wq_295 d Q 55 [oR 12 0, oI l1, _, oI l3, oI l4, oI l5, _, oI v1] [] (sh_E h)
          have c := sh_okG H
          replace H := sh_okH H
          refine ai_WP_steps mc_295 (sh_CM d) 3 (And.intro c ?_)
          show wq_295 d Q 60 [oR 12 0, oI l1, _, oI l3, oI l4, oI l5, _, oI v1] [aI (l4 / v1)] (sh_E h)
          refine ai_WP_steps mc_295 (sh_CM d) 1 ?_
          exact x_M_paidOf_b75 N hd h hR k6 hk6 l1 l3 l4 l5 v1 (l4 / v1) H
        · replace H := sh_okF c H
          show wq_295 d Q 63 [oR 12 0, oI l1, _, oI l3, oI l4, oI l5, _, oI v1] [] (sh_E h)
          have c := sh_okG H
          replace H := sh_okH H
          refine ai_WP_steps mc_295 (sh_CM d) 8 (And.intro c ?_)
          show wq_295 d Q 75 [oR 12 0, oI l1, _, oI l3, oI l4, oI l5, _, oI v1] [aI (h.1 13 54 (((6 : Int32) * l1) + l5).toNatClampNeg)] (sh_E h)
          exact x_M_paidOf_b75 N hd h hR k6 hk6 l1 l3 l4 l5 v1 (h.1 13 54 (((6 : Int32) * l1) + l5).toNatClampNeg) H
      · replace H := sh_okF c H
        exact x_M_paidOf_b147 N hd h hR k6 hk6 l1 l3 l4 l5 (0 : Int32) H
    · replace H := sh_okF c H
      show wq_295 d Q 162 [oR 12 0, oI l1, _, oI l3, oI l4, oI l5, _, _] [] (sh_E h)
      exact ai_WP_steps mc_295 (sh_CM d) 2 (hR (0 : Int32) H)
def f_M_paidOf (N : Nat)  (l1 : Int32) (l2 : Int32) (l3 : Int32) (h : sh_H) : Option Int32 := f_M_paidOf_l6 N N l1 l3 l2 (0 : Int32) h
theorem x_M_paidOf (N : Nat) {d : Nat} (hd : 2 ≤ d) (l1 : Int32) (l2 : Int32) (l3 : Int32) (h : sh_H) {Q : ai_Q} {R : Int32 → Prop} (H : sh_ok (f_M_paidOf N l1 l2 l3 h) R) (hR : ∀ r, R r → Q (some (aI r)) (sh_E h)) : ai_Ex sh_T d 295 [aR 12 0, aI l1, aI l2, aI l3] (sh_E h) Q := by
  obtain ⟨d, rfl⟩ : ∃ e, d = e + 1 := ⟨d - 1, by omega⟩
  replace hd : 1 ≤ d := by omega
  refine And.intro (Nat.le_of_ble_eq_true rfl) ?_
  show wq_295 d Q 0 [oR 12 0, oI l1, oI l2, oI l3, none, none, none, none] [] (sh_E h)
  refine ai_WP_steps mc_295 (sh_CM d) 4 ?_
  exact x_M_paidOf_l6 N hd h hR N l1 l3 l2 (0 : Int32) H
def f_M_pay_c39 (N : Nat)  (k66 : Int32 → Int32 → sh_H → Option (Int32 × sh_H)) (k39 : Int32 → Int32 → Int32 → Int32 → sh_H → Option (Int32 × sh_H)) (l1 : Int32) (l2 : Int32) (l3 : Int32) (l4 : Int32) (h : sh_H) : Option (Int32 × sh_H) := (if l4 < (6 : Int32) then (Option.bind (f_M_all N l1 l4 h) (fun v1 => (if ai_in l4 12 then (sh_let (sh_pI h 13 54 l4.toNatClampNeg v1) (fun h2 => k39 l1 l2 l3 (l4 + (1 : Int32)) h2)) else none))) else k66 l2 l3 h)
def f_M_pay_l39 (N : Nat)  (k66 : Int32 → Int32 → sh_H → Option (Int32 × sh_H)) (n : Nat) : Int32 → Int32 → Int32 → Int32 → sh_H → Option (Int32 × sh_H) := Nat.rec (motive := fun _ => Int32 → Int32 → Int32 → Int32 → sh_H → Option (Int32 × sh_H)) (fun _ _ _ _ _ => none) (fun _ k39 => f_M_pay_c39 N k66 k39) n
theorem x_M_pay_l39 (N : Nat) {d : Nat} (hd : 3 ≤ d) {Q : ai_Q} {R : Int32 × sh_H → Prop} (hR : ∀ r h, R (r, h) → Q (some (aI r)) (sh_E h))  (k66 : Int32 → Int32 → sh_H → Option (Int32 × sh_H)) (hk66 : ∀ (l2 : Int32) (l3 : Int32) {d1 d4 : Option ai_V} (h : sh_H), sh_ok (k66 l2 l3 h) R → wq_296 d Q 66 [oR 12 0, d1, oI l2, oI l3, d4] [] (sh_E h)) (n : Nat) : ∀ (l1 : Int32) (l2 : Int32) (l3 : Int32) (l4 : Int32) (h : sh_H), sh_ok (f_M_pay_l39 N k66 n l1 l2 l3 l4 h) R → wq_296 d Q 39 [oR 12 0, oI l1, oI l2, oI l3, oI l4] [] (sh_E h) := by
  induction n with
  | zero => intro l1 l2 l3 l4 h H; exact H.elim
  | succ n ih =>
    intro l1 l2 l3 l4 h H
    have hk39 := @ih
    replace H : sh_ok (f_M_pay_c39 N k66 (f_M_pay_l39 N k66 n) l1 l2 l3 l4 h) R := H
    revert hk39 H
    generalize f_M_pay_l39 N k66 n = k39
    intro hk39 H
    refine ai_WP_steps mc_296 (sh_CM d) 3 (And.intro (fun c => ?_) (fun c => ?_))
    · replace H := sh_okT c H
      show wq_296 d Q 46 [oR 12 0, oI l1, oI l2, oI l3, oI l4] [] (sh_E h)
      refine ai_WP_steps mc_296 (sh_CM d) 7 (And.intro (Nat.le_of_ble_eq_true rfl) (x_M_all N (Nat.le_trans (Nat.le_of_ble_eq_true rfl) hd) l1 l4 h (sh_okB H) (fun v1 H => ?_)))
      show wq_296 d Q 59 [oR 12 0, oI l1, oI l2, oI l3, oI l4] [aI v1, aI l4, aR 13 54] (sh_E h)
      have c := sh_okG H
      replace H := sh_okH H
      refine ai_WP_steps mc_296 (sh_CM d) 1 (And.intro c ?_)
      show wq_296 d Q 60 [oR 12 0, oI l1, oI l2, oI l3, oI l4] [] (sh_E (sh_pI h 13 54 l4.toNatClampNeg v1))
      replace H := sh_okL H
      generalize sh_pI h 13 54 l4.toNatClampNeg v1 = h2 at H ⊢
      refine ai_WP_steps mc_296 (sh_CM d) 2 ?_
      exact hk39 l1 l2 l3 (l4 + (1 : Int32)) h2 H
    · replace H := sh_okF c H
      exact hk66 l2 l3 h H
def f_M_pay_b66 (N : Nat)   (l2 : Int32) (l3 : Int32) (h : sh_H) : Option (Int32 × sh_H) := (Option.bind (f_M_layFewest N (0 : Int32) l2 h) (fun h3 => (Option.bind (f_M_fewestOf (0 : Int32) l2 h3) (fun v4 => (if v4 < (1000000 : Int32) then (if l3 = 0 then (Option.bind (f_M_fewestOf (0 : Int32) l2 h3) (fun v5 => (some (v5, h3)))) else (Option.bind (f_M_paidOf N (0 : Int32) l2 (l3 - (10 : Int32)) h3) (fun v6 => (some (v6, h3))))) else (some ((-2 : Int32), h3)))))))
theorem x_M_pay_b66 (N : Nat) {d : Nat} (hd : 3 ≤ d) {Q : ai_Q} {R : Int32 × sh_H → Prop} (hR : ∀ r h, R (r, h) → Q (some (aI r)) (sh_E h))   (l2 : Int32) (l3 : Int32) {d1 d4 : Option ai_V} (h : sh_H) (H : sh_ok (f_M_pay_b66 N l2 l3 h) R) : wq_296 d Q 66 [oR 12 0, d1, oI l2, oI l3, d4] [] (sh_E h) := by
  refine ai_WP_steps mc_296 (sh_CM d) 4 (And.intro (Nat.le_of_ble_eq_true rfl) (x_M_layFewest N (Nat.le_trans (Nat.le_of_ble_eq_true rfl) hd) (0 : Int32) l2 h (sh_okB H) (fun h3 H => ?_)))
  show wq_296 d Q 72 [oR 12 0, _, oI l2, oI l3, _] [] (sh_E h3)
  refine ai_WP_steps mc_296 (sh_CM d) 4 (And.intro (Nat.le_of_ble_eq_true rfl) (x_M_fewestOf (Nat.le_trans (Nat.le_of_ble_eq_true rfl) hd) (0 : Int32) l2 h3 (sh_okB H) (fun v4 H => ?_)))
  show wq_296 d Q 78 [oR 12 0, _, oI l2, oI l3, _] [aI v4] (sh_E h3)
  refine ai_WP_steps mc_296 (sh_CM d) 2 (And.intro (fun c => ?_) (fun c => ?_))
  · replace H := sh_okT c H
    show wq_296 d Q 87 [oR 12 0, _, oI l2, oI l3, _] [] (sh_E h3)
    refine ai_WP_steps mc_296 (sh_CM d) 2 (And.intro (fun c => ?_) (fun c => ?_))
    · replace H := sh_okT c H
      show wq_296 d Q 91 [oR 12 0, _, oI l2, oI l3, _] [] (sh_E h3)
      refine ai_WP_steps mc_296 (sh_CM d) 4 (And.intro (Nat.le_of_ble_eq_true rfl) (x_M_fewestOf (Nat.le_trans (Nat.le_of_ble_eq_true rfl) hd) (0 : Int32) l2 h3 (sh_okB H) (fun v5 H => ?_)))
      show wq_296 d Q 97 [oR 12 0, _, oI l2, oI l3, _] [aI v5] (sh_E h3)
      exact ai_WP_steps mc_296 (sh_CM d) 2 (hR v5 h3 H)
    · replace H := sh_okF c H
      show wq_296 d Q 100 [oR 12 0, _, oI l2, oI l3, _] [] (sh_E h3)
      refine ai_WP_steps mc_296 (sh_CM d) 7 (And.intro (Nat.le_of_ble_eq_true rfl) (x_M_paidOf N (Nat.le_trans (Nat.le_of_ble_eq_true rfl) hd) (0 : Int32) l2 (l3 - (10 : Int32)) h3 (sh_okB H) (fun v6 H => ?_)))
      show wq_296 d Q 110 [oR 12 0, _, oI l2, oI l3, _] [aI v6] (sh_E h3)
      exact ai_WP_steps mc_296 (sh_CM d) 1 (hR v6 h3 H)
  · replace H := sh_okF c H
    show wq_296 d Q 84 [oR 12 0, _, oI l2, oI l3, _] [] (sh_E h3)
    exact ai_WP_steps mc_296 (sh_CM d) 2 (hR (-2 : Int32) h3 H)
def f_M_pay_b36 (N : Nat)   (l1 : Int32) (l2 : Int32) (l3 : Int32) (h : sh_H) : Option (Int32 × sh_H) := f_M_pay_l39 N (f_M_pay_b66 N) N l1 l2 l3 (0 : Int32) h
theorem x_M_pay_b36 (N : Nat) {d : Nat} (hd : 3 ≤ d) {Q : ai_Q} {R : Int32 × sh_H → Prop} (hR : ∀ r h, R (r, h) → Q (some (aI r)) (sh_E h))   (l1 : Int32) (l2 : Int32) (l3 : Int32) {d4 : Option ai_V} (h : sh_H) (H : sh_ok (f_M_pay_b36 N l1 l2 l3 h) R) : wq_296 d Q 36 [oR 12 0, oI l1, oI l2, oI l3, d4] [] (sh_E h) := by
  refine ai_WP_steps mc_296 (sh_CM d) 2 ?_
  exact x_M_pay_l39 N hd hR (f_M_pay_b66 N) (fun z0 z1 {e1} {e4} h H => x_M_pay_b66 N hd hR z0 z1 h H) N l1 l2 l3 (0 : Int32) h H
def f_M_pay (N : Nat)  (l1 : Int32) (l2 : Int32) (l3 : Int32) (h : sh_H) : Option (Int32 × sh_H) := (Option.bind (f_M_isPlace l1 h) (fun v7 => (if v7 = 0 then (some ((-1 : Int32), h)) else (Option.bind (f_M_isIn l2 (1 : Int32) (2000 : Int32) h) (fun v8 => (if v8 = 0 then (some ((-1 : Int32), h)) else (if l3 = 0 then f_M_pay_b36 N l1 l2 l3 h else (Option.bind (f_M_isKind (l3 - (10 : Int32)) h) (fun v9 => (if v9 = 0 then (some ((-1 : Int32), h)) else f_M_pay_b36 N l1 l2 l3 h))))))))))
theorem x_M_pay (N : Nat) {d : Nat} (hd : 4 ≤ d) (l1 : Int32) (l2 : Int32) (l3 : Int32) (h : sh_H) {Q : ai_Q} {R : Int32 × sh_H → Prop} (H : sh_ok (f_M_pay N l1 l2 l3 h) R) (hR : ∀ r h, R (r, h) → Q (some (aI r)) (sh_E h)) : ai_Ex sh_T d 296 [aR 12 0, aI l1, aI l2, aI l3] (sh_E h) Q := by
  obtain ⟨d, rfl⟩ : ∃ e, d = e + 1 := ⟨d - 1, by omega⟩
  replace hd : 3 ≤ d := by omega
  refine And.intro (Nat.le_of_ble_eq_true rfl) ?_
  show wq_296 d Q 0 [oR 12 0, oI l1, oI l2, oI l3, none] [] (sh_E h)
  refine ai_WP_steps mc_296 (sh_CM d) 3 (And.intro (Nat.le_of_ble_eq_true rfl) (x_M_isPlace (Nat.le_trans (Nat.le_of_ble_eq_true rfl) hd) l1 h (sh_okB H) (fun v7 H => ?_)))
  show wq_296 d Q 5 [oR 12 0, oI l1, oI l2, oI l3, _] [aI v7] (sh_E h)
  refine ai_WP_steps mc_296 (sh_CM d) 1 (And.intro (fun c => ?_) (fun c => ?_))
  · replace H := sh_okT c H
    show wq_296 d Q 34 [oR 12 0, oI l1, oI l2, oI l3, _] [] (sh_E h)
    exact ai_WP_steps mc_296 (sh_CM d) 2 (hR (-1 : Int32) h H)
  · replace H := sh_okF c H
    show wq_296 d Q 8 [oR 12 0, oI l1, oI l2, oI l3, _] [] (sh_E h)
    refine ai_WP_steps mc_296 (sh_CM d) 4 (And.intro (Nat.le_of_ble_eq_true rfl) (x_M_isIn (Nat.le_trans (Nat.le_of_ble_eq_true rfl) hd) l2 (1 : Int32) (2000 : Int32) h (sh_okB H) (fun v8 H => ?_)))
    show wq_296 d Q 16 [oR 12 0, oI l1, oI l2, oI l3, _] [aI v8] (sh_E h)
    refine ai_WP_steps mc_296 (sh_CM d) 1 (And.intro (fun c => ?_) (fun c => ?_))
    · replace H := sh_okT c H
      show wq_296 d Q 34 [oR 12 0, oI l1, oI l2, oI l3, _] [] (sh_E h)
      exact ai_WP_steps mc_296 (sh_CM d) 2 (hR (-1 : Int32) h H)
    · replace H := sh_okF c H
      show wq_296 d Q 19 [oR 12 0, oI l1, oI l2, oI l3, _] [] (sh_E h)
      refine ai_WP_steps mc_296 (sh_CM d) 2 (And.intro (fun c => ?_) (fun c => ?_))
      · replace H := sh_okT c H
        exact x_M_pay_b36 N hd hR l1 l2 l3 h H
      · replace H := sh_okF c H
        show wq_296 d Q 23 [oR 12 0, oI l1, oI l2, oI l3, _] [] (sh_E h)
        refine ai_WP_steps mc_296 (sh_CM d) 5 (And.intro (Nat.le_of_ble_eq_true rfl) (x_M_isKind (Nat.le_trans (Nat.le_of_ble_eq_true rfl) hd) (l3 - (10 : Int32)) h (sh_okB H) (fun v9 H => ?_)))
        show wq_296 d Q 31 [oR 12 0, oI l1, oI l2, oI l3, _] [aI v9] (sh_E h)
        refine ai_WP_steps mc_296 (sh_CM d) 1 (And.intro (fun c => ?_) (fun c => ?_))
        · replace H := sh_okT c H
          show wq_296 d Q 34 [oR 12 0, oI l1, oI l2, oI l3, _] [] (sh_E h)
          exact ai_WP_steps mc_296 (sh_CM d) 2 (hR (-1 : Int32) h H)
        · replace H := sh_okF c H
          exact x_M_pay_b36 N hd hR l1 l2 l3 h H
def f_M_change_c63 (N : Nat)  (k101 : Int32 → Int32 → sh_H → Option (Int32 × sh_H)) (k63 : Int32 → Int32 → Int32 → Int32 → Int32 → sh_H → Option (Int32 × sh_H)) (l1 : Int32) (l2 : Int32) (l3 : Int32) (l4 : Int32) (l5 : Int32) (h : sh_H) : Option (Int32 × sh_H) := (if l5 < (6 : Int32) then (if ai_in l5 12 then (sh_let (sh_pI h 13 54 l5.toNatClampNeg l3) (fun h1 => (Option.bind (f_M_all N l1 l5 h1) (fun v2 => (if ai_in ((6 : Int32) + l5) 12 then (sh_let (sh_pI h1 13 54 ((6 : Int32) + l5).toNatClampNeg v2) (fun h3 => k63 l1 l2 l3 l4 (l5 + (1 : Int32)) h3)) else none))))) else none) else k101 l2 l4 h)
def f_M_change_l63 (N : Nat)  (k101 : Int32 → Int32 → sh_H → Option (Int32 × sh_H)) (n : Nat) : Int32 → Int32 → Int32 → Int32 → Int32 → sh_H → Option (Int32 × sh_H) := Nat.rec (motive := fun _ => Int32 → Int32 → Int32 → Int32 → Int32 → sh_H → Option (Int32 × sh_H)) (fun _ _ _ _ _ _ => none) (fun _ k63 => f_M_change_c63 N k101 k63) n
theorem x_M_change_l63 (N : Nat) {d : Nat} (hd : 3 ≤ d) {Q : ai_Q} {R : Int32 × sh_H → Prop} (hR : ∀ r h, R (r, h) → Q (some (aI r)) (sh_E h))  (k101 : Int32 → Int32 → sh_H → Option (Int32 × sh_H)) (hk101 : ∀ (l2 : Int32) (l4 : Int32) {d1 d3 d5 d6 d7 d8 : Option ai_V} (h : sh_H), sh_ok (k101 l2 l4 h) R → wq_297 d Q 101 [oR 12 0, d1, oI l2, d3, oI l4, d5, d6, d7, d8] [] (sh_E h)) (n : Nat) : ∀ (l1 : Int32) (l2 : Int32) (l3 : Int32) (l4 : Int32) (l5 : Int32) {d6 d7 d8 : Option ai_V} (h : sh_H), sh_ok (f_M_change_l63 N k101 n l1 l2 l3 l4 l5 h) R → wq_297 d Q 63 [oR 12 0, oI l1, oI l2, oI l3, oI l4, oI l5, d6, d7, d8] [] (sh_E h) := by
  induction n with
  | zero => intro l1 l2 l3 l4 l5 d6 d7 d8 h H; exact H.elim
  | succ n ih =>
    intro l1 l2 l3 l4 l5 d6 d7 d8 h H
    have hk63 := @ih
    replace H : sh_ok (f_M_change_c63 N k101 (f_M_change_l63 N k101 n) l1 l2 l3 l4 l5 h) R := H
    revert hk63 H
    generalize f_M_change_l63 N k101 n = k63
    intro hk63 H
    refine ai_WP_steps mc_297 (sh_CM d) 3 (And.intro (fun c => ?_) (fun c => ?_))
    · replace H := sh_okT c H
      show wq_297 d Q 70 [oR 12 0, oI l1, oI l2, oI l3, oI l4, oI l5, _, _, _] [] (sh_E h)
      have c := sh_okG H
      replace H := sh_okH H
      refine ai_WP_steps mc_297 (sh_CM d) 5 (And.intro c ?_)
      show wq_297 d Q 78 [oR 12 0, oI l1, oI l2, oI l3, oI l4, oI l5, _, _, _] [] (sh_E (sh_pI h 13 54 l5.toNatClampNeg l3))
      replace H := sh_okL H
      generalize sh_pI h 13 54 l5.toNatClampNeg l3 = h1 at H ⊢
      refine ai_WP_steps mc_297 (sh_CM d) 9 (And.intro (Nat.le_of_ble_eq_true rfl) (x_M_all N (Nat.le_trans (Nat.le_of_ble_eq_true rfl) hd) l1 l5 h1 (sh_okB H) (fun v2 H => ?_)))
      show wq_297 d Q 94 [oR 12 0, oI l1, oI l2, oI l3, oI l4, oI l5, _, _, _] [aI v2, aI ((6 : Int32) + l5), aR 13 54] (sh_E h1)
      have c := sh_okG H
      replace H := sh_okH H
      refine ai_WP_steps mc_297 (sh_CM d) 1 (And.intro c ?_)
      show wq_297 d Q 95 [oR 12 0, oI l1, oI l2, oI l3, oI l4, oI l5, _, _, _] [] (sh_E (sh_pI h1 13 54 ((6 : Int32) + l5).toNatClampNeg v2))
      replace H := sh_okL H
      generalize sh_pI h1 13 54 ((6 : Int32) + l5).toNatClampNeg v2 = h3 at H ⊢
      refine ai_WP_steps mc_297 (sh_CM d) 2 ?_
      exact hk63 l1 l2 l3 l4 (l5 + (1 : Int32)) h3 H
    · replace H := sh_okF c H
      exact hk101 l2 l4 h H
def f_M_change_b175 (N : Nat)  (k130 : Int32 → Int32 → Int32 → Int32 → Int32 → sh_H → Option (Int32 × sh_H)) (l2 : Int32) (l4 : Int32) (l5 : Int32) (l6 : Int32) (l7 : Int32) (h : sh_H) : Option (Int32 × sh_H) := k130 l2 l4 l5 l6 (l7 + (1 : Int32)) h
theorem x_M_change_b175 (N : Nat) {d : Nat} (hd : 3 ≤ d) {Q : ai_Q} {R : Int32 × sh_H → Prop} (hR : ∀ r h, R (r, h) → Q (some (aI r)) (sh_E h))  (k130 : Int32 → Int32 → Int32 → Int32 → Int32 → sh_H → Option (Int32 × sh_H)) (hk130 : ∀ (l2 : Int32) (l4 : Int32) (l5 : Int32) (l6 : Int32) (l7 : Int32) {d1 d3 d8 : Option ai_V} (h : sh_H), sh_ok (k130 l2 l4 l5 l6 l7 h) R → wq_297 d Q 130 [oR 12 0, d1, oI l2, d3, oI l4, oI l5, oI l6, oI l7, d8] [] (sh_E h)) (l2 : Int32) (l4 : Int32) (l5 : Int32) (l6 : Int32) (l7 : Int32) {d1 d3 d8 : Option ai_V} (h : sh_H) (H : sh_ok (f_M_change_b175 N k130 l2 l4 l5 l6 l7 h) R) : wq_297 d Q 175 [oR 12 0, d1, oI l2, d3, oI l4, oI l5, oI l6, oI l7, d8] [] (sh_E h) := by
  refine ai_WP_steps mc_297 (sh_CM d) 2 ?_
  exact hk130 l2 l4 l5 l6 (l7 + (1 : Int32)) h H
def f_M_change_c130 (N : Nat)  (k181 : Int32 → Int32 → Int32 → Int32 → sh_H → Option (Int32 × sh_H)) (k130 : Int32 → Int32 → Int32 → Int32 → Int32 → sh_H → Option (Int32 × sh_H)) (l2 : Int32) (l4 : Int32) (l5 : Int32) (l6 : Int32) (l7 : Int32) (h : sh_H) : Option (Int32 × sh_H) := (if (4000 : Int32) < l7 then k181 l2 l4 l5 l6 h else (Option.bind (f_M_fewestOf (0 : Int32) l7 h) (fun v4 => (Option.bind (f_M_fewestOf (1 : Int32) (l7 - l2) h) (fun v5 => (if (v4 + v5) < l5 then f_M_change_b175 N k130 l2 l4 (v4 + v5) l7 l7 h else f_M_change_b175 N k130 l2 l4 l5 l6 l7 h))))))
def f_M_change_l130 (N : Nat)  (k181 : Int32 → Int32 → Int32 → Int32 → sh_H → Option (Int32 × sh_H)) (n : Nat) : Int32 → Int32 → Int32 → Int32 → Int32 → sh_H → Option (Int32 × sh_H) := Nat.rec (motive := fun _ => Int32 → Int32 → Int32 → Int32 → Int32 → sh_H → Option (Int32 × sh_H)) (fun _ _ _ _ _ _ => none) (fun _ k130 => f_M_change_c130 N k181 k130) n
theorem x_M_change_l130 (N : Nat) {d : Nat} (hd : 3 ≤ d) {Q : ai_Q} {R : Int32 × sh_H → Prop} (hR : ∀ r h, R (r, h) → Q (some (aI r)) (sh_E h))  (k181 : Int32 → Int32 → Int32 → Int32 → sh_H → Option (Int32 × sh_H)) (hk181 : ∀ (l2 : Int32) (l4 : Int32) (l5 : Int32) (l6 : Int32) {d1 d3 d7 d8 : Option ai_V} (h : sh_H), sh_ok (k181 l2 l4 l5 l6 h) R → wq_297 d Q 181 [oR 12 0, d1, oI l2, d3, oI l4, oI l5, oI l6, d7, d8] [] (sh_E h)) (n : Nat) : ∀ (l2 : Int32) (l4 : Int32) (l5 : Int32) (l6 : Int32) (l7 : Int32) {d1 d3 d8 : Option ai_V} (h : sh_H), sh_ok (f_M_change_l130 N k181 n l2 l4 l5 l6 l7 h) R → wq_297 d Q 130 [oR 12 0, d1, oI l2, d3, oI l4, oI l5, oI l6, oI l7, d8] [] (sh_E h) := by
  induction n with
  | zero => intro l2 l4 l5 l6 l7 d1 d3 d8 h H; exact H.elim
  | succ n ih =>
    intro l2 l4 l5 l6 l7 d1 d3 d8 h H
    have hk130 := @ih
    replace H : sh_ok (f_M_change_c130 N k181 (f_M_change_l130 N k181 n) l2 l4 l5 l6 l7 h) R := H
    revert hk130 H
    generalize f_M_change_l130 N k181 n = k130
    intro hk130 H
    refine ai_WP_steps mc_297 (sh_CM d) 3 (And.intro (fun c => ?_) (fun c => ?_))
    · replace H := sh_okT c H
      exact hk181 l2 l4 l5 l6 h H
    · replace H := sh_okF c H
      show wq_297 d Q 138 [oR 12 0, _, oI l2, _, oI l4, oI l5, oI l6, oI l7, _] [] (sh_E h)
      refine ai_WP_steps mc_297 (sh_CM d) 4 (And.intro (Nat.le_of_ble_eq_true rfl) (x_M_fewestOf (Nat.le_trans (Nat.le_of_ble_eq_true rfl) hd) (0 : Int32) l7 h (sh_okB H) (fun v4 H => ?_)))
      show wq_297 d Q 145 [oR 12 0, _, oI l2, _, oI l4, oI l5, oI l6, oI l7, _] [aI v4] (sh_E h)
      refine ai_WP_steps mc_297 (sh_CM d) 6 (And.intro (Nat.le_of_ble_eq_true rfl) (x_M_fewestOf (Nat.le_trans (Nat.le_of_ble_eq_true rfl) hd) (1 : Int32) (l7 - l2) h (sh_okB H) (fun v5 H => ?_)))
      show wq_297 d Q 154 [oR 12 0, _, oI l2, _, oI l4, oI l5, oI l6, oI l7, _] [aI v5, aI v4] (sh_E h)
      refine ai_WP_steps mc_297 (sh_CM d) 5 (And.intro (fun c => ?_) (fun c => ?_))
      · replace H := sh_okT c H
        show wq_297 d Q 167 [oR 12 0, _, oI l2, _, oI l4, oI l5, oI l6, oI l7, oI (v4 + v5)] [] (sh_E h)
        refine ai_WP_steps mc_297 (sh_CM d) 4 ?_
        exact x_M_change_b175 N hd hR k130 hk130 l2 l4 (v4 + v5) l7 l7 h H
      · replace H := sh_okF c H
        show wq_297 d Q 164 [oR 12 0, _, oI l2, _, oI l4, oI l5, oI l6, oI l7, oI (v4 + v5)] [] (sh_E h)
        refine ai_WP_steps mc_297 (sh_CM d) 1 ?_
        exact x_M_change_b175 N hd hR k130 hk130 l2 l4 l5 l6 l7 h H
def f_M_change_b181 (N : Nat)   (l2 : Int32) (l4 : Int32) (l5 : Int32) (l6 : Int32) (h : sh_H) : Option (Int32 × sh_H) := (if l5 < (1000000 : Int32) then (if l4 = 0 then (some (l5, h)) else (Option.bind (f_M_isKind (l4 - (10 : Int32)) h) (fun v6 => (if v6 = 0 then (Option.bind (f_M_paidOf N (1 : Int32) (l6 - l2) (l4 - (20 : Int32)) h) (fun v7 => (some (v7, h)))) else (Option.bind (f_M_paidOf N (0 : Int32) l6 (l4 - (10 : Int32)) h) (fun v8 => (some (v8, h)))))))) else (some ((-2 : Int32), h)))
theorem x_M_change_b181 (N : Nat) {d : Nat} (hd : 3 ≤ d) {Q : ai_Q} {R : Int32 × sh_H → Prop} (hR : ∀ r h, R (r, h) → Q (some (aI r)) (sh_E h))   (l2 : Int32) (l4 : Int32) (l5 : Int32) (l6 : Int32) {d1 d3 d7 d8 : Option ai_V} (h : sh_H) (H : sh_ok (f_M_change_b181 N l2 l4 l5 l6 h) R) : wq_297 d Q 181 [oR 12 0, d1, oI l2, d3, oI l4, oI l5, oI l6, d7, d8] [] (sh_E h) := by
  refine ai_WP_steps mc_297 (sh_CM d) 3 (And.intro (fun c => ?_) (fun c => ?_))
  · replace H := sh_okT c H
    show wq_297 d Q 192 [oR 12 0, _, oI l2, _, oI l4, oI l5, oI l6, _, _] [] (sh_E h)
    refine ai_WP_steps mc_297 (sh_CM d) 2 (And.intro (fun c => ?_) (fun c => ?_))
    · replace H := sh_okT c H
      show wq_297 d Q 197 [oR 12 0, _, oI l2, _, oI l4, oI l5, oI l6, _, _] [] (sh_E h)
      exact ai_WP_steps mc_297 (sh_CM d) 2 (hR l5 h H)
    · replace H := sh_okF c H
      show wq_297 d Q 200 [oR 12 0, _, oI l2, _, oI l4, oI l5, oI l6, _, _] [] (sh_E h)
      refine ai_WP_steps mc_297 (sh_CM d) 5 (And.intro (Nat.le_of_ble_eq_true rfl) (x_M_isKind (Nat.le_trans (Nat.le_of_ble_eq_true rfl) hd) (l4 - (10 : Int32)) h (sh_okB H) (fun v6 H => ?_)))
      show wq_297 d Q 209 [oR 12 0, _, oI l2, _, oI l4, oI l5, oI l6, _, _] [aI v6] (sh_E h)
      refine ai_WP_steps mc_297 (sh_CM d) 1 (And.intro (fun c => ?_) (fun c => ?_))
      · replace H := sh_okT c H
        show wq_297 d Q 227 [oR 12 0, _, oI l2, _, oI l4, oI l5, oI l6, _, _] [] (sh_E h)
        refine ai_WP_steps mc_297 (sh_CM d) 9 (And.intro (Nat.le_of_ble_eq_true rfl) (x_M_paidOf N (Nat.le_trans (Nat.le_of_ble_eq_true rfl) hd) (1 : Int32) (l6 - l2) (l4 - (20 : Int32)) h (sh_okB H) (fun v7 H => ?_)))
        show wq_297 d Q 241 [oR 12 0, _, oI l2, _, oI l4, oI l5, oI l6, _, _] [aI v7] (sh_E h)
        exact ai_WP_steps mc_297 (sh_CM d) 1 (hR v7 h H)
      · replace H := sh_okF c H
        show wq_297 d Q 212 [oR 12 0, _, oI l2, _, oI l4, oI l5, oI l6, _, _] [] (sh_E h)
        refine ai_WP_steps mc_297 (sh_CM d) 7 (And.intro (Nat.le_of_ble_eq_true rfl) (x_M_paidOf N (Nat.le_trans (Nat.le_of_ble_eq_true rfl) hd) (0 : Int32) l6 (l4 - (10 : Int32)) h (sh_okB H) (fun v8 H => ?_)))
        show wq_297 d Q 224 [oR 12 0, _, oI l2, _, oI l4, oI l5, oI l6, _, _] [aI v8] (sh_E h)
        exact ai_WP_steps mc_297 (sh_CM d) 2 (hR v8 h H)
  · replace H := sh_okF c H
    show wq_297 d Q 189 [oR 12 0, _, oI l2, _, oI l4, oI l5, oI l6, _, _] [] (sh_E h)
    exact ai_WP_steps mc_297 (sh_CM d) 2 (hR (-2 : Int32) h H)
def f_M_change_b101 (N : Nat)   (l2 : Int32) (l4 : Int32) (h : sh_H) : Option (Int32 × sh_H) := (Option.bind (f_M_layFewest N (0 : Int32) (4000 : Int32) h) (fun h9 => (Option.bind (f_M_layFewest N (1 : Int32) ((4000 : Int32) - l2) h9) (fun h10 => f_M_change_l130 N (f_M_change_b181 N) N l2 l4 (1000000 : Int32) (0 : Int32) l2 h10))))
theorem x_M_change_b101 (N : Nat) {d : Nat} (hd : 3 ≤ d) {Q : ai_Q} {R : Int32 × sh_H → Prop} (hR : ∀ r h, R (r, h) → Q (some (aI r)) (sh_E h))   (l2 : Int32) (l4 : Int32) {d1 d3 d5 d6 d7 d8 : Option ai_V} (h : sh_H) (H : sh_ok (f_M_change_b101 N l2 l4 h) R) : wq_297 d Q 101 [oR 12 0, d1, oI l2, d3, oI l4, d5, d6, d7, d8] [] (sh_E h) := by
  refine ai_WP_steps mc_297 (sh_CM d) 4 (And.intro (Nat.le_of_ble_eq_true rfl) (x_M_layFewest N (Nat.le_trans (Nat.le_of_ble_eq_true rfl) hd) (0 : Int32) (4000 : Int32) h (sh_okB H) (fun h9 H => ?_)))
  show wq_297 d Q 109 [oR 12 0, _, oI l2, _, oI l4, _, _, _, _] [] (sh_E h9)
  refine ai_WP_steps mc_297 (sh_CM d) 6 (And.intro (Nat.le_of_ble_eq_true rfl) (x_M_layFewest N (Nat.le_trans (Nat.le_of_ble_eq_true rfl) hd) (1 : Int32) ((4000 : Int32) - l2) h9 (sh_okB H) (fun h10 H => ?_)))
  show wq_297 d Q 119 [oR 12 0, _, oI l2, _, oI l4, _, _, _, _] [] (sh_E h10)
  refine ai_WP_steps mc_297 (sh_CM d) 6 ?_
  exact x_M_change_l130 N hd hR (f_M_change_b181 N) (fun z0 z1 z2 z3 {e1} {e3} {e7} {e8} h H => x_M_change_b181 N hd hR z0 z1 z2 z3 h H) N l2 l4 (1000000 : Int32) (0 : Int32) l2 h10 H
def f_M_change_b60 (N : Nat)   (l1 : Int32) (l2 : Int32) (l3 : Int32) (l4 : Int32) (h : sh_H) : Option (Int32 × sh_H) := f_M_change_l63 N (f_M_change_b101 N) N l1 l2 l3 l4 (0 : Int32) h
theorem x_M_change_b60 (N : Nat) {d : Nat} (hd : 3 ≤ d) {Q : ai_Q} {R : Int32 × sh_H → Prop} (hR : ∀ r h, R (r, h) → Q (some (aI r)) (sh_E h))   (l1 : Int32) (l2 : Int32) (l3 : Int32) (l4 : Int32) {d5 d6 d7 d8 : Option ai_V} (h : sh_H) (H : sh_ok (f_M_change_b60 N l1 l2 l3 l4 h) R) : wq_297 d Q 60 [oR 12 0, oI l1, oI l2, oI l3, oI l4, d5, d6, d7, d8] [] (sh_E h) := by
  refine ai_WP_steps mc_297 (sh_CM d) 2 ?_
  exact x_M_change_l63 N hd hR (f_M_change_b101 N) (fun z0 z1 {e1} {e3} {e5} {e6} {e7} {e8} h H => x_M_change_b101 N hd hR z0 z1 h H) N l1 l2 l3 l4 (0 : Int32) h H
def f_M_change (N : Nat)  (l1 : Int32) (l2 : Int32) (l3 : Int32) (l4 : Int32) (h : sh_H) : Option (Int32 × sh_H) := (Option.bind (f_M_isPlace l1 h) (fun v11 => (if v11 = 0 then (some ((-1 : Int32), h)) else (Option.bind (f_M_isIn l2 (1 : Int32) (2000 : Int32) h) (fun v12 => (if v12 = 0 then (some ((-1 : Int32), h)) else (Option.bind (f_M_isIn l3 (0 : Int32) (9 : Int32) h) (fun v13 => (if v13 = 0 then (some ((-1 : Int32), h)) else (if l4 = 0 then f_M_change_b60 N l1 l2 l3 l4 h else (Option.bind (f_M_isKind (l4 - (10 : Int32)) h) (fun v14 => (if v14 = 0 then (Option.bind (f_M_isKind (l4 - (20 : Int32)) h) (fun v15 => (if v15 = 0 then (some ((-1 : Int32), h)) else f_M_change_b60 N l1 l2 l3 l4 h))) else f_M_change_b60 N l1 l2 l3 l4 h)))))))))))))
theorem x_M_change (N : Nat) {d : Nat} (hd : 4 ≤ d) (l1 : Int32) (l2 : Int32) (l3 : Int32) (l4 : Int32) (h : sh_H) {Q : ai_Q} {R : Int32 × sh_H → Prop} (H : sh_ok (f_M_change N l1 l2 l3 l4 h) R) (hR : ∀ r h, R (r, h) → Q (some (aI r)) (sh_E h)) : ai_Ex sh_T d 297 [aR 12 0, aI l1, aI l2, aI l3, aI l4] (sh_E h) Q := by
  obtain ⟨d, rfl⟩ : ∃ e, d = e + 1 := ⟨d - 1, by omega⟩
  replace hd : 3 ≤ d := by omega
  refine And.intro (Nat.le_of_ble_eq_true rfl) ?_
  show wq_297 d Q 0 [oR 12 0, oI l1, oI l2, oI l3, oI l4, none, none, none, none] [] (sh_E h)
  refine ai_WP_steps mc_297 (sh_CM d) 3 (And.intro (Nat.le_of_ble_eq_true rfl) (x_M_isPlace (Nat.le_trans (Nat.le_of_ble_eq_true rfl) hd) l1 h (sh_okB H) (fun v11 H => ?_)))
  show wq_297 d Q 5 [oR 12 0, oI l1, oI l2, oI l3, oI l4, _, _, _, _] [aI v11] (sh_E h)
  refine ai_WP_steps mc_297 (sh_CM d) 1 (And.intro (fun c => ?_) (fun c => ?_))
  · replace H := sh_okT c H
    show wq_297 d Q 58 [oR 12 0, oI l1, oI l2, oI l3, oI l4, _, _, _, _] [] (sh_E h)
    exact ai_WP_steps mc_297 (sh_CM d) 2 (hR (-1 : Int32) h H)
  · replace H := sh_okF c H
    show wq_297 d Q 8 [oR 12 0, oI l1, oI l2, oI l3, oI l4, _, _, _, _] [] (sh_E h)
    refine ai_WP_steps mc_297 (sh_CM d) 4 (And.intro (Nat.le_of_ble_eq_true rfl) (x_M_isIn (Nat.le_trans (Nat.le_of_ble_eq_true rfl) hd) l2 (1 : Int32) (2000 : Int32) h (sh_okB H) (fun v12 H => ?_)))
    show wq_297 d Q 16 [oR 12 0, oI l1, oI l2, oI l3, oI l4, _, _, _, _] [aI v12] (sh_E h)
    refine ai_WP_steps mc_297 (sh_CM d) 1 (And.intro (fun c => ?_) (fun c => ?_))
    · replace H := sh_okT c H
      show wq_297 d Q 58 [oR 12 0, oI l1, oI l2, oI l3, oI l4, _, _, _, _] [] (sh_E h)
      exact ai_WP_steps mc_297 (sh_CM d) 2 (hR (-1 : Int32) h H)
    · replace H := sh_okF c H
      show wq_297 d Q 19 [oR 12 0, oI l1, oI l2, oI l3, oI l4, _, _, _, _] [] (sh_E h)
      refine ai_WP_steps mc_297 (sh_CM d) 4 (And.intro (Nat.le_of_ble_eq_true rfl) (x_M_isIn (Nat.le_trans (Nat.le_of_ble_eq_true rfl) hd) l3 (0 : Int32) (9 : Int32) h (sh_okB H) (fun v13 H => ?_)))
      show wq_297 d Q 26 [oR 12 0, oI l1, oI l2, oI l3, oI l4, _, _, _, _] [aI v13] (sh_E h)
      refine ai_WP_steps mc_297 (sh_CM d) 1 (And.intro (fun c => ?_) (fun c => ?_))
      · replace H := sh_okT c H
        show wq_297 d Q 58 [oR 12 0, oI l1, oI l2, oI l3, oI l4, _, _, _, _] [] (sh_E h)
        exact ai_WP_steps mc_297 (sh_CM d) 2 (hR (-1 : Int32) h H)
      · replace H := sh_okF c H
        show wq_297 d Q 29 [oR 12 0, oI l1, oI l2, oI l3, oI l4, _, _, _, _] [] (sh_E h)
        refine ai_WP_steps mc_297 (sh_CM d) 2 (And.intro (fun c => ?_) (fun c => ?_))
        · replace H := sh_okT c H
          exact x_M_change_b60 N hd hR l1 l2 l3 l4 h H
        · replace H := sh_okF c H
          show wq_297 d Q 34 [oR 12 0, oI l1, oI l2, oI l3, oI l4, _, _, _, _] [] (sh_E h)
          refine ai_WP_steps mc_297 (sh_CM d) 5 (And.intro (Nat.le_of_ble_eq_true rfl) (x_M_isKind (Nat.le_trans (Nat.le_of_ble_eq_true rfl) hd) (l4 - (10 : Int32)) h (sh_okB H) (fun v14 H => ?_)))
          show wq_297 d Q 43 [oR 12 0, oI l1, oI l2, oI l3, oI l4, _, _, _, _] [aI v14] (sh_E h)
          refine ai_WP_steps mc_297 (sh_CM d) 1 (And.intro (fun c => ?_) (fun c => ?_))
          · replace H := sh_okT c H
            show wq_297 d Q 46 [oR 12 0, oI l1, oI l2, oI l3, oI l4, _, _, _, _] [] (sh_E h)
            refine ai_WP_steps mc_297 (sh_CM d) 5 (And.intro (Nat.le_of_ble_eq_true rfl) (x_M_isKind (Nat.le_trans (Nat.le_of_ble_eq_true rfl) hd) (l4 - (20 : Int32)) h (sh_okB H) (fun v15 H => ?_)))
            show wq_297 d Q 55 [oR 12 0, oI l1, oI l2, oI l3, oI l4, _, _, _, _] [aI v15] (sh_E h)
            refine ai_WP_steps mc_297 (sh_CM d) 1 (And.intro (fun c => ?_) (fun c => ?_))
            · replace H := sh_okT c H
              show wq_297 d Q 58 [oR 12 0, oI l1, oI l2, oI l3, oI l4, _, _, _, _] [] (sh_E h)
              exact ai_WP_steps mc_297 (sh_CM d) 2 (hR (-1 : Int32) h H)
            · replace H := sh_okF c H
              exact x_M_change_b60 N hd hR l1 l2 l3 l4 h H
          · replace H := sh_okF c H
            exact x_M_change_b60 N hd hR l1 l2 l3 l4 h H
def f_M_piecesOf_b112 (N : Nat)  (k31 : Int32 → Int32 → Int32 → Int32 → Int32 → sh_H → Option (Int32 × sh_H)) (l1 : Int32) (l2 : Int32) (l3 : Int32) (l4 : Int32) (l5 : Int32) (h : sh_H) : Option (Int32 × sh_H) := k31 l1 l2 l3 l4 (l5 + (1 : Int32)) h
theorem x_M_piecesOf_b112 (N : Nat) {d : Nat} (hd : 1 ≤ d) {Q : ai_Q} {R : Int32 × sh_H → Prop} (hR : ∀ r h, R (r, h) → Q (some (aI r)) (sh_E h))  (k31 : Int32 → Int32 → Int32 → Int32 → Int32 → sh_H → Option (Int32 × sh_H)) (hk31 : ∀ (l1 : Int32) (l2 : Int32) (l3 : Int32) (l4 : Int32) (l5 : Int32) (h : sh_H), sh_ok (k31 l1 l2 l3 l4 l5 h) R → wq_298 d Q 31 [oR 12 0, oI l1, oI l2, oI l3, oI l4, oI l5] [] (sh_E h)) (l1 : Int32) (l2 : Int32) (l3 : Int32) (l4 : Int32) (l5 : Int32) (h : sh_H) (H : sh_ok (f_M_piecesOf_b112 N k31 l1 l2 l3 l4 l5 h) R) : wq_298 d Q 112 [oR 12 0, oI l1, oI l2, oI l3, oI l4, oI l5] [] (sh_E h) := by
  refine ai_WP_steps mc_298 (sh_CM d) 2 ?_
  exact hk31 l1 l2 l3 l4 (l5 + (1 : Int32)) h H
def f_M_piecesOf_c31 (N : Nat)  (k118 : Int32 → Int32 → Int32 → Int32 → sh_H → Option (Int32 × sh_H)) (k31 : Int32 → Int32 → Int32 → Int32 → Int32 → sh_H → Option (Int32 × sh_H)) (l1 : Int32) (l2 : Int32) (l3 : Int32) (l4 : Int32) (l5 : Int32) (h : sh_H) : Option (Int32 × sh_H) := (if ai_in (0 : Int32) 8000 then (if l5 < (h.1 13 46 (0 : Int32).toNatClampNeg) then (if ((l1 >>> (l5 &&& 31)) &&& (1 : Int32)) = (1 : Int32) then (Option.bind (f_M_worth l5 h) (fun v1 => (if l4 < v1 then f_M_piecesOf_b112 N k31 l1 l2 l3 l4 l5 h else (Option.bind (f_M_worth l5 h) (fun v2 => (if ai_in (l4 - v2) 401 then (if ai_in l4 401 then (if ((h.1 13 57 (l4 - v2).toNatClampNeg) + (1 : Int32)) < (h.1 13 57 l4.toNatClampNeg) then (Option.bind (f_M_worth l5 h) (fun v3 => (if ai_in (l4 - v3) 401 then (if ai_in l4 401 then (sh_let (sh_pI h 13 57 l4.toNatClampNeg ((h.1 13 57 (l4 - v3).toNatClampNeg) + (1 : Int32))) (fun h4 => f_M_piecesOf_b112 N k31 l1 l2 l3 l4 l5 h4)) else none) else none))) else f_M_piecesOf_b112 N k31 l1 l2 l3 l4 l5 h) else none) else none)))))) else f_M_piecesOf_b112 N k31 l1 l2 l3 l4 l5 h) else k118 l1 l2 l3 l4 h) else none)
def f_M_piecesOf_l31 (N : Nat)  (k118 : Int32 → Int32 → Int32 → Int32 → sh_H → Option (Int32 × sh_H)) (n : Nat) : Int32 → Int32 → Int32 → Int32 → Int32 → sh_H → Option (Int32 × sh_H) := Nat.rec (motive := fun _ => Int32 → Int32 → Int32 → Int32 → Int32 → sh_H → Option (Int32 × sh_H)) (fun _ _ _ _ _ _ => none) (fun _ k31 => f_M_piecesOf_c31 N k118 k31) n
theorem x_M_piecesOf_l31 (N : Nat) {d : Nat} (hd : 1 ≤ d) {Q : ai_Q} {R : Int32 × sh_H → Prop} (hR : ∀ r h, R (r, h) → Q (some (aI r)) (sh_E h))  (k118 : Int32 → Int32 → Int32 → Int32 → sh_H → Option (Int32 × sh_H)) (hk118 : ∀ (l1 : Int32) (l2 : Int32) (l3 : Int32) (l4 : Int32) {d5 : Option ai_V} (h : sh_H), sh_ok (k118 l1 l2 l3 l4 h) R → wq_298 d Q 118 [oR 12 0, oI l1, oI l2, oI l3, oI l4, d5] [] (sh_E h)) (n : Nat) : ∀ (l1 : Int32) (l2 : Int32) (l3 : Int32) (l4 : Int32) (l5 : Int32) (h : sh_H), sh_ok (f_M_piecesOf_l31 N k118 n l1 l2 l3 l4 l5 h) R → wq_298 d Q 31 [oR 12 0, oI l1, oI l2, oI l3, oI l4, oI l5] [] (sh_E h) := by
  induction n with
  | zero => intro l1 l2 l3 l4 l5 h H; exact H.elim
  | succ n ih =>
    intro l1 l2 l3 l4 l5 h H
    have hk31 := @ih
    replace H : sh_ok (f_M_piecesOf_c31 N k118 (f_M_piecesOf_l31 N k118 n) l1 l2 l3 l4 l5 h) R := H
    revert hk31 H
    generalize f_M_piecesOf_l31 N k118 n = k31
    intro hk31 H
    have c := sh_okG H
    replace H := sh_okH H
    refine ai_WP_steps mc_298 (sh_CM d) 5 (And.intro c ?_)
    show wq_298 d Q 39 [oR 12 0, oI l1, oI l2, oI l3, oI l4, oI l5] [aI (h.1 13 46 (0 : Int32).toNatClampNeg), aI l5] (sh_E h)
    refine ai_WP_steps mc_298 (sh_CM d) 1 (And.intro (fun c => ?_) (fun c => ?_))
    · replace H := sh_okT c H
      show wq_298 d Q 42 [oR 12 0, oI l1, oI l2, oI l3, oI l4, oI l5] [] (sh_E h)
      refine ai_WP_steps mc_298 (sh_CM d) 7 (And.intro (fun c => ?_) (fun c => ?_))
      · replace H := sh_okT c H
        show wq_298 d Q 52 [oR 12 0, oI l1, oI l2, oI l3, oI l4, oI l5] [] (sh_E h)
        refine ai_WP_steps mc_298 (sh_CM d) 3 (And.intro (Nat.le_of_ble_eq_true rfl) (x_M_worth (Nat.le_trans (Nat.le_of_ble_eq_true rfl) hd) l5 h (sh_okB H) (fun v1 H => ?_)))
        show wq_298 d Q 58 [oR 12 0, oI l1, oI l2, oI l3, oI l4, oI l5] [aI v1] (sh_E h)
        refine ai_WP_steps mc_298 (sh_CM d) 2 (And.intro (fun c => ?_) (fun c => ?_))
        · replace H := sh_okT c H
          exact x_M_piecesOf_b112 N hd hR k31 hk31 l1 l2 l3 l4 l5 h H
        · replace H := sh_okF c H
          show wq_298 d Q 63 [oR 12 0, oI l1, oI l2, oI l3, oI l4, oI l5] [] (sh_E h)
          refine ai_WP_steps mc_298 (sh_CM d) 6 (And.intro (Nat.le_of_ble_eq_true rfl) (x_M_worth (Nat.le_trans (Nat.le_of_ble_eq_true rfl) hd) l5 h (sh_okB H) (fun v2 H => ?_)))
          show wq_298 d Q 75 [oR 12 0, oI l1, oI l2, oI l3, oI l4, oI l5] [aI v2, aI l4, aR 13 57] (sh_E h)
          have c := sh_okG H
          replace H := sh_okH H
          refine ai_WP_steps mc_298 (sh_CM d) 2 (And.intro c ?_)
          show wq_298 d Q 77 [oR 12 0, oI l1, oI l2, oI l3, oI l4, oI l5] [aI (h.1 13 57 (l4 - v2).toNatClampNeg)] (sh_E h)
          have c := sh_okG H
          replace H := sh_okH H
          refine ai_WP_steps mc_298 (sh_CM d) 6 (And.intro c ?_)
          show wq_298 d Q 86 [oR 12 0, oI l1, oI l2, oI l3, oI l4, oI l5] [aI (h.1 13 57 l4.toNatClampNeg), aI ((h.1 13 57 (l4 - v2).toNatClampNeg) + (1 : Int32))] (sh_E h)
          refine ai_WP_steps mc_298 (sh_CM d) 1 (And.intro (fun c => ?_) (fun c => ?_))
          · replace H := sh_okT c H
            show wq_298 d Q 89 [oR 12 0, oI l1, oI l2, oI l3, oI l4, oI l5] [] (sh_E h)
            refine ai_WP_steps mc_298 (sh_CM d) 9 (And.intro (Nat.le_of_ble_eq_true rfl) (x_M_worth (Nat.le_trans (Nat.le_of_ble_eq_true rfl) hd) l5 h (sh_okB H) (fun v3 H => ?_)))
            show wq_298 d Q 107 [oR 12 0, oI l1, oI l2, oI l3, oI l4, oI l5] [aI v3, aI l4, aR 13 57, aI l4, aR 13 57] (sh_E h)
            have c := sh_okG H
            replace H := sh_okH H
            refine ai_WP_steps mc_298 (sh_CM d) 2 (And.intro c ?_)
            show wq_298 d Q 109 [oR 12 0, oI l1, oI l2, oI l3, oI l4, oI l5] [aI (h.1 13 57 (l4 - v3).toNatClampNeg), aI l4, aR 13 57] (sh_E h)
            have c := sh_okG H
            replace H := sh_okH H
            refine ai_WP_steps mc_298 (sh_CM d) 3 (And.intro c ?_)
            show wq_298 d Q 112 [oR 12 0, oI l1, oI l2, oI l3, oI l4, oI l5] [] (sh_E (sh_pI h 13 57 l4.toNatClampNeg ((h.1 13 57 (l4 - v3).toNatClampNeg) + (1 : Int32))))
            replace H := sh_okL H
            generalize sh_pI h 13 57 l4.toNatClampNeg ((h.1 13 57 (l4 - v3).toNatClampNeg) + (1 : Int32)) = h4 at H ⊢
            exact x_M_piecesOf_b112 N hd hR k31 hk31 l1 l2 l3 l4 l5 h4 H
          · replace H := sh_okF c H
            exact x_M_piecesOf_b112 N hd hR k31 hk31 l1 l2 l3 l4 l5 h H
      · replace H := sh_okF c H
        exact x_M_piecesOf_b112 N hd hR k31 hk31 l1 l2 l3 l4 l5 h H
    · replace H := sh_okF c H
      exact hk118 l1 l2 l3 l4 h H
def f_M_piecesOf_b118 (N : Nat)  (k12 : Int32 → Int32 → Int32 → Int32 → sh_H → Option (Int32 × sh_H)) (l1 : Int32) (l2 : Int32) (l3 : Int32) (l4 : Int32) (h : sh_H) : Option (Int32 × sh_H) := (if ai_in l4 401 then k12 l1 l2 (l3 + (h.1 13 57 l4.toNatClampNeg)) (l4 + (1 : Int32)) h else none)
theorem x_M_piecesOf_b118 (N : Nat) {d : Nat} (hd : 1 ≤ d) {Q : ai_Q} {R : Int32 × sh_H → Prop} (hR : ∀ r h, R (r, h) → Q (some (aI r)) (sh_E h))  (k12 : Int32 → Int32 → Int32 → Int32 → sh_H → Option (Int32 × sh_H)) (hk12 : ∀ (l1 : Int32) (l2 : Int32) (l3 : Int32) (l4 : Int32) {d5 : Option ai_V} (h : sh_H), sh_ok (k12 l1 l2 l3 l4 h) R → wq_298 d Q 12 [oR 12 0, oI l1, oI l2, oI l3, oI l4, d5] [] (sh_E h)) (l1 : Int32) (l2 : Int32) (l3 : Int32) (l4 : Int32) {d5 : Option ai_V} (h : sh_H) (H : sh_ok (f_M_piecesOf_b118 N k12 l1 l2 l3 l4 h) R) : wq_298 d Q 118 [oR 12 0, oI l1, oI l2, oI l3, oI l4, d5] [] (sh_E h) := by
  have c := sh_okG H
  replace H := sh_okH H
  refine ai_WP_steps mc_298 (sh_CM d) 5 (And.intro c ?_)
  show wq_298 d Q 126 [oR 12 0, oI l1, oI l2, oI l3, oI l4, _] [aI (h.1 13 57 l4.toNatClampNeg), aI l3] (sh_E h)
  refine ai_WP_steps mc_298 (sh_CM d) 4 ?_
  exact hk12 l1 l2 (l3 + (h.1 13 57 l4.toNatClampNeg)) (l4 + (1 : Int32)) h H
def f_M_piecesOf_c12 (N : Nat)   (k12 : Int32 → Int32 → Int32 → Int32 → sh_H → Option (Int32 × sh_H)) (l1 : Int32) (l2 : Int32) (l3 : Int32) (l4 : Int32) (h : sh_H) : Option (Int32 × sh_H) := (if l2 < l4 then (some (l3, h)) else (if ai_in l4 401 then (sh_let (sh_pI h 13 57 l4.toNatClampNeg (1000000 : Int32)) (fun h5 => f_M_piecesOf_l31 N (f_M_piecesOf_b118 N k12) N l1 l2 l3 l4 (0 : Int32) h5)) else none))
def f_M_piecesOf_l12 (N : Nat)   (n : Nat) : Int32 → Int32 → Int32 → Int32 → sh_H → Option (Int32 × sh_H) := Nat.rec (motive := fun _ => Int32 → Int32 → Int32 → Int32 → sh_H → Option (Int32 × sh_H)) (fun _ _ _ _ _ => none) (fun _ k12 => f_M_piecesOf_c12 N k12) n
theorem x_M_piecesOf_l12 (N : Nat) {d : Nat} (hd : 1 ≤ d) {Q : ai_Q} {R : Int32 × sh_H → Prop} (hR : ∀ r h, R (r, h) → Q (some (aI r)) (sh_E h))   (n : Nat) : ∀ (l1 : Int32) (l2 : Int32) (l3 : Int32) (l4 : Int32) {d5 : Option ai_V} (h : sh_H), sh_ok (f_M_piecesOf_l12 N n l1 l2 l3 l4 h) R → wq_298 d Q 12 [oR 12 0, oI l1, oI l2, oI l3, oI l4, d5] [] (sh_E h) := by
  induction n with
  | zero => intro l1 l2 l3 l4 d5 h H; exact H.elim
  | succ n ih =>
    intro l1 l2 l3 l4 d5 h H
    have hk12 := @ih
    replace H : sh_ok (f_M_piecesOf_c12 N (f_M_piecesOf_l12 N n) l1 l2 l3 l4 h) R := H
    revert hk12 H
    generalize f_M_piecesOf_l12 N n = k12
    intro hk12 H
    refine ai_WP_steps mc_298 (sh_CM d) 3 (And.intro (fun c => ?_) (fun c => ?_))
    · replace H := sh_okT c H
      show wq_298 d Q 134 [oR 12 0, oI l1, oI l2, oI l3, oI l4, _] [] (sh_E h)
      exact ai_WP_steps mc_298 (sh_CM d) 2 (hR l3 h H)
    · replace H := sh_okF c H
      show wq_298 d Q 18 [oR 12 0, oI l1, oI l2, oI l3, oI l4, _] [] (sh_E h)
      have c := sh_okG H
      replace H := sh_okH H
      refine ai_WP_steps mc_298 (sh_CM d) 5 (And.intro c ?_)
      show wq_298 d Q 28 [oR 12 0, oI l1, oI l2, oI l3, oI l4, _] [] (sh_E (sh_pI h 13 57 l4.toNatClampNeg (1000000 : Int32)))
      replace H := sh_okL H
      generalize sh_pI h 13 57 l4.toNatClampNeg (1000000 : Int32) = h5 at H ⊢
      refine ai_WP_steps mc_298 (sh_CM d) 2 ?_
      exact x_M_piecesOf_l31 N hd hR (f_M_piecesOf_b118 N k12) (fun z0 z1 z2 z3 {e5} h H => x_M_piecesOf_b118 N hd hR k12 hk12 z0 z1 z2 z3 h H) N l1 l2 l3 l4 (0 : Int32) h5 H
def f_M_piecesOf (N : Nat)  (l1 : Int32) (l2 : Int32) (h : sh_H) : Option (Int32 × sh_H) := (if ai_in (0 : Int32) 401 then (sh_let (sh_pI h 13 57 (0 : Int32).toNatClampNeg (0 : Int32)) (fun h6 => f_M_piecesOf_l12 N N l1 l2 (0 : Int32) (1 : Int32) h6)) else none)
theorem x_M_piecesOf (N : Nat) {d : Nat} (hd : 2 ≤ d) (l1 : Int32) (l2 : Int32) (h : sh_H) {Q : ai_Q} {R : Int32 × sh_H → Prop} (H : sh_ok (f_M_piecesOf N l1 l2 h) R) (hR : ∀ r h, R (r, h) → Q (some (aI r)) (sh_E h)) : ai_Ex sh_T d 298 [aR 12 0, aI l1, aI l2] (sh_E h) Q := by
  obtain ⟨d, rfl⟩ : ∃ e, d = e + 1 := ⟨d - 1, by omega⟩
  replace hd : 1 ≤ d := by omega
  refine And.intro (Nat.le_of_ble_eq_true rfl) ?_
  show wq_298 d Q 0 [oR 12 0, oI l1, oI l2, none, none, none] [] (sh_E h)
  have c := sh_okG H
  replace H := sh_okH H
  refine ai_WP_steps mc_298 (sh_CM d) 7 (And.intro c ?_)
  show wq_298 d Q 9 [oR 12 0, oI l1, oI l2, oI (0 : Int32), _, _] [] (sh_E (sh_pI h 13 57 (0 : Int32).toNatClampNeg (0 : Int32)))
  replace H := sh_okL H
  generalize sh_pI h 13 57 (0 : Int32).toNatClampNeg (0 : Int32) = h6 at H ⊢
  refine ai_WP_steps mc_298 (sh_CM d) 2 ?_
  exact x_M_piecesOf_l12 N hd hR N l1 l2 (0 : Int32) (1 : Int32) h6 H
def f_M_manyOf_c4 (N : Nat)   (k4 : Int32 → Int32 → Int32 → sh_H → Option Int32) (l0 : Int32) (l1 : Int32) (l2 : Int32) (h : sh_H) : Option Int32 := (if l2 < (6 : Int32) then k4 l0 (l1 + ((l0 >>> (l2 &&& 31)) &&& (1 : Int32))) (l2 + (1 : Int32)) h else (some l1))
def f_M_manyOf_l4 (N : Nat)   (n : Nat) : Int32 → Int32 → Int32 → sh_H → Option Int32 := Nat.rec (motive := fun _ => Int32 → Int32 → Int32 → sh_H → Option Int32) (fun _ _ _ _ => none) (fun _ k4 => f_M_manyOf_c4 N k4) n
theorem x_M_manyOf_l4 (N : Nat) {d : Nat} (hd : 0 ≤ d) (h : sh_H) {Q : ai_Q} {R : Int32 → Prop} (hR : ∀ r, R r → Q (some (aI r)) (sh_E h))   (n : Nat) : ∀ (l0 : Int32) (l1 : Int32) (l2 : Int32), sh_ok (f_M_manyOf_l4 N n l0 l1 l2 h) R → wq_299 d Q 4 [oI l0, oI l1, oI l2] [] (sh_E h) := by
  induction n with
  | zero => intro l0 l1 l2 H; exact H.elim
  | succ n ih =>
    intro l0 l1 l2 H
    have hk4 := @ih
    replace H : sh_ok (f_M_manyOf_c4 N (f_M_manyOf_l4 N n) l0 l1 l2 h) R := H
    revert hk4 H
    generalize f_M_manyOf_l4 N n = k4
    intro hk4 H
    refine ai_WP_steps mc_299 (sh_CM d) 3 (And.intro (fun c => ?_) (fun c => ?_))
    · replace H := sh_okT c H
      show wq_299 d Q 10 [oI l0, oI l1, oI l2] [] (sh_E h)
      refine ai_WP_steps mc_299 (sh_CM d) 10 ?_
      exact hk4 l0 (l1 + ((l0 >>> (l2 &&& 31)) &&& (1 : Int32))) (l2 + (1 : Int32)) H
    · replace H := sh_okF c H
      show wq_299 d Q 24 [oI l0, oI l1, oI l2] [] (sh_E h)
      exact ai_WP_steps mc_299 (sh_CM d) 2 (hR l1 H)
def f_M_manyOf (N : Nat)  (l0 : Int32) (h : sh_H) : Option Int32 := f_M_manyOf_l4 N N l0 (0 : Int32) (0 : Int32) h
theorem x_M_manyOf (N : Nat) {d : Nat} (hd : 1 ≤ d) (l0 : Int32) (h : sh_H) {Q : ai_Q} {R : Int32 → Prop} (H : sh_ok (f_M_manyOf N l0 h) R) (hR : ∀ r, R r → Q (some (aI r)) (sh_E h)) : ai_Ex sh_T d 299 [aI l0] (sh_E h) Q := by
  obtain ⟨d, rfl⟩ : ∃ e, d = e + 1 := ⟨d - 1, by omega⟩
  replace hd : 0 ≤ d := by omega
  refine And.intro (Nat.le_of_ble_eq_true rfl) ?_
  show wq_299 d Q 0 [oI l0, none, none] [] (sh_E h)
  refine ai_WP_steps mc_299 (sh_CM d) 4 ?_
  exact x_M_manyOf_l4 N hd h hR N l0 (0 : Int32) (0 : Int32) H
def f_M_chooses_b45 (N : Nat)  (k17 : Int32 → Int32 → Int32 → Int32 → sh_H → Option sh_H) (l1 : Int32) (l2 : Int32) (l3 : Int32) (l4 : Int32) (h : sh_H) : Option sh_H := k17 l1 l2 l3 (l4 + (1 : Int32)) h
theorem x_M_chooses_b45 (N : Nat) {d : Nat} (hd : 2 ≤ d) {Q : ai_Q} {R : sh_H → Prop} (hR : ∀ h, R h → Q none (sh_E h))  (k17 : Int32 → Int32 → Int32 → Int32 → sh_H → Option sh_H) (hk17 : ∀ (l1 : Int32) (l2 : Int32) (l3 : Int32) (l4 : Int32) {d5 : Option ai_V} (h : sh_H), sh_ok (k17 l1 l2 l3 l4 h) R → wq_300 d Q 17 [oR 12 0, oI l1, oI l2, oI l3, oI l4, d5] [] (sh_E h)) (l1 : Int32) (l2 : Int32) (l3 : Int32) (l4 : Int32) {d5 : Option ai_V} (h : sh_H) (H : sh_ok (f_M_chooses_b45 N k17 l1 l2 l3 l4 h) R) : wq_300 d Q 45 [oR 12 0, oI l1, oI l2, oI l3, oI l4, d5] [] (sh_E h) := by
  refine ai_WP_steps mc_300 (sh_CM d) 2 ?_
  exact hk17 l1 l2 l3 (l4 + (1 : Int32)) h H
def f_M_chooses_c17 (N : Nat)  (k51 : Int32 → Int32 → Int32 → sh_H → Option sh_H) (k17 : Int32 → Int32 → Int32 → Int32 → sh_H → Option sh_H) (l1 : Int32) (l2 : Int32) (l3 : Int32) (l4 : Int32) (h : sh_H) : Option sh_H := (if ai_in (0 : Int32) 8000 then (if l4 < (h.1 13 46 (0 : Int32).toNatClampNeg) then (Option.bind (f_M_worth l4 h) (fun v1 => (if v1 = (1 : Int32) then f_M_chooses_b45 N k17 l1 l2 (l3 ||| ((1 : Int32) <<< (l4 &&& 31))) l4 h else f_M_chooses_b45 N k17 l1 l2 l3 l4 h))) else k51 l1 l2 l3 h) else none)
def f_M_chooses_l17 (N : Nat)  (k51 : Int32 → Int32 → Int32 → sh_H → Option sh_H) (n : Nat) : Int32 → Int32 → Int32 → Int32 → sh_H → Option sh_H := Nat.rec (motive := fun _ => Int32 → Int32 → Int32 → Int32 → sh_H → Option sh_H) (fun _ _ _ _ _ => none) (fun _ k17 => f_M_chooses_c17 N k51 k17) n
theorem x_M_chooses_l17 (N : Nat) {d : Nat} (hd : 2 ≤ d) {Q : ai_Q} {R : sh_H → Prop} (hR : ∀ h, R h → Q none (sh_E h))  (k51 : Int32 → Int32 → Int32 → sh_H → Option sh_H) (hk51 : ∀ (l1 : Int32) (l2 : Int32) (l3 : Int32) {d4 d5 : Option ai_V} (h : sh_H), sh_ok (k51 l1 l2 l3 h) R → wq_300 d Q 51 [oR 12 0, oI l1, oI l2, oI l3, d4, d5] [] (sh_E h)) (n : Nat) : ∀ (l1 : Int32) (l2 : Int32) (l3 : Int32) (l4 : Int32) {d5 : Option ai_V} (h : sh_H), sh_ok (f_M_chooses_l17 N k51 n l1 l2 l3 l4 h) R → wq_300 d Q 17 [oR 12 0, oI l1, oI l2, oI l3, oI l4, d5] [] (sh_E h) := by
  induction n with
  | zero => intro l1 l2 l3 l4 d5 h H; exact H.elim
  | succ n ih =>
    intro l1 l2 l3 l4 d5 h H
    have hk17 := @ih
    replace H : sh_ok (f_M_chooses_c17 N k51 (f_M_chooses_l17 N k51 n) l1 l2 l3 l4 h) R := H
    revert hk17 H
    generalize f_M_chooses_l17 N k51 n = k17
    intro hk17 H
    have c := sh_okG H
    replace H := sh_okH H
    refine ai_WP_steps mc_300 (sh_CM d) 5 (And.intro c ?_)
    show wq_300 d Q 25 [oR 12 0, oI l1, oI l2, oI l3, oI l4, _] [aI (h.1 13 46 (0 : Int32).toNatClampNeg), aI l4] (sh_E h)
    refine ai_WP_steps mc_300 (sh_CM d) 1 (And.intro (fun c => ?_) (fun c => ?_))
    · replace H := sh_okT c H
      show wq_300 d Q 28 [oR 12 0, oI l1, oI l2, oI l3, oI l4, _] [] (sh_E h)
      refine ai_WP_steps mc_300 (sh_CM d) 3 (And.intro (Nat.le_of_ble_eq_true rfl) (x_M_worth (Nat.le_trans (Nat.le_of_ble_eq_true rfl) hd) l4 h (sh_okB H) (fun v1 H => ?_)))
      show wq_300 d Q 34 [oR 12 0, oI l1, oI l2, oI l3, oI l4, _] [aI v1] (sh_E h)
      refine ai_WP_steps mc_300 (sh_CM d) 2 (And.intro (fun c => ?_) (fun c => ?_))
      · replace H := sh_okT c H
        show wq_300 d Q 38 [oR 12 0, oI l1, oI l2, oI l3, oI l4, _] [] (sh_E h)
        refine ai_WP_steps mc_300 (sh_CM d) 6 ?_
        exact x_M_chooses_b45 N hd hR k17 hk17 l1 l2 (l3 ||| ((1 : Int32) <<< (l4 &&& 31))) l4 h H
      · replace H := sh_okF c H
        exact x_M_chooses_b45 N hd hR k17 hk17 l1 l2 l3 l4 h H
    · replace H := sh_okF c H
      exact hk51 l1 l2 l3 h H
def f_M_chooses_b125 (N : Nat)  (k54 : Int32 → Int32 → Int32 → Int32 → sh_H → Option sh_H) (l1 : Int32) (l2 : Int32) (l3 : Int32) (l4 : Int32) (h : sh_H) : Option sh_H := k54 l1 l2 l3 (l4 + (1 : Int32)) h
theorem x_M_chooses_b125 (N : Nat) {d : Nat} (hd : 2 ≤ d) {Q : ai_Q} {R : sh_H → Prop} (hR : ∀ h, R h → Q none (sh_E h))  (k54 : Int32 → Int32 → Int32 → Int32 → sh_H → Option sh_H) (hk54 : ∀ (l1 : Int32) (l2 : Int32) (l3 : Int32) (l4 : Int32) {d5 : Option ai_V} (h : sh_H), sh_ok (k54 l1 l2 l3 l4 h) R → wq_300 d Q 54 [oR 12 0, oI l1, oI l2, oI l3, oI l4, d5] [] (sh_E h)) (l1 : Int32) (l2 : Int32) (l3 : Int32) (l4 : Int32) {d5 : Option ai_V} (h : sh_H) (H : sh_ok (f_M_chooses_b125 N k54 l1 l2 l3 l4 h) R) : wq_300 d Q 125 [oR 12 0, oI l1, oI l2, oI l3, oI l4, d5] [] (sh_E h) := by
  refine ai_WP_steps mc_300 (sh_CM d) 2 ?_
  exact hk54 l1 l2 l3 (l4 + (1 : Int32)) h H
def f_M_chooses_b113 (N : Nat)  (k54 : Int32 → Int32 → Int32 → Int32 → sh_H → Option sh_H) (l1 : Int32) (l2 : Int32) (l3 : Int32) (l4 : Int32) (l5 : Int32) (h : sh_H) : Option sh_H := (sh_let (sh_pI h 12 0 33 l4) (fun h2 => (sh_let (sh_pI h2 12 0 34 l5) (fun h3 => f_M_chooses_b125 N k54 l1 l2 l3 l4 h3))))
theorem x_M_chooses_b113 (N : Nat) {d : Nat} (hd : 2 ≤ d) {Q : ai_Q} {R : sh_H → Prop} (hR : ∀ h, R h → Q none (sh_E h))  (k54 : Int32 → Int32 → Int32 → Int32 → sh_H → Option sh_H) (hk54 : ∀ (l1 : Int32) (l2 : Int32) (l3 : Int32) (l4 : Int32) {d5 : Option ai_V} (h : sh_H), sh_ok (k54 l1 l2 l3 l4 h) R → wq_300 d Q 54 [oR 12 0, oI l1, oI l2, oI l3, oI l4, d5] [] (sh_E h)) (l1 : Int32) (l2 : Int32) (l3 : Int32) (l4 : Int32) (l5 : Int32) (h : sh_H) (H : sh_ok (f_M_chooses_b113 N k54 l1 l2 l3 l4 l5 h) R) : wq_300 d Q 113 [oR 12 0, oI l1, oI l2, oI l3, oI l4, oI l5] [] (sh_E h) := by
  refine ai_WP_steps mc_300 (sh_CM d) 3 (And.intro trivial ?_)
  show wq_300 d Q 119 [oR 12 0, oI l1, oI l2, oI l3, oI l4, oI l5] [] (sh_E (sh_pI h 12 0 33 l4))
  replace H := sh_okL H
  generalize sh_pI h 12 0 33 l4 = h2 at H ⊢
  refine ai_WP_steps mc_300 (sh_CM d) 3 (And.intro trivial ?_)
  show wq_300 d Q 125 [oR 12 0, oI l1, oI l2, oI l3, oI l4, oI l5] [] (sh_E (sh_pI h2 12 0 34 l5))
  replace H := sh_okL H
  generalize sh_pI h2 12 0 34 l5 = h3 at H ⊢
  exact x_M_chooses_b125 N hd hR k54 hk54 l1 l2 l3 l4 h3 H
def f_M_chooses_c54 (N : Nat)   (k54 : Int32 → Int32 → Int32 → Int32 → sh_H → Option sh_H) (l1 : Int32) (l2 : Int32) (l3 : Int32) (l4 : Int32) (h : sh_H) : Option sh_H := (if ai_in (0 : Int32) 8000 then (if l4 < ((1 : Int32) <<< ((h.1 13 46 (0 : Int32).toNatClampNeg) &&& 31)) then (if (l4 &&& l3) = 0 then f_M_chooses_b125 N k54 l1 l2 l3 l4 h else (sh_b2 (f_M_piecesOf N l4 l1 h) (fun v4 h5 => (Option.bind (f_M_manyOf N l4 h5) (fun v6 => (if (h5.1 12 0 33) < 0 then f_M_chooses_b113 N k54 l1 l2 l3 l4 (v4 + (l2 * v6)) h5 else (if (v4 + (l2 * v6)) < (h5.1 12 0 34) then f_M_chooses_b113 N k54 l1 l2 l3 l4 (v4 + (l2 * v6)) h5 else f_M_chooses_b125 N k54 l1 l2 l3 l4 h5))))))) else (some h)) else none)
def f_M_chooses_l54 (N : Nat)   (n : Nat) : Int32 → Int32 → Int32 → Int32 → sh_H → Option sh_H := Nat.rec (motive := fun _ => Int32 → Int32 → Int32 → Int32 → sh_H → Option sh_H) (fun _ _ _ _ _ => none) (fun _ k54 => f_M_chooses_c54 N k54) n
theorem x_M_chooses_l54 (N : Nat) {d : Nat} (hd : 2 ≤ d) {Q : ai_Q} {R : sh_H → Prop} (hR : ∀ h, R h → Q none (sh_E h))   (n : Nat) : ∀ (l1 : Int32) (l2 : Int32) (l3 : Int32) (l4 : Int32) {d5 : Option ai_V} (h : sh_H), sh_ok (f_M_chooses_l54 N n l1 l2 l3 l4 h) R → wq_300 d Q 54 [oR 12 0, oI l1, oI l2, oI l3, oI l4, d5] [] (sh_E h) := by
  induction n with
  | zero => intro l1 l2 l3 l4 d5 h H; exact H.elim
  | succ n ih =>
    intro l1 l2 l3 l4 d5 h H
    have hk54 := @ih
    replace H : sh_ok (f_M_chooses_c54 N (f_M_chooses_l54 N n) l1 l2 l3 l4 h) R := H
    revert hk54 H
    generalize f_M_chooses_l54 N n = k54
    intro hk54 H
    have c := sh_okG H
    replace H := sh_okH H
    refine ai_WP_steps mc_300 (sh_CM d) 6 (And.intro c ?_)
    show wq_300 d Q 63 [oR 12 0, oI l1, oI l2, oI l3, oI l4, _] [aI (h.1 13 46 (0 : Int32).toNatClampNeg), aI (1 : Int32), aI l4] (sh_E h)
    refine ai_WP_steps mc_300 (sh_CM d) 2 (And.intro (fun c => ?_) (fun c => ?_))
    · replace H := sh_okT c H
      show wq_300 d Q 67 [oR 12 0, oI l1, oI l2, oI l3, oI l4, _] [] (sh_E h)
      refine ai_WP_steps mc_300 (sh_CM d) 4 (And.intro (fun c => ?_) (fun c => ?_))
      · replace H := sh_okT c H
        show wq_300 d Q 74 [oR 12 0, oI l1, oI l2, oI l3, oI l4, _] [] (sh_E h)
        refine ai_WP_steps mc_300 (sh_CM d) 1 ?_
        exact x_M_chooses_b125 N hd hR k54 hk54 l1 l2 l3 l4 h H
      · replace H := sh_okF c H
        show wq_300 d Q 77 [oR 12 0, oI l1, oI l2, oI l3, oI l4, _] [] (sh_E h)
        refine ai_WP_steps mc_300 (sh_CM d) 4 (And.intro (Nat.le_of_ble_eq_true rfl) (x_M_piecesOf N (Nat.le_trans (Nat.le_of_ble_eq_true rfl) hd) l4 l1 h (sh_okB H) (fun v4 h5 H => ?_)))
        show wq_300 d Q 84 [oR 12 0, oI l1, oI l2, oI l3, oI l4, _] [aI v4] (sh_E h5)
        refine ai_WP_steps mc_300 (sh_CM d) 3 (And.intro (Nat.le_of_ble_eq_true rfl) (x_M_manyOf N (Nat.le_trans (Nat.le_of_ble_eq_true rfl) hd) l4 h5 (sh_okB H) (fun v6 H => ?_)))
        show wq_300 d Q 90 [oR 12 0, oI l1, oI l2, oI l3, oI l4, _] [aI v6, aI l2, aI v4] (sh_E h5)
        refine ai_WP_steps mc_300 (sh_CM d) 6 (And.intro (fun c => ?_) (fun c => ?_))
        · replace H := sh_okT c H
          exact x_M_chooses_b113 N hd hR k54 hk54 l1 l2 l3 l4 (v4 + (l2 * v6)) h5 H
        · replace H := sh_okF c H
          show wq_300 d Q 101 [oR 12 0, oI l1, oI l2, oI l3, oI l4, oI (v4 + (l2 * v6))] [] (sh_E h5)
          refine ai_WP_steps mc_300 (sh_CM d) 4 (And.intro (fun c => ?_) (fun c => ?_))
          · replace H := sh_okT c H
            exact x_M_chooses_b113 N hd hR k54 hk54 l1 l2 l3 l4 (v4 + (l2 * v6)) h5 H
          · replace H := sh_okF c H
            show wq_300 d Q 110 [oR 12 0, oI l1, oI l2, oI l3, oI l4, oI (v4 + (l2 * v6))] [] (sh_E h5)
            refine ai_WP_steps mc_300 (sh_CM d) 1 ?_
            exact x_M_chooses_b125 N hd hR k54 hk54 l1 l2 l3 l4 h5 H
    · replace H := sh_okF c H
      show wq_300 d Q 131 [oR 12 0, oI l1, oI l2, oI l3, oI l4, _] [] (sh_E h)
      exact ai_WP_steps mc_300 (sh_CM d) 1 (hR h H)
def f_M_chooses_b51 (N : Nat)   (l1 : Int32) (l2 : Int32) (l3 : Int32) (h : sh_H) : Option sh_H := f_M_chooses_l54 N N l1 l2 l3 (1 : Int32) h
theorem x_M_chooses_b51 (N : Nat) {d : Nat} (hd : 2 ≤ d) {Q : ai_Q} {R : sh_H → Prop} (hR : ∀ h, R h → Q none (sh_E h))   (l1 : Int32) (l2 : Int32) (l3 : Int32) {d4 d5 : Option ai_V} (h : sh_H) (H : sh_ok (f_M_chooses_b51 N l1 l2 l3 h) R) : wq_300 d Q 51 [oR 12 0, oI l1, oI l2, oI l3, d4, d5] [] (sh_E h) := by
  refine ai_WP_steps mc_300 (sh_CM d) 2 ?_
  exact x_M_chooses_l54 N hd hR N l1 l2 l3 (1 : Int32) h H
def f_M_chooses (N : Nat)  (l1 : Int32) (l2 : Int32) (h : sh_H) : Option sh_H := (sh_let (sh_pI h 12 0 33 (-2 : Int32)) (fun h7 => (sh_let (sh_pI h7 12 0 34 (-2 : Int32)) (fun h8 => f_M_chooses_l17 N (f_M_chooses_b51 N) N l1 l2 (0 : Int32) (0 : Int32) h8))))
theorem x_M_chooses (N : Nat) {d : Nat} (hd : 3 ≤ d) (l1 : Int32) (l2 : Int32) (h : sh_H) {Q : ai_Q} {R : sh_H → Prop} (H : sh_ok (f_M_chooses N l1 l2 h) R) (hR : ∀ h, R h → Q none (sh_E h)) : ai_Ex sh_T d 300 [aR 12 0, aI l1, aI l2] (sh_E h) Q := by
  obtain ⟨d, rfl⟩ : ∃ e, d = e + 1 := ⟨d - 1, by omega⟩
  replace hd : 2 ≤ d := by omega
  refine And.intro (Nat.le_of_ble_eq_true rfl) ?_
  show wq_300 d Q 0 [oR 12 0, oI l1, oI l2, none, none, none] [] (sh_E h)
  refine ai_WP_steps mc_300 (sh_CM d) 3 (And.intro trivial ?_)
  show wq_300 d Q 6 [oR 12 0, oI l1, oI l2, _, _, _] [] (sh_E (sh_pI h 12 0 33 (-2 : Int32)))
  replace H := sh_okL H
  generalize sh_pI h 12 0 33 (-2 : Int32) = h7 at H ⊢
  refine ai_WP_steps mc_300 (sh_CM d) 3 (And.intro trivial ?_)
  show wq_300 d Q 12 [oR 12 0, oI l1, oI l2, _, _, _] [] (sh_E (sh_pI h7 12 0 34 (-2 : Int32)))
  replace H := sh_okL H
  generalize sh_pI h7 12 0 34 (-2 : Int32) = h8 at H ⊢
  refine ai_WP_steps mc_300 (sh_CM d) 4 ?_
  exact x_M_chooses_l17 N hd hR (f_M_chooses_b51 N) (fun z0 z1 z2 {e4} {e5} h H => x_M_chooses_b51 N hd hR z0 z1 z2 h H) N l1 l2 (0 : Int32) (0 : Int32) h8 H
def f_M_which (N : Nat)  (l1 : Int32) (l2 : Int32) (h : sh_H) : Option (Int32 × sh_H) := (Option.bind (f_M_isIn l1 (1 : Int32) (400 : Int32) h) (fun v1 => (if v1 = 0 then (some ((-1 : Int32), h)) else (Option.bind (f_M_isIn l2 (0 : Int32) (99 : Int32) h) (fun v2 => (if v2 = 0 then (some ((-1 : Int32), h)) else (Option.bind (f_M_chooses N l1 l2 h) (fun h3 => (some ((h3.1 12 0 33), h3))))))))))
theorem x_M_which (N : Nat) {d : Nat} (hd : 4 ≤ d) (l1 : Int32) (l2 : Int32) (h : sh_H) {Q : ai_Q} {R : Int32 × sh_H → Prop} (H : sh_ok (f_M_which N l1 l2 h) R) (hR : ∀ r h, R (r, h) → Q (some (aI r)) (sh_E h)) : ai_Ex sh_T d 301 [aR 12 0, aI l1, aI l2] (sh_E h) Q := by
  obtain ⟨d, rfl⟩ : ∃ e, d = e + 1 := ⟨d - 1, by omega⟩
  replace hd : 3 ≤ d := by omega
  refine And.intro (Nat.le_of_ble_eq_true rfl) ?_
  show wq_301 d Q 0 [oR 12 0, oI l1, oI l2] [] (sh_E h)
  refine ai_WP_steps mc_301 (sh_CM d) 4 (And.intro (Nat.le_of_ble_eq_true rfl) (x_M_isIn (Nat.le_trans (Nat.le_of_ble_eq_true rfl) hd) l1 (1 : Int32) (400 : Int32) h (sh_okB H) (fun v1 H => ?_)))
  show wq_301 d Q 8 [oR 12 0, oI l1, oI l2] [aI v1] (sh_E h)
  refine ai_WP_steps mc_301 (sh_CM d) 1 (And.intro (fun c => ?_) (fun c => ?_))
  · replace H := sh_okT c H
    show wq_301 d Q 21 [oR 12 0, oI l1, oI l2] [] (sh_E h)
    exact ai_WP_steps mc_301 (sh_CM d) 2 (hR (-1 : Int32) h H)
  · replace H := sh_okF c H
    show wq_301 d Q 11 [oR 12 0, oI l1, oI l2] [] (sh_E h)
    refine ai_WP_steps mc_301 (sh_CM d) 4 (And.intro (Nat.le_of_ble_eq_true rfl) (x_M_isIn (Nat.le_trans (Nat.le_of_ble_eq_true rfl) hd) l2 (0 : Int32) (99 : Int32) h (sh_okB H) (fun v2 H => ?_)))
    show wq_301 d Q 18 [oR 12 0, oI l1, oI l2] [aI v2] (sh_E h)
    refine ai_WP_steps mc_301 (sh_CM d) 1 (And.intro (fun c => ?_) (fun c => ?_))
    · replace H := sh_okT c H
      show wq_301 d Q 21 [oR 12 0, oI l1, oI l2] [] (sh_E h)
      exact ai_WP_steps mc_301 (sh_CM d) 2 (hR (-1 : Int32) h H)
    · replace H := sh_okF c H
      show wq_301 d Q 23 [oR 12 0, oI l1, oI l2] [] (sh_E h)
      refine ai_WP_steps mc_301 (sh_CM d) 4 (And.intro (Nat.le_of_ble_eq_true rfl) (x_M_chooses N (Nat.le_trans (Nat.le_of_ble_eq_true rfl) hd) l1 l2 h (sh_okB H) (fun h3 H => ?_)))
      show wq_301 d Q 29 [oR 12 0, oI l1, oI l2] [] (sh_E h3)
      exact ai_WP_steps mc_301 (sh_CM d) 3 (hR (h3.1 12 0 33) h3 H)
def f_M_whichSum (N : Nat)  (l1 : Int32) (l2 : Int32) (h : sh_H) : Option (Int32 × sh_H) := (Option.bind (f_M_isIn l1 (1 : Int32) (400 : Int32) h) (fun v1 => (if v1 = 0 then (some ((-1 : Int32), h)) else (Option.bind (f_M_isIn l2 (0 : Int32) (99 : Int32) h) (fun v2 => (if v2 = 0 then (some ((-1 : Int32), h)) else (Option.bind (f_M_chooses N l1 l2 h) (fun h3 => (some ((h3.1 12 0 34), h3))))))))))
theorem x_M_whichSum (N : Nat) {d : Nat} (hd : 4 ≤ d) (l1 : Int32) (l2 : Int32) (h : sh_H) {Q : ai_Q} {R : Int32 × sh_H → Prop} (H : sh_ok (f_M_whichSum N l1 l2 h) R) (hR : ∀ r h, R (r, h) → Q (some (aI r)) (sh_E h)) : ai_Ex sh_T d 302 [aR 12 0, aI l1, aI l2] (sh_E h) Q := by
  obtain ⟨d, rfl⟩ : ∃ e, d = e + 1 := ⟨d - 1, by omega⟩
  replace hd : 3 ≤ d := by omega
  refine And.intro (Nat.le_of_ble_eq_true rfl) ?_
  show wq_302 d Q 0 [oR 12 0, oI l1, oI l2] [] (sh_E h)
  refine ai_WP_steps mc_302 (sh_CM d) 4 (And.intro (Nat.le_of_ble_eq_true rfl) (x_M_isIn (Nat.le_trans (Nat.le_of_ble_eq_true rfl) hd) l1 (1 : Int32) (400 : Int32) h (sh_okB H) (fun v1 H => ?_)))
  show wq_302 d Q 8 [oR 12 0, oI l1, oI l2] [aI v1] (sh_E h)
  refine ai_WP_steps mc_302 (sh_CM d) 1 (And.intro (fun c => ?_) (fun c => ?_))
  · replace H := sh_okT c H
    show wq_302 d Q 21 [oR 12 0, oI l1, oI l2] [] (sh_E h)
    exact ai_WP_steps mc_302 (sh_CM d) 2 (hR (-1 : Int32) h H)
  · replace H := sh_okF c H
    show wq_302 d Q 11 [oR 12 0, oI l1, oI l2] [] (sh_E h)
    refine ai_WP_steps mc_302 (sh_CM d) 4 (And.intro (Nat.le_of_ble_eq_true rfl) (x_M_isIn (Nat.le_trans (Nat.le_of_ble_eq_true rfl) hd) l2 (0 : Int32) (99 : Int32) h (sh_okB H) (fun v2 H => ?_)))
    show wq_302 d Q 18 [oR 12 0, oI l1, oI l2] [aI v2] (sh_E h)
    refine ai_WP_steps mc_302 (sh_CM d) 1 (And.intro (fun c => ?_) (fun c => ?_))
    · replace H := sh_okT c H
      show wq_302 d Q 21 [oR 12 0, oI l1, oI l2] [] (sh_E h)
      exact ai_WP_steps mc_302 (sh_CM d) 2 (hR (-1 : Int32) h H)
    · replace H := sh_okF c H
      show wq_302 d Q 23 [oR 12 0, oI l1, oI l2] [] (sh_E h)
      refine ai_WP_steps mc_302 (sh_CM d) 4 (And.intro (Nat.le_of_ble_eq_true rfl) (x_M_chooses N (Nat.le_trans (Nat.le_of_ble_eq_true rfl) hd) l1 l2 h (sh_okB H) (fun h3 H => ?_)))
      show wq_302 d Q 29 [oR 12 0, oI l1, oI l2] [] (sh_E h3)
      exact ai_WP_steps mc_302 (sh_CM d) 3 (hR (h3.1 12 0 34) h3 H)
def f_M_power_c5 (N : Nat)  (k21 : Int64 → sh_H → Option Int64) (k5 : Int64 → Int32 → Int64 → Int32 → sh_H → Option Int64) (l0 : Int64) (l2 : Int32) (l3 : Int64) (l5 : Int32) (h : sh_H) : Option Int64 := (if l5 < l2 then k5 l0 l2 (l3 * l0) (l5 + (1 : Int32)) h else k21 l3 h)
def f_M_power_l5 (N : Nat)  (k21 : Int64 → sh_H → Option Int64) (n : Nat) : Int64 → Int32 → Int64 → Int32 → sh_H → Option Int64 := Nat.rec (motive := fun _ => Int64 → Int32 → Int64 → Int32 → sh_H → Option Int64) (fun _ _ _ _ _ => none) (fun _ k5 => f_M_power_c5 N k21 k5) n
theorem x_M_power_l5 (N : Nat) {d : Nat} (hd : 0 ≤ d) (h : sh_H) {Q : ai_Q} {R : Int64 → Prop} (hR : ∀ r, R r → Q (some (aL r)) (sh_E h))  (k21 : Int64 → sh_H → Option Int64) (hk21 : ∀ (l3 : Int64) {d0 d1 d2 d4 d5 : Option ai_V}, sh_ok (k21 l3 h) R → wq_303 d Q 21 [d0, d1, d2, oL l3, d4, d5] [] (sh_E h)) (n : Nat) : ∀ (l0 : Int64) (l2 : Int32) (l3 : Int64) (l5 : Int32) {d1 d4 : Option ai_V}, sh_ok (f_M_power_l5 N k21 n l0 l2 l3 l5 h) R → wq_303 d Q 5 [oL l0, d1, oI l2, oL l3, d4, oI l5] [] (sh_E h) := by
  induction n with
  | zero => intro l0 l2 l3 l5 d1 d4 H; exact H.elim
  | succ n ih =>
    intro l0 l2 l3 l5 d1 d4 H
    have hk5 := @ih
    replace H : sh_ok (f_M_power_c5 N k21 (f_M_power_l5 N k21 n) l0 l2 l3 l5 h) R := H
    revert hk5 H
    generalize f_M_power_l5 N k21 n = k5
    intro hk5 H
    refine ai_WP_steps mc_303 (sh_CM d) 3 (And.intro (fun c => ?_) (fun c => ?_))
    · replace H := sh_okT c H
      show wq_303 d Q 11 [oL l0, _, oI l2, oL l3, _, oI l5] [] (sh_E h)
      refine ai_WP_steps mc_303 (sh_CM d) 6 ?_
      exact hk5 l0 l2 (l3 * l0) (l5 + (1 : Int32)) H
    · replace H := sh_okF c H
      exact hk21 l3 H
def f_M_power_b21 (N : Nat)   (l3 : Int64) (h : sh_H) : Option Int64 := (some l3)
theorem x_M_power_b21 (N : Nat) {d : Nat} (hd : 0 ≤ d) (h : sh_H) {Q : ai_Q} {R : Int64 → Prop} (hR : ∀ r, R r → Q (some (aL r)) (sh_E h))   (l3 : Int64) {d0 d1 d2 d4 d5 : Option ai_V} (H : sh_ok (f_M_power_b21 N l3 h) R) : wq_303 d Q 21 [d0, d1, d2, oL l3, d4, d5] [] (sh_E h) := by
  exact ai_WP_steps mc_303 (sh_CM d) 2 (hR l3 H)
def f_M_power (N : Nat)  (l0 : Int64) (l2 : Int32) (h : sh_H) : Option Int64 := f_M_power_l5 N (f_M_power_b21 N) N l0 l2 (1 : Int64) (0 : Int32) h
theorem x_M_power (N : Nat) {d : Nat} (hd : 1 ≤ d) (l0 : Int64) (l2 : Int32) (h : sh_H) {Q : ai_Q} {R : Int64 → Prop} (H : sh_ok (f_M_power N l0 l2 h) R) (hR : ∀ r, R r → Q (some (aL r)) (sh_E h)) : ai_Ex sh_T d 303 [aL l0, aI l2] (sh_E h) Q := by
  obtain ⟨d, rfl⟩ : ∃ e, d = e + 1 := ⟨d - 1, by omega⟩
  replace hd : 0 ≤ d := by omega
  refine And.intro (Nat.le_of_ble_eq_true rfl) ?_
  show wq_303 d Q 0 [oL l0, none, oI l2, none, none, none] [] (sh_E h)
  refine ai_WP_steps mc_303 (sh_CM d) 4 ?_
  exact x_M_power_l5 N hd h hR (f_M_power_b21 N) (fun z0 {e0} {e1} {e2} {e4} {e5} H => x_M_power_b21 N hd h hR z0 H) N l0 l2 (1 : Int64) (0 : Int32) H
def f_M_leastOf_b232 (N : Nat)  (k174 : Int32 → Int32 → Int32 → Int32 → Int64 → Int32 → Int32 → Int32 → Int64 → Int32 → Int64 → Int32 → sh_H → Option (Int64 × sh_H)) (l1 : Int32) (l2 : Int32) (l4 : Int32) (l5 : Int32) (l6 : Int64) (l8 : Int32) (l10 : Int32) (l11 : Int32) (l13 : Int64) (l15 : Int32) (l18 : Int32) (s0 : Int64) (s1 : Int64) (h : sh_H) : Option (Int64 × sh_H) := k174 l1 l2 l4 l5 l6 l8 l10 l11 l13 l15 (s0 + s1) (l18 + (1 : Int32)) h
theorem x_M_leastOf_b232 (N : Nat) {d : Nat} (hd : 3 ≤ d) {Q : ai_Q} {R : Int64 × sh_H → Prop} (hR : ∀ r h, R (r, h) → Q (some (aL r)) (sh_E h))  (k174 : Int32 → Int32 → Int32 → Int32 → Int64 → Int32 → Int32 → Int32 → Int64 → Int32 → Int64 → Int32 → sh_H → Option (Int64 × sh_H)) (hk174 : ∀ (l1 : Int32) (l2 : Int32) (l4 : Int32) (l5 : Int32) (l6 : Int64) (l8 : Int32) (l10 : Int32) (l11 : Int32) (l13 : Int64) (l15 : Int32) (l16 : Int64) (l18 : Int32) {d3 d7 d9 d12 d14 d17 d19 : Option ai_V} (h : sh_H), sh_ok (k174 l1 l2 l4 l5 l6 l8 l10 l11 l13 l15 l16 l18 h) R → wq_304 d Q 174 [oR 12 0, oI l1, oI l2, d3, oI l4, oI l5, oL l6, d7, oI l8, d9, oI l10, oI l11, d12, oL l13, d14, oI l15, oL l16, d17, oI l18, d19] [] (sh_E h)) (l1 : Int32) (l2 : Int32) (l4 : Int32) (l5 : Int32) (l6 : Int64) (l8 : Int32) (l10 : Int32) (l11 : Int32) (l13 : Int64) (l15 : Int32) (l18 : Int32) (s0 : Int64) (s1 : Int64) {d3 d7 d9 d12 d14 d16 d17 d19 : Option ai_V} (h : sh_H) (H : sh_ok (f_M_leastOf_b232 N k174 l1 l2 l4 l5 l6 l8 l10 l11 l13 l15 l18 s0 s1 h) R) : wq_304 d Q 232 [oR 12 0, oI l1, oI l2, d3, oI l4, oI l5, oL l6, d7, oI l8, d9, oI l10, oI l11, d12, oL l13, d14, oI l15, d16, d17, oI l18, d19] [aL s1, aL s0] (sh_E h) := by
  refine ai_WP_steps mc_304 (sh_CM d) 4 ?_
  exact hk174 l1 l2 l4 l5 l6 l8 l10 l11 l13 l15 (s0 + s1) (l18 + (1 : Int32)) h H
def f_M_leastOf_c174 (N : Nat)  (k241 : Int32 → Int32 → Int32 → Int32 → Int64 → Int32 → Int32 → Int32 → Int64 → Int32 → Int64 → sh_H → Option (Int64 × sh_H)) (k174 : Int32 → Int32 → Int32 → Int32 → Int64 → Int32 → Int32 → Int32 → Int64 → Int32 → Int64 → Int32 → sh_H → Option (Int64 × sh_H)) (l1 : Int32) (l2 : Int32) (l4 : Int32) (l5 : Int32) (l6 : Int64) (l8 : Int32) (l10 : Int32) (l11 : Int32) (l13 : Int64) (l15 : Int32) (l16 : Int64) (l18 : Int32) (h : sh_H) : Option (Int64 × sh_H) := (if l5 < l18 then k241 l1 l2 l4 l5 l6 l8 l10 l11 l13 l15 l16 h else (if (((l4 + l15) - l10) - l18) < 0 then (Option.bind (f_M_harm l1 h) (fun v1 => (if ai_in (0 : Int32) 61 then f_M_leastOf_b232 N k174 l1 l2 l4 l5 l6 l8 l10 l11 l13 l15 l18 l16 ((((-(((l4 + l15) - l10) - l18)).toInt64 * v1.toInt64) * l6) + (h.2.1 14 9 (0 : Int32).toNatClampNeg)) h else none))) else (if ai_in (((l4 + l15) - l10) - l18) 61 then f_M_leastOf_b232 N k174 l1 l2 l4 l5 l6 l8 l10 l11 l13 l15 l18 l16 (h.2.1 14 9 (((l4 + l15) - l10) - l18).toNatClampNeg) h else none)))
def f_M_leastOf_l174 (N : Nat)  (k241 : Int32 → Int32 → Int32 → Int32 → Int64 → Int32 → Int32 → Int32 → Int64 → Int32 → Int64 → sh_H → Option (Int64 × sh_H)) (n : Nat) : Int32 → Int32 → Int32 → Int32 → Int64 → Int32 → Int32 → Int32 → Int64 → Int32 → Int64 → Int32 → sh_H → Option (Int64 × sh_H) := Nat.rec (motive := fun _ => Int32 → Int32 → Int32 → Int32 → Int64 → Int32 → Int32 → Int32 → Int64 → Int32 → Int64 → Int32 → sh_H → Option (Int64 × sh_H)) (fun _ _ _ _ _ _ _ _ _ _ _ _ _ => none) (fun _ k174 => f_M_leastOf_c174 N k241 k174) n
theorem x_M_leastOf_l174 (N : Nat) {d : Nat} (hd : 3 ≤ d) {Q : ai_Q} {R : Int64 × sh_H → Prop} (hR : ∀ r h, R (r, h) → Q (some (aL r)) (sh_E h))  (k241 : Int32 → Int32 → Int32 → Int32 → Int64 → Int32 → Int32 → Int32 → Int64 → Int32 → Int64 → sh_H → Option (Int64 × sh_H)) (hk241 : ∀ (l1 : Int32) (l2 : Int32) (l4 : Int32) (l5 : Int32) (l6 : Int64) (l8 : Int32) (l10 : Int32) (l11 : Int32) (l13 : Int64) (l15 : Int32) (l16 : Int64) {d3 d7 d9 d12 d14 d17 d18 d19 : Option ai_V} (h : sh_H), sh_ok (k241 l1 l2 l4 l5 l6 l8 l10 l11 l13 l15 l16 h) R → wq_304 d Q 241 [oR 12 0, oI l1, oI l2, d3, oI l4, oI l5, oL l6, d7, oI l8, d9, oI l10, oI l11, d12, oL l13, d14, oI l15, oL l16, d17, d18, d19] [] (sh_E h)) (n : Nat) : ∀ (l1 : Int32) (l2 : Int32) (l4 : Int32) (l5 : Int32) (l6 : Int64) (l8 : Int32) (l10 : Int32) (l11 : Int32) (l13 : Int64) (l15 : Int32) (l16 : Int64) (l18 : Int32) {d3 d7 d9 d12 d14 d17 d19 : Option ai_V} (h : sh_H), sh_ok (f_M_leastOf_l174 N k241 n l1 l2 l4 l5 l6 l8 l10 l11 l13 l15 l16 l18 h) R → wq_304 d Q 174 [oR 12 0, oI l1, oI l2, d3, oI l4, oI l5, oL l6, d7, oI l8, d9, oI l10, oI l11, d12, oL l13, d14, oI l15, oL l16, d17, oI l18, d19] [] (sh_E h) := by
  induction n with
  | zero => intro l1 l2 l4 l5 l6 l8 l10 l11 l13 l15 l16 l18 d3 d7 d9 d12 d14 d17 d19 h H; exact H.elim
  | succ n ih =>
    intro l1 l2 l4 l5 l6 l8 l10 l11 l13 l15 l16 l18 d3 d7 d9 d12 d14 d17 d19 h H
    have hk174 := @ih
    replace H : sh_ok (f_M_leastOf_c174 N k241 (f_M_leastOf_l174 N k241 n) l1 l2 l4 l5 l6 l8 l10 l11 l13 l15 l16 l18 h) R := H
    revert hk174 H
    generalize f_M_leastOf_l174 N k241 n = k174
    intro hk174 H
    refine ai_WP_steps mc_304 (sh_CM d) 3 (And.intro (fun c => ?_) (fun c => ?_))
    · replace H := sh_okT c H
      exact hk241 l1 l2 l4 l5 l6 l8 l10 l11 l13 l15 l16 h H
    · replace H := sh_okF c H
      show wq_304 d Q 181 [oR 12 0, oI l1, oI l2, _, oI l4, oI l5, oL l6, _, oI l8, _, oI l10, oI l11, _, oL l13, _, oI l15, oL l16, _, oI l18, _] [] (sh_E h)
      refine ai_WP_steps mc_304 (sh_CM d) 11 (And.intro (fun c => ?_) (fun c => ?_))
      · replace H := sh_okT c H
        show wq_304 d Q 201 [oR 12 0, oI l1, oI l2, _, oI l4, oI l5, oL l6, _, oI l8, _, oI l10, oI l11, _, oL l13, _, oI l15, oL l16, _, oI l18, oI (((l4 + l15) - l10) - l18)] [aL l16] (sh_E h)
        refine ai_WP_steps mc_304 (sh_CM d) 6 (And.intro (Nat.le_of_ble_eq_true rfl) (x_M_harm (Nat.le_trans (Nat.le_of_ble_eq_true rfl) hd) l1 h (sh_okB H) (fun v1 H => ?_)))
        show wq_304 d Q 210 [oR 12 0, oI l1, oI l2, _, oI l4, oI l5, oL l6, _, oI l8, _, oI l10, oI l11, _, oL l13, _, oI l15, oL l16, _, oI l18, oI (((l4 + l15) - l10) - l18)] [aI v1, aL (-(((l4 + l15) - l10) - l18)).toInt64, aL l16] (sh_E h)
        have c := sh_okG H
        replace H := sh_okH H
        refine ai_WP_steps mc_304 (sh_CM d) 8 (And.intro c ?_)
        show wq_304 d Q 221 [oR 12 0, oI l1, oI l2, _, oI l4, oI l5, oL l6, _, oI l8, _, oI l10, oI l11, _, oL l13, _, oI l15, oL l16, _, oI l18, oI (((l4 + l15) - l10) - l18)] [aL (h.2.1 14 9 (0 : Int32).toNatClampNeg), aL (((-(((l4 + l15) - l10) - l18)).toInt64 * v1.toInt64) * l6), aL l16] (sh_E h)
        refine ai_WP_steps mc_304 (sh_CM d) 2 ?_
        exact x_M_leastOf_b232 N hd hR k174 hk174 l1 l2 l4 l5 l6 l8 l10 l11 l13 l15 l18 l16 ((((-(((l4 + l15) - l10) - l18)).toInt64 * v1.toInt64) * l6) + (h.2.1 14 9 (0 : Int32).toNatClampNeg)) h H
      · replace H := sh_okF c H
        show wq_304 d Q 225 [oR 12 0, oI l1, oI l2, _, oI l4, oI l5, oL l6, _, oI l8, _, oI l10, oI l11, _, oL l13, _, oI l15, oL l16, _, oI l18, oI (((l4 + l15) - l10) - l18)] [aL l16] (sh_E h)
        have c := sh_okG H
        replace H := sh_okH H
        refine ai_WP_steps mc_304 (sh_CM d) 4 (And.intro c ?_)
        show wq_304 d Q 232 [oR 12 0, oI l1, oI l2, _, oI l4, oI l5, oL l6, _, oI l8, _, oI l10, oI l11, _, oL l13, _, oI l15, oL l16, _, oI l18, oI (((l4 + l15) - l10) - l18)] [aL (h.2.1 14 9 (((l4 + l15) - l10) - l18).toNatClampNeg), aL l16] (sh_E h)
        exact x_M_leastOf_b232 N hd hR k174 hk174 l1 l2 l4 l5 l6 l8 l10 l11 l13 l15 l18 l16 (h.2.1 14 9 (((l4 + l15) - l10) - l18).toNatClampNeg) h H
def f_M_leastOf_b269 (N : Nat)  (k104 : Int32 → Int32 → Int32 → Int32 → Int64 → Int32 → Int32 → Int32 → Int64 → Int32 → sh_H → Option (Int64 × sh_H)) (l1 : Int32) (l2 : Int32) (l4 : Int32) (l5 : Int32) (l6 : Int64) (l8 : Int32) (l10 : Int32) (l11 : Int32) (l13 : Int64) (l15 : Int32) (h : sh_H) : Option (Int64 × sh_H) := k104 l1 l2 l4 l5 l6 l8 l10 l11 l13 (l15 + (1 : Int32)) h
theorem x_M_leastOf_b269 (N : Nat) {d : Nat} (hd : 3 ≤ d) {Q : ai_Q} {R : Int64 × sh_H → Prop} (hR : ∀ r h, R (r, h) → Q (some (aL r)) (sh_E h))  (k104 : Int32 → Int32 → Int32 → Int32 → Int64 → Int32 → Int32 → Int32 → Int64 → Int32 → sh_H → Option (Int64 × sh_H)) (hk104 : ∀ (l1 : Int32) (l2 : Int32) (l4 : Int32) (l5 : Int32) (l6 : Int64) (l8 : Int32) (l10 : Int32) (l11 : Int32) (l13 : Int64) (l15 : Int32) {d3 d7 d9 d12 d14 d16 d17 d18 d19 : Option ai_V} (h : sh_H), sh_ok (k104 l1 l2 l4 l5 l6 l8 l10 l11 l13 l15 h) R → wq_304 d Q 104 [oR 12 0, oI l1, oI l2, d3, oI l4, oI l5, oL l6, d7, oI l8, d9, oI l10, oI l11, d12, oL l13, d14, oI l15, d16, d17, d18, d19] [] (sh_E h)) (l1 : Int32) (l2 : Int32) (l4 : Int32) (l5 : Int32) (l6 : Int64) (l8 : Int32) (l10 : Int32) (l11 : Int32) (l13 : Int64) (l15 : Int32) {d3 d7 d9 d12 d14 d16 d17 d18 d19 : Option ai_V} (h : sh_H) (H : sh_ok (f_M_leastOf_b269 N k104 l1 l2 l4 l5 l6 l8 l10 l11 l13 l15 h) R) : wq_304 d Q 269 [oR 12 0, oI l1, oI l2, d3, oI l4, oI l5, oL l6, d7, oI l8, d9, oI l10, oI l11, d12, oL l13, d14, oI l15, d16, d17, d18, d19] [] (sh_E h) := by
  refine ai_WP_steps mc_304 (sh_CM d) 2 ?_
  exact hk104 l1 l2 l4 l5 l6 l8 l10 l11 l13 (l15 + (1 : Int32)) h H
def f_M_leastOf_b259 (N : Nat)  (k104 : Int32 → Int32 → Int32 → Int32 → Int64 → Int32 → Int32 → Int32 → Int64 → Int32 → sh_H → Option (Int64 × sh_H)) (l1 : Int32) (l2 : Int32) (l4 : Int32) (l5 : Int32) (l6 : Int64) (l8 : Int32) (l10 : Int32) (l11 : Int32) (l15 : Int32) (l16 : Int64) (h : sh_H) : Option (Int64 × sh_H) := (sh_let (sh_pI h 12 0 37 l15) (fun h2 => f_M_leastOf_b269 N k104 l1 l2 l4 l5 l6 l8 l10 l11 l16 l15 h2))
theorem x_M_leastOf_b259 (N : Nat) {d : Nat} (hd : 3 ≤ d) {Q : ai_Q} {R : Int64 × sh_H → Prop} (hR : ∀ r h, R (r, h) → Q (some (aL r)) (sh_E h))  (k104 : Int32 → Int32 → Int32 → Int32 → Int64 → Int32 → Int32 → Int32 → Int64 → Int32 → sh_H → Option (Int64 × sh_H)) (hk104 : ∀ (l1 : Int32) (l2 : Int32) (l4 : Int32) (l5 : Int32) (l6 : Int64) (l8 : Int32) (l10 : Int32) (l11 : Int32) (l13 : Int64) (l15 : Int32) {d3 d7 d9 d12 d14 d16 d17 d18 d19 : Option ai_V} (h : sh_H), sh_ok (k104 l1 l2 l4 l5 l6 l8 l10 l11 l13 l15 h) R → wq_304 d Q 104 [oR 12 0, oI l1, oI l2, d3, oI l4, oI l5, oL l6, d7, oI l8, d9, oI l10, oI l11, d12, oL l13, d14, oI l15, d16, d17, d18, d19] [] (sh_E h)) (l1 : Int32) (l2 : Int32) (l4 : Int32) (l5 : Int32) (l6 : Int64) (l8 : Int32) (l10 : Int32) (l11 : Int32) (l15 : Int32) (l16 : Int64) {d3 d7 d9 d12 d13 d14 d17 d18 d19 : Option ai_V} (h : sh_H) (H : sh_ok (f_M_leastOf_b259 N k104 l1 l2 l4 l5 l6 l8 l10 l11 l15 l16 h) R) : wq_304 d Q 259 [oR 12 0, oI l1, oI l2, d3, oI l4, oI l5, oL l6, d7, oI l8, d9, oI l10, oI l11, d12, d13, d14, oI l15, oL l16, d17, d18, d19] [] (sh_E h) := by
  refine ai_WP_steps mc_304 (sh_CM d) 5 (And.intro trivial ?_)
  show wq_304 d Q 269 [oR 12 0, oI l1, oI l2, _, oI l4, oI l5, oL l6, _, oI l8, _, oI l10, oI l11, _, oL l16, _, oI l15, oL l16, _, _, _] [] (sh_E (sh_pI h 12 0 37 l15))
  replace H := sh_okL H
  generalize sh_pI h 12 0 37 l15 = h2 at H ⊢
  exact x_M_leastOf_b269 N hd hR k104 hk104 l1 l2 l4 l5 l6 l8 l10 l11 l16 l15 h2 H
def f_M_leastOf_b241 (N : Nat)  (k104 : Int32 → Int32 → Int32 → Int32 → Int64 → Int32 → Int32 → Int32 → Int64 → Int32 → sh_H → Option (Int64 × sh_H)) (l1 : Int32) (l2 : Int32) (l4 : Int32) (l5 : Int32) (l6 : Int64) (l8 : Int32) (l10 : Int32) (l11 : Int32) (l13 : Int64) (l15 : Int32) (l16 : Int64) (h : sh_H) : Option (Int64 × sh_H) := (if (h.1 12 0 37) < 0 then f_M_leastOf_b259 N k104 l1 l2 l4 l5 l6 l8 l10 l11 l15 l16 h else (if (lg_cmp l16 l13) < 0 then f_M_leastOf_b259 N k104 l1 l2 l4 l5 l6 l8 l10 l11 l15 l16 h else f_M_leastOf_b269 N k104 l1 l2 l4 l5 l6 l8 l10 l11 l13 l15 h))
theorem x_M_leastOf_b241 (N : Nat) {d : Nat} (hd : 3 ≤ d) {Q : ai_Q} {R : Int64 × sh_H → Prop} (hR : ∀ r h, R (r, h) → Q (some (aL r)) (sh_E h))  (k104 : Int32 → Int32 → Int32 → Int32 → Int64 → Int32 → Int32 → Int32 → Int64 → Int32 → sh_H → Option (Int64 × sh_H)) (hk104 : ∀ (l1 : Int32) (l2 : Int32) (l4 : Int32) (l5 : Int32) (l6 : Int64) (l8 : Int32) (l10 : Int32) (l11 : Int32) (l13 : Int64) (l15 : Int32) {d3 d7 d9 d12 d14 d16 d17 d18 d19 : Option ai_V} (h : sh_H), sh_ok (k104 l1 l2 l4 l5 l6 l8 l10 l11 l13 l15 h) R → wq_304 d Q 104 [oR 12 0, oI l1, oI l2, d3, oI l4, oI l5, oL l6, d7, oI l8, d9, oI l10, oI l11, d12, oL l13, d14, oI l15, d16, d17, d18, d19] [] (sh_E h)) (l1 : Int32) (l2 : Int32) (l4 : Int32) (l5 : Int32) (l6 : Int64) (l8 : Int32) (l10 : Int32) (l11 : Int32) (l13 : Int64) (l15 : Int32) (l16 : Int64) {d3 d7 d9 d12 d14 d17 d18 d19 : Option ai_V} (h : sh_H) (H : sh_ok (f_M_leastOf_b241 N k104 l1 l2 l4 l5 l6 l8 l10 l11 l13 l15 l16 h) R) : wq_304 d Q 241 [oR 12 0, oI l1, oI l2, d3, oI l4, oI l5, oL l6, d7, oI l8, d9, oI l10, oI l11, d12, oL l13, d14, oI l15, oL l16, d17, d18, d19] [] (sh_E h) := by
  refine ai_WP_steps mc_304 (sh_CM d) 3 (And.intro (fun c => ?_) (fun c => ?_))
  · replace H := sh_okT c H
    exact x_M_leastOf_b259 N hd hR k104 hk104 l1 l2 l4 l5 l6 l8 l10 l11 l15 l16 h H
  · replace H := sh_okF c H
    show wq_304 d Q 248 [oR 12 0, oI l1, oI l2, _, oI l4, oI l5, oL l6, _, oI l8, _, oI l10, oI l11, _, oL l13, _, oI l15, oL l16, _, _, _] [] (sh_E h)
    refine ai_WP_steps mc_304 (sh_CM d) 4 (And.intro (fun c => ?_) (fun c => ?_))
    · replace H := sh_okT c H
      exact x_M_leastOf_b259 N hd hR k104 hk104 l1 l2 l4 l5 l6 l8 l10 l11 l15 l16 h H
    · replace H := sh_okF c H
      show wq_304 d Q 256 [oR 12 0, oI l1, oI l2, _, oI l4, oI l5, oL l6, _, oI l8, _, oI l10, oI l11, _, oL l13, _, oI l15, oL l16, _, _, _] [] (sh_E h)
      refine ai_WP_steps mc_304 (sh_CM d) 1 ?_
      exact x_M_leastOf_b269 N hd hR k104 hk104 l1 l2 l4 l5 l6 l8 l10 l11 l13 l15 h H
def f_M_leastOf_b169 (N : Nat)  (k104 : Int32 → Int32 → Int32 → Int32 → Int64 → Int32 → Int32 → Int32 → Int64 → Int32 → sh_H → Option (Int64 × sh_H)) (l1 : Int32) (l2 : Int32) (l4 : Int32) (l5 : Int32) (l6 : Int64) (l8 : Int32) (l10 : Int32) (l11 : Int32) (l13 : Int64) (l15 : Int32) (s0 : Int64) (h : sh_H) : Option (Int64 × sh_H) := f_M_leastOf_l174 N (f_M_leastOf_b241 N k104) N l1 l2 l4 l5 l6 l8 l10 l11 l13 l15 s0 (0 : Int32) h
theorem x_M_leastOf_b169 (N : Nat) {d : Nat} (hd : 3 ≤ d) {Q : ai_Q} {R : Int64 × sh_H → Prop} (hR : ∀ r h, R (r, h) → Q (some (aL r)) (sh_E h))  (k104 : Int32 → Int32 → Int32 → Int32 → Int64 → Int32 → Int32 → Int32 → Int64 → Int32 → sh_H → Option (Int64 × sh_H)) (hk104 : ∀ (l1 : Int32) (l2 : Int32) (l4 : Int32) (l5 : Int32) (l6 : Int64) (l8 : Int32) (l10 : Int32) (l11 : Int32) (l13 : Int64) (l15 : Int32) {d3 d7 d9 d12 d14 d16 d17 d18 d19 : Option ai_V} (h : sh_H), sh_ok (k104 l1 l2 l4 l5 l6 l8 l10 l11 l13 l15 h) R → wq_304 d Q 104 [oR 12 0, oI l1, oI l2, d3, oI l4, oI l5, oL l6, d7, oI l8, d9, oI l10, oI l11, d12, oL l13, d14, oI l15, d16, d17, d18, d19] [] (sh_E h)) (l1 : Int32) (l2 : Int32) (l4 : Int32) (l5 : Int32) (l6 : Int64) (l8 : Int32) (l10 : Int32) (l11 : Int32) (l13 : Int64) (l15 : Int32) (s0 : Int64) {d3 d7 d9 d12 d14 d16 d17 d18 d19 : Option ai_V} (h : sh_H) (H : sh_ok (f_M_leastOf_b169 N k104 l1 l2 l4 l5 l6 l8 l10 l11 l13 l15 s0 h) R) : wq_304 d Q 169 [oR 12 0, oI l1, oI l2, d3, oI l4, oI l5, oL l6, d7, oI l8, d9, oI l10, oI l11, d12, oL l13, d14, oI l15, d16, d17, d18, d19] [aL s0] (sh_E h) := by
  refine ai_WP_steps mc_304 (sh_CM d) 3 ?_
  exact x_M_leastOf_l174 N hd hR (f_M_leastOf_b241 N k104) (fun z0 z1 z2 z3 z4 z5 z6 z7 z8 z9 z10 {e3} {e7} {e9} {e12} {e14} {e17} {e18} {e19} h H => x_M_leastOf_b241 N hd hR k104 hk104 z0 z1 z2 z3 z4 z5 z6 z7 z8 z9 z10 h H) N l1 l2 l4 l5 l6 l8 l10 l11 l13 l15 s0 (0 : Int32) h H
def f_M_leastOf_b116 (N : Nat)  (k104 : Int32 → Int32 → Int32 → Int32 → Int64 → Int32 → Int32 → Int32 → Int64 → Int32 → sh_H → Option (Int64 × sh_H)) (l1 : Int32) (l2 : Int32) (l4 : Int32) (l5 : Int32) (l6 : Int64) (l8 : Int32) (l10 : Int32) (l11 : Int32) (l13 : Int64) (l15 : Int32) (h : sh_H) : Option (Int64 × sh_H) := (if l15 = 0 then f_M_leastOf_b169 N k104 l1 l2 l4 l5 l6 l8 l10 l11 l13 l15 (0 : Int64) h else (if ai_in (((250 : Int32) + ((5 : Int32) * l8)) + (3 : Int32)) 8000 then (if ai_in (((20 : Int32) + ((3 : Int32) * l2)) + (2 : Int32)) 8000 then f_M_leastOf_b169 N k104 l1 l2 l4 l5 l6 l8 l10 l11 l13 l15 ((((h.1 13 46 (((250 : Int32) + ((5 : Int32) * l8)) + (3 : Int32)).toNatClampNeg).toInt64 + (l15.toInt64 * (h.1 13 46 (((20 : Int32) + ((3 : Int32) * l2)) + (2 : Int32)).toNatClampNeg).toInt64)) * l6) * (l5 + (1 : Int32)).toInt64) h else none) else none))
theorem x_M_leastOf_b116 (N : Nat) {d : Nat} (hd : 3 ≤ d) {Q : ai_Q} {R : Int64 × sh_H → Prop} (hR : ∀ r h, R (r, h) → Q (some (aL r)) (sh_E h))  (k104 : Int32 → Int32 → Int32 → Int32 → Int64 → Int32 → Int32 → Int32 → Int64 → Int32 → sh_H → Option (Int64 × sh_H)) (hk104 : ∀ (l1 : Int32) (l2 : Int32) (l4 : Int32) (l5 : Int32) (l6 : Int64) (l8 : Int32) (l10 : Int32) (l11 : Int32) (l13 : Int64) (l15 : Int32) {d3 d7 d9 d12 d14 d16 d17 d18 d19 : Option ai_V} (h : sh_H), sh_ok (k104 l1 l2 l4 l5 l6 l8 l10 l11 l13 l15 h) R → wq_304 d Q 104 [oR 12 0, oI l1, oI l2, d3, oI l4, oI l5, oL l6, d7, oI l8, d9, oI l10, oI l11, d12, oL l13, d14, oI l15, d16, d17, d18, d19] [] (sh_E h)) (l1 : Int32) (l2 : Int32) (l4 : Int32) (l5 : Int32) (l6 : Int64) (l8 : Int32) (l10 : Int32) (l11 : Int32) (l13 : Int64) (l15 : Int32) {d3 d7 d9 d12 d14 d16 d17 d18 d19 : Option ai_V} (h : sh_H) (H : sh_ok (f_M_leastOf_b116 N k104 l1 l2 l4 l5 l6 l8 l10 l11 l13 l15 h) R) : wq_304 d Q 116 [oR 12 0, oI l1, oI l2, d3, oI l4, oI l5, oL l6, d7, oI l8, d9, oI l10, oI l11, d12, oL l13, d14, oI l15, d16, d17, d18, d19] [] (sh_E h) := by
  refine ai_WP_steps mc_304 (sh_CM d) 2 (And.intro (fun c => ?_) (fun c => ?_))
  · replace H := sh_okT c H
    show wq_304 d Q 121 [oR 12 0, oI l1, oI l2, _, oI l4, oI l5, oL l6, _, oI l8, _, oI l10, oI l11, _, oL l13, _, oI l15, _, _, _, _] [] (sh_E h)
    refine ai_WP_steps mc_304 (sh_CM d) 2 ?_
    exact x_M_leastOf_b169 N hd hR k104 hk104 l1 l2 l4 l5 l6 l8 l10 l11 l13 l15 (0 : Int64) h H
  · replace H := sh_okF c H
    show wq_304 d Q 125 [oR 12 0, oI l1, oI l2, _, oI l4, oI l5, oL l6, _, oI l8, _, oI l10, oI l11, _, oL l13, _, oI l15, _, _, _, _] [] (sh_E h)
    have c := sh_okG H
    replace H := sh_okH H
    refine ai_WP_steps mc_304 (sh_CM d) 10 (And.intro c ?_)
    show wq_304 d Q 140 [oR 12 0, oI l1, oI l2, _, oI l4, oI l5, oL l6, _, oI l8, _, oI l10, oI l11, _, oL l13, _, oI l15, _, _, _, _] [aI (h.1 13 46 (((250 : Int32) + ((5 : Int32) * l8)) + (3 : Int32)).toNatClampNeg)] (sh_E h)
    have c := sh_okG H
    replace H := sh_okH H
    refine ai_WP_steps mc_304 (sh_CM d) 13 (And.intro c ?_)
    show wq_304 d Q 157 [oR 12 0, oI l1, oI l2, _, oI l4, oI l5, oL l6, _, oI l8, _, oI l10, oI l11, _, oL l13, _, oI l15, _, _, _, _] [aI (h.1 13 46 (((20 : Int32) + ((3 : Int32) * l2)) + (2 : Int32)).toNatClampNeg), aL l15.toInt64, aL (h.1 13 46 (((250 : Int32) + ((5 : Int32) * l8)) + (3 : Int32)).toNatClampNeg).toInt64] (sh_E h)
    refine ai_WP_steps mc_304 (sh_CM d) 10 ?_
    exact x_M_leastOf_b169 N hd hR k104 hk104 l1 l2 l4 l5 l6 l8 l10 l11 l13 l15 ((((h.1 13 46 (((250 : Int32) + ((5 : Int32) * l8)) + (3 : Int32)).toNatClampNeg).toInt64 + (l15.toInt64 * (h.1 13 46 (((20 : Int32) + ((3 : Int32) * l2)) + (2 : Int32)).toNatClampNeg).toInt64)) * l6) * (l5 + (1 : Int32)).toInt64) h H
def f_M_leastOf_c104 (N : Nat)  (k275 : Int64 → sh_H → Option (Int64 × sh_H)) (k104 : Int32 → Int32 → Int32 → Int32 → Int64 → Int32 → Int32 → Int32 → Int64 → Int32 → sh_H → Option (Int64 × sh_H)) (l1 : Int32) (l2 : Int32) (l4 : Int32) (l5 : Int32) (l6 : Int64) (l8 : Int32) (l10 : Int32) (l11 : Int32) (l13 : Int64) (l15 : Int32) (h : sh_H) : Option (Int64 × sh_H) := (if l11 < l15 then (if l15 = 0 then f_M_leastOf_b116 N k104 l1 l2 l4 l5 l6 l8 l10 l11 l13 l15 h else k275 l13 h) else f_M_leastOf_b116 N k104 l1 l2 l4 l5 l6 l8 l10 l11 l13 l15 h)
def f_M_leastOf_l104 (N : Nat)  (k275 : Int64 → sh_H → Option (Int64 × sh_H)) (n : Nat) : Int32 → Int32 → Int32 → Int32 → Int64 → Int32 → Int32 → Int32 → Int64 → Int32 → sh_H → Option (Int64 × sh_H) := Nat.rec (motive := fun _ => Int32 → Int32 → Int32 → Int32 → Int64 → Int32 → Int32 → Int32 → Int64 → Int32 → sh_H → Option (Int64 × sh_H)) (fun _ _ _ _ _ _ _ _ _ _ _ => none) (fun _ k104 => f_M_leastOf_c104 N k275 k104) n
theorem x_M_leastOf_l104 (N : Nat) {d : Nat} (hd : 3 ≤ d) {Q : ai_Q} {R : Int64 × sh_H → Prop} (hR : ∀ r h, R (r, h) → Q (some (aL r)) (sh_E h))  (k275 : Int64 → sh_H → Option (Int64 × sh_H)) (hk275 : ∀ (l13 : Int64) {d0 d1 d2 d3 d4 d5 d6 d7 d8 d9 d10 d11 d12 d14 d15 d16 d17 d18 d19 : Option ai_V} (h : sh_H), sh_ok (k275 l13 h) R → wq_304 d Q 275 [d0, d1, d2, d3, d4, d5, d6, d7, d8, d9, d10, d11, d12, oL l13, d14, d15, d16, d17, d18, d19] [] (sh_E h)) (n : Nat) : ∀ (l1 : Int32) (l2 : Int32) (l4 : Int32) (l5 : Int32) (l6 : Int64) (l8 : Int32) (l10 : Int32) (l11 : Int32) (l13 : Int64) (l15 : Int32) {d3 d7 d9 d12 d14 d16 d17 d18 d19 : Option ai_V} (h : sh_H), sh_ok (f_M_leastOf_l104 N k275 n l1 l2 l4 l5 l6 l8 l10 l11 l13 l15 h) R → wq_304 d Q 104 [oR 12 0, oI l1, oI l2, d3, oI l4, oI l5, oL l6, d7, oI l8, d9, oI l10, oI l11, d12, oL l13, d14, oI l15, d16, d17, d18, d19] [] (sh_E h) := by
  induction n with
  | zero => intro l1 l2 l4 l5 l6 l8 l10 l11 l13 l15 d3 d7 d9 d12 d14 d16 d17 d18 d19 h H; exact H.elim
  | succ n ih =>
    intro l1 l2 l4 l5 l6 l8 l10 l11 l13 l15 d3 d7 d9 d12 d14 d16 d17 d18 d19 h H
    have hk104 := @ih
    replace H : sh_ok (f_M_leastOf_c104 N k275 (f_M_leastOf_l104 N k275 n) l1 l2 l4 l5 l6 l8 l10 l11 l13 l15 h) R := H
    revert hk104 H
    generalize f_M_leastOf_l104 N k275 n = k104
    intro hk104 H
    refine ai_WP_steps mc_304 (sh_CM d) 3 (And.intro (fun c => ?_) (fun c => ?_))
    · replace H := sh_okT c H
      show wq_304 d Q 111 [oR 12 0, oI l1, oI l2, _, oI l4, oI l5, oL l6, _, oI l8, _, oI l10, oI l11, _, oL l13, _, oI l15, _, _, _, _] [] (sh_E h)
      refine ai_WP_steps mc_304 (sh_CM d) 2 (And.intro (fun c => ?_) (fun c => ?_))
      · replace H := sh_okT c H
        exact x_M_leastOf_b116 N hd hR k104 hk104 l1 l2 l4 l5 l6 l8 l10 l11 l13 l15 h H
      · replace H := sh_okF c H
        exact hk275 l13 h H
    · replace H := sh_okF c H
      exact x_M_leastOf_b116 N hd hR k104 hk104 l1 l2 l4 l5 l6 l8 l10 l11 l13 l15 h H
def f_M_leastOf_b275 (N : Nat)   (l13 : Int64) (h : sh_H) : Option (Int64 × sh_H) := (some (l13, h))
theorem x_M_leastOf_b275 (N : Nat) {d : Nat} (hd : 3 ≤ d) {Q : ai_Q} {R : Int64 × sh_H → Prop} (hR : ∀ r h, R (r, h) → Q (some (aL r)) (sh_E h))   (l13 : Int64) {d0 d1 d2 d3 d4 d5 d6 d7 d8 d9 d10 d11 d12 d14 d15 d16 d17 d18 d19 : Option ai_V} (h : sh_H) (H : sh_ok (f_M_leastOf_b275 N l13 h) R) : wq_304 d Q 275 [d0, d1, d2, d3, d4, d5, d6, d7, d8, d9, d10, d11, d12, oL l13, d14, d15, d16, d17, d18, d19] [] (sh_E h) := by
  exact ai_WP_steps mc_304 (sh_CM d) 2 (hR l13 h H)
def f_M_leastOf_b93 (N : Nat)   (l1 : Int32) (l2 : Int32) (l4 : Int32) (l5 : Int32) (l6 : Int64) (l8 : Int32) (l10 : Int32) (l11 : Int32) (h : sh_H) : Option (Int64 × sh_H) := (sh_let (sh_pI h 12 0 37 (-1 : Int32)) (fun h3 => f_M_leastOf_l104 N (f_M_leastOf_b275 N) N l1 l2 l4 l5 l6 l8 l10 l11 (0 : Int64) (0 : Int32) h3))
theorem x_M_leastOf_b93 (N : Nat) {d : Nat} (hd : 3 ≤ d) {Q : ai_Q} {R : Int64 × sh_H → Prop} (hR : ∀ r h, R (r, h) → Q (some (aL r)) (sh_E h))   (l1 : Int32) (l2 : Int32) (l4 : Int32) (l5 : Int32) (l6 : Int64) (l8 : Int32) (l10 : Int32) (l11 : Int32) {d3 d7 d9 d12 d13 d14 d15 d16 d17 d18 d19 : Option ai_V} (h : sh_H) (H : sh_ok (f_M_leastOf_b93 N l1 l2 l4 l5 l6 l8 l10 l11 h) R) : wq_304 d Q 93 [oR 12 0, oI l1, oI l2, d3, oI l4, oI l5, oL l6, d7, oI l8, d9, oI l10, oI l11, d12, d13, d14, d15, d16, d17, d18, d19] [] (sh_E h) := by
  refine ai_WP_steps mc_304 (sh_CM d) 5 (And.intro trivial ?_)
  show wq_304 d Q 101 [oR 12 0, oI l1, oI l2, _, oI l4, oI l5, oL l6, _, oI l8, _, oI l10, oI l11, _, oL (0 : Int64), _, _, _, _, _, _] [] (sh_E (sh_pI h 12 0 37 (-1 : Int32)))
  replace H := sh_okL H
  generalize sh_pI h 12 0 37 (-1 : Int32) = h3 at H ⊢
  refine ai_WP_steps mc_304 (sh_CM d) 2 ?_
  exact x_M_leastOf_l104 N hd hR (f_M_leastOf_b275 N) (fun z0 {e0} {e1} {e2} {e3} {e4} {e5} {e6} {e7} {e8} {e9} {e10} {e11} {e12} {e14} {e15} {e16} {e17} {e18} {e19} h H => x_M_leastOf_b275 N hd hR z0 h H) N l1 l2 l4 l5 l6 l8 l10 l11 (0 : Int64) (0 : Int32) h3 H
def f_M_leastOf_b59 (N : Nat)   (l1 : Int32) (l2 : Int32) (l4 : Int32) (l5 : Int32) (l6 : Int64) (l8 : Int32) (l10 : Int32) (s0 : Int32) (h : sh_H) : Option (Int64 × sh_H) := (if ai_in ((40 : Int32) + ((2 : Int32) * (l1 - (1 : Int32)))) 8000 then (if (h.1 13 46 ((40 : Int32) + ((2 : Int32) * (l1 - (1 : Int32)))).toNatClampNeg) < (l4 + s0) then f_M_leastOf_b93 N l1 l2 l4 l5 l6 l8 l10 ((h.1 13 46 ((40 : Int32) + ((2 : Int32) * (l1 - (1 : Int32)))).toNatClampNeg) - l4) h else f_M_leastOf_b93 N l1 l2 l4 l5 l6 l8 l10 s0 h) else none)
theorem x_M_leastOf_b59 (N : Nat) {d : Nat} (hd : 3 ≤ d) {Q : ai_Q} {R : Int64 × sh_H → Prop} (hR : ∀ r h, R (r, h) → Q (some (aL r)) (sh_E h))   (l1 : Int32) (l2 : Int32) (l4 : Int32) (l5 : Int32) (l6 : Int64) (l8 : Int32) (l10 : Int32) (s0 : Int32) {d3 d7 d9 d11 d12 d13 d14 d15 d16 d17 d18 d19 : Option ai_V} (h : sh_H) (H : sh_ok (f_M_leastOf_b59 N l1 l2 l4 l5 l6 l8 l10 s0 h) R) : wq_304 d Q 59 [oR 12 0, oI l1, oI l2, d3, oI l4, oI l5, oL l6, d7, oI l8, d9, oI l10, d11, d12, d13, d14, d15, d16, d17, d18, d19] [aI s0] (sh_E h) := by
  have c := sh_okG H
  replace H := sh_okH H
  refine ai_WP_steps mc_304 (sh_CM d) 11 (And.intro c ?_)
  show wq_304 d Q 74 [oR 12 0, oI l1, oI l2, _, oI l4, oI l5, oL l6, _, oI l8, _, oI l10, oI s0, _, _, _, _, _, _, _, _] [aI (h.1 13 46 ((40 : Int32) + ((2 : Int32) * (l1 - (1 : Int32)))).toNatClampNeg)] (sh_E h)
  refine ai_WP_steps mc_304 (sh_CM d) 6 (And.intro (fun c => ?_) (fun c => ?_))
  · replace H := sh_okT c H
    show wq_304 d Q 86 [oR 12 0, oI l1, oI l2, _, oI l4, oI l5, oL l6, _, oI l8, _, oI l10, oI s0, oI (h.1 13 46 ((40 : Int32) + ((2 : Int32) * (l1 - (1 : Int32)))).toNatClampNeg), _, _, _, _, _, _, _] [] (sh_E h)
    refine ai_WP_steps mc_304 (sh_CM d) 4 ?_
    exact x_M_leastOf_b93 N hd hR l1 l2 l4 l5 l6 l8 l10 ((h.1 13 46 ((40 : Int32) + ((2 : Int32) * (l1 - (1 : Int32)))).toNatClampNeg) - l4) h H
  · replace H := sh_okF c H
    exact x_M_leastOf_b93 N hd hR l1 l2 l4 l5 l6 l8 l10 s0 h H
def f_M_leastOf (N : Nat)  (l1 : Int32) (l2 : Int32) (l3 : Int32) (l4 : Int32) (l5 : Int32) (l6 : Int64) (h : sh_H) : Option (Int64 × sh_H) := (Option.bind (f_M_boatOf N l1 l3 h) (fun v4 => (if ai_in (((20 : Int32) + ((3 : Int32) * l2)) + (1 : Int32)) 8000 then (sh_b2 (f_M_wanted N l1 l2 l3 h) (fun v5 h6 => (if v4 < 0 then f_M_leastOf_b59 N l1 l2 l4 l5 l6 v4 v5 (0 : Int32) h6 else (if ai_in (((250 : Int32) + ((5 : Int32) * v4)) + (2 : Int32)) 8000 then (if ¬ (h.1 13 46 (((20 : Int32) + ((3 : Int32) * l2)) + (1 : Int32)).toNatClampNeg) = 0 then f_M_leastOf_b59 N l1 l2 l4 l5 l6 v4 v5 ((h6.1 13 46 (((250 : Int32) + ((5 : Int32) * v4)) + (2 : Int32)).toNatClampNeg) / (h.1 13 46 (((20 : Int32) + ((3 : Int32) * l2)) + (1 : Int32)).toNatClampNeg)) h6 else none) else none)))) else none)))
theorem x_M_leastOf (N : Nat) {d : Nat} (hd : 4 ≤ d) (l1 : Int32) (l2 : Int32) (l3 : Int32) (l4 : Int32) (l5 : Int32) (l6 : Int64) (h : sh_H) {Q : ai_Q} {R : Int64 × sh_H → Prop} (H : sh_ok (f_M_leastOf N l1 l2 l3 l4 l5 l6 h) R) (hR : ∀ r h, R (r, h) → Q (some (aL r)) (sh_E h)) : ai_Ex sh_T d 304 [aR 12 0, aI l1, aI l2, aI l3, aI l4, aI l5, aL l6] (sh_E h) Q := by
  obtain ⟨d, rfl⟩ : ∃ e, d = e + 1 := ⟨d - 1, by omega⟩
  replace hd : 3 ≤ d := by omega
  refine And.intro (Nat.le_of_ble_eq_true rfl) ?_
  show wq_304 d Q 0 [oR 12 0, oI l1, oI l2, oI l3, oI l4, oI l5, oL l6, none, none, none, none, none, none, none, none, none, none, none, none, none] [] (sh_E h)
  refine ai_WP_steps mc_304 (sh_CM d) 4 (And.intro (Nat.le_of_ble_eq_true rfl) (x_M_boatOf N (Nat.le_trans (Nat.le_of_ble_eq_true rfl) hd) l1 l3 h (sh_okB H) (fun v4 H => ?_)))
  show wq_304 d Q 6 [oR 12 0, oI l1, oI l2, oI l3, oI l4, oI l5, oL l6, _, _, _, _, _, _, _, _, _, _, _, _, _] [aI v4] (sh_E h)
  have c := sh_okG H
  replace H := sh_okH H
  refine ai_WP_steps mc_304 (sh_CM d) 11 (And.intro c ?_)
  show wq_304 d Q 21 [oR 12 0, oI l1, oI l2, oI l3, oI l4, oI l5, oL l6, _, oI v4, _, _, _, _, _, _, _, _, _, _, _] [aI (h.1 13 46 (((20 : Int32) + ((3 : Int32) * l2)) + (1 : Int32)).toNatClampNeg)] (sh_E h)
  refine ai_WP_steps mc_304 (sh_CM d) 6 (And.intro (Nat.le_of_ble_eq_true rfl) (x_M_wanted N (Nat.le_trans (Nat.le_of_ble_eq_true rfl) hd) l1 l2 l3 h (sh_okB H) (fun v5 h6 H => ?_)))
  show wq_304 d Q 30 [oR 12 0, oI l1, oI l2, oI l3, oI l4, oI l5, oL l6, _, oI v4, oI (h.1 13 46 (((20 : Int32) + ((3 : Int32) * l2)) + (1 : Int32)).toNatClampNeg), _, _, _, _, _, _, _, _, _, _] [aI v5] (sh_E h6)
  refine ai_WP_steps mc_304 (sh_CM d) 3 (And.intro (fun c => ?_) (fun c => ?_))
  · replace H := sh_okT c H
    show wq_304 d Q 37 [oR 12 0, oI l1, oI l2, oI l3, oI l4, oI l5, oL l6, _, oI v4, oI (h.1 13 46 (((20 : Int32) + ((3 : Int32) * l2)) + (1 : Int32)).toNatClampNeg), oI v5, _, _, _, _, _, _, _, _, _] [] (sh_E h6)
    refine ai_WP_steps mc_304 (sh_CM d) 2 ?_
    exact x_M_leastOf_b59 N hd hR l1 l2 l4 l5 l6 v4 v5 (0 : Int32) h6 H
  · replace H := sh_okF c H
    show wq_304 d Q 41 [oR 12 0, oI l1, oI l2, oI l3, oI l4, oI l5, oL l6, _, oI v4, oI (h.1 13 46 (((20 : Int32) + ((3 : Int32) * l2)) + (1 : Int32)).toNatClampNeg), oI v5, _, _, _, _, _, _, _, _, _] [] (sh_E h6)
    have c := sh_okG H
    replace H := sh_okH H
    refine ai_WP_steps mc_304 (sh_CM d) 10 (And.intro c ?_)
    show wq_304 d Q 56 [oR 12 0, oI l1, oI l2, oI l3, oI l4, oI l5, oL l6, _, oI v4, oI (h.1 13 46 (((20 : Int32) + ((3 : Int32) * l2)) + (1 : Int32)).toNatClampNeg), oI v5, _, _, _, _, _, _, _, _, _] [aI (h6.1 13 46 (((250 : Int32) + ((5 : Int32) * v4)) + (2 : Int32)).toNatClampNeg)] (sh_E h6)
    have c := sh_okG H
    replace H := sh_okH H
    refine ai_WP_steps mc_304 (sh_CM d) 2 (And.intro c ?_)
    show wq_304 d Q 59 [oR 12 0, oI l1, oI l2, oI l3, oI l4, oI l5, oL l6, _, oI v4, oI (h.1 13 46 (((20 : Int32) + ((3 : Int32) * l2)) + (1 : Int32)).toNatClampNeg), oI v5, _, _, _, _, _, _, _, _, _] [aI ((h6.1 13 46 (((250 : Int32) + ((5 : Int32) * v4)) + (2 : Int32)).toNatClampNeg) / (h.1 13 46 (((20 : Int32) + ((3 : Int32) * l2)) + (1 : Int32)).toNatClampNeg))] (sh_E h6)
    exact x_M_leastOf_b59 N hd hR l1 l2 l4 l5 l6 v4 v5 ((h6.1 13 46 (((250 : Int32) + ((5 : Int32) * v4)) + (2 : Int32)).toNatClampNeg) / (h.1 13 46 (((20 : Int32) + ((3 : Int32) * l2)) + (1 : Int32)).toNatClampNeg)) h6 H
def f_M_isCoin_b62    (h : sh_H) : Option Int32 := (some (ai_nar 1 (0 : Int32)))
theorem x_M_isCoin_b62 {d : Nat} (hd : 1 ≤ d) (h : sh_H) {Q : ai_Q} {R : Int32 → Prop} (hR : ∀ r, R r → Q (some (aI r)) (sh_E h))    {d0 d1 d2 d3 d4 d5 d6 : Option ai_V} (H : sh_ok (f_M_isCoin_b62 h) R) : wq_305 d Q 62 [d0, d1, d2, d3, d4, d5, d6] [] (sh_E h) := by
  exact ai_WP_steps mc_305 (sh_CM d) 2 (hR (ai_nar 1 (0 : Int32)) H)
def f_M_isCoin  (l1 : Int32) (l2 : Int32) (l3 : Int32) (l4 : Int32) (l5 : Int32) (l6 : Int32) (h : sh_H) : Option Int32 := (Option.bind (f_M_isIsland l1 h) (fun v1 => (if v1 = 0 then f_M_isCoin_b62 h else (Option.bind (f_M_isKind l2 h) (fun v2 => (if v2 = 0 then f_M_isCoin_b62 h else (Option.bind (f_M_isIn l3 (0 : Int32) (11 : Int32) h) (fun v3 => (if v3 = 0 then f_M_isCoin_b62 h else (Option.bind (f_M_isIn l4 (1 : Int32) (12 : Int32) h) (fun v4 => (if v4 = 0 then f_M_isCoin_b62 h else (Option.bind (f_M_isIn l5 (0 : Int32) (60 : Int32) h) (fun v5 => (if v5 = 0 then f_M_isCoin_b62 h else (Option.bind (f_M_isIn l6 (0 : Int32) (3 : Int32) h) (fun v6 => (if v6 = 0 then f_M_isCoin_b62 h else (some (ai_nar 1 (1 : Int32)))))))))))))))))))))
theorem x_M_isCoin {d : Nat} (hd : 2 ≤ d) (l1 : Int32) (l2 : Int32) (l3 : Int32) (l4 : Int32) (l5 : Int32) (l6 : Int32) (h : sh_H) {Q : ai_Q} {R : Int32 → Prop} (H : sh_ok (f_M_isCoin l1 l2 l3 l4 l5 l6 h) R) (hR : ∀ r, R r → Q (some (aI r)) (sh_E h)) : ai_Ex sh_T d 305 [aR 12 0, aI l1, aI l2, aI l3, aI l4, aI l5, aI l6] (sh_E h) Q := by
  obtain ⟨d, rfl⟩ : ∃ e, d = e + 1 := ⟨d - 1, by omega⟩
  replace hd : 1 ≤ d := by omega
  refine And.intro (Nat.le_of_ble_eq_true rfl) ?_
  show wq_305 d Q 0 [oR 12 0, oI l1, oI l2, oI l3, oI l4, oI l5, oI l6] [] (sh_E h)
  refine ai_WP_steps mc_305 (sh_CM d) 3 (And.intro (Nat.le_of_ble_eq_true rfl) (x_M_isIsland (Nat.le_trans (Nat.le_of_ble_eq_true rfl) hd) l1 h (sh_okB H) (fun v1 H => ?_)))
  show wq_305 d Q 5 [oR 12 0, oI l1, oI l2, oI l3, oI l4, oI l5, oI l6] [aI v1] (sh_E h)
  refine ai_WP_steps mc_305 (sh_CM d) 1 (And.intro (fun c => ?_) (fun c => ?_))
  · replace H := sh_okT c H
    exact x_M_isCoin_b62 hd h hR H
  · replace H := sh_okF c H
    show wq_305 d Q 8 [oR 12 0, oI l1, oI l2, oI l3, oI l4, oI l5, oI l6] [] (sh_E h)
    refine ai_WP_steps mc_305 (sh_CM d) 3 (And.intro (Nat.le_of_ble_eq_true rfl) (x_M_isKind (Nat.le_trans (Nat.le_of_ble_eq_true rfl) hd) l2 h (sh_okB H) (fun v2 H => ?_)))
    show wq_305 d Q 13 [oR 12 0, oI l1, oI l2, oI l3, oI l4, oI l5, oI l6] [aI v2] (sh_E h)
    refine ai_WP_steps mc_305 (sh_CM d) 1 (And.intro (fun c => ?_) (fun c => ?_))
    · replace H := sh_okT c H
      exact x_M_isCoin_b62 hd h hR H
    · replace H := sh_okF c H
      show wq_305 d Q 16 [oR 12 0, oI l1, oI l2, oI l3, oI l4, oI l5, oI l6] [] (sh_E h)
      refine ai_WP_steps mc_305 (sh_CM d) 4 (And.intro (Nat.le_of_ble_eq_true rfl) (x_M_isIn (Nat.le_trans (Nat.le_of_ble_eq_true rfl) hd) l3 (0 : Int32) (11 : Int32) h (sh_okB H) (fun v3 H => ?_)))
      show wq_305 d Q 23 [oR 12 0, oI l1, oI l2, oI l3, oI l4, oI l5, oI l6] [aI v3] (sh_E h)
      refine ai_WP_steps mc_305 (sh_CM d) 1 (And.intro (fun c => ?_) (fun c => ?_))
      · replace H := sh_okT c H
        exact x_M_isCoin_b62 hd h hR H
      · replace H := sh_okF c H
        show wq_305 d Q 26 [oR 12 0, oI l1, oI l2, oI l3, oI l4, oI l5, oI l6] [] (sh_E h)
        refine ai_WP_steps mc_305 (sh_CM d) 4 (And.intro (Nat.le_of_ble_eq_true rfl) (x_M_isIn (Nat.le_trans (Nat.le_of_ble_eq_true rfl) hd) l4 (1 : Int32) (12 : Int32) h (sh_okB H) (fun v4 H => ?_)))
        show wq_305 d Q 34 [oR 12 0, oI l1, oI l2, oI l3, oI l4, oI l5, oI l6] [aI v4] (sh_E h)
        refine ai_WP_steps mc_305 (sh_CM d) 1 (And.intro (fun c => ?_) (fun c => ?_))
        · replace H := sh_okT c H
          exact x_M_isCoin_b62 hd h hR H
        · replace H := sh_okF c H
          show wq_305 d Q 37 [oR 12 0, oI l1, oI l2, oI l3, oI l4, oI l5, oI l6] [] (sh_E h)
          refine ai_WP_steps mc_305 (sh_CM d) 4 (And.intro (Nat.le_of_ble_eq_true rfl) (x_M_isIn (Nat.le_trans (Nat.le_of_ble_eq_true rfl) hd) l5 (0 : Int32) (60 : Int32) h (sh_okB H) (fun v5 H => ?_)))
          show wq_305 d Q 45 [oR 12 0, oI l1, oI l2, oI l3, oI l4, oI l5, oI l6] [aI v5] (sh_E h)
          refine ai_WP_steps mc_305 (sh_CM d) 1 (And.intro (fun c => ?_) (fun c => ?_))
          · replace H := sh_okT c H
            exact x_M_isCoin_b62 hd h hR H
          · replace H := sh_okF c H
            show wq_305 d Q 48 [oR 12 0, oI l1, oI l2, oI l3, oI l4, oI l5, oI l6] [] (sh_E h)
            refine ai_WP_steps mc_305 (sh_CM d) 4 (And.intro (Nat.le_of_ble_eq_true rfl) (x_M_isIn (Nat.le_trans (Nat.le_of_ble_eq_true rfl) hd) l6 (0 : Int32) (3 : Int32) h (sh_okB H) (fun v6 H => ?_)))
            show wq_305 d Q 55 [oR 12 0, oI l1, oI l2, oI l3, oI l4, oI l5, oI l6] [aI v6] (sh_E h)
            refine ai_WP_steps mc_305 (sh_CM d) 1 (And.intro (fun c => ?_) (fun c => ?_))
            · replace H := sh_okT c H
              exact x_M_isCoin_b62 hd h hR H
            · replace H := sh_okF c H
              show wq_305 d Q 58 [oR 12 0, oI l1, oI l2, oI l3, oI l4, oI l5, oI l6] [] (sh_E h)
              exact ai_WP_steps mc_305 (sh_CM d) 3 (hR (ai_nar 1 (1 : Int32)) H)
def f_M_coins_c3 (N : Nat)  (k24 : Int32 → Int32 → Int32 → Int32 → Int32 → Int32 → sh_H → Option (Int64 × sh_H)) (k3 : Int32 → Int32 → Int32 → Int32 → Int32 → Int32 → Int32 → sh_H → Option (Int64 × sh_H)) (l1 : Int32) (l2 : Int32) (l3 : Int32) (l4 : Int32) (l5 : Int32) (l6 : Int32) (l7 : Int32) (h : sh_H) : Option (Int64 × sh_H) := (if l7 < (61 : Int32) then (if ai_in l7 61 then (sh_let (sh_pJ h 14 9 l7.toNatClampNeg (0 : Int64)) (fun h1 => k3 l1 l2 l3 l4 l5 l6 (l7 + (1 : Int32)) h1)) else none) else k24 l1 l2 l3 l4 l5 l6 h)
def f_M_coins_l3 (N : Nat)  (k24 : Int32 → Int32 → Int32 → Int32 → Int32 → Int32 → sh_H → Option (Int64 × sh_H)) (n : Nat) : Int32 → Int32 → Int32 → Int32 → Int32 → Int32 → Int32 → sh_H → Option (Int64 × sh_H) := Nat.rec (motive := fun _ => Int32 → Int32 → Int32 → Int32 → Int32 → Int32 → Int32 → sh_H → Option (Int64 × sh_H)) (fun _ _ _ _ _ _ _ _ => none) (fun _ k3 => f_M_coins_c3 N k24 k3) n
theorem x_M_coins_l3 (N : Nat) {d : Nat} (hd : 4 ≤ d) {Q : ai_Q} {R : Int64 × sh_H → Prop} (hR : ∀ r h, R (r, h) → Q (some (aL r)) (sh_E h))  (k24 : Int32 → Int32 → Int32 → Int32 → Int32 → Int32 → sh_H → Option (Int64 × sh_H)) (hk24 : ∀ (l1 : Int32) (l2 : Int32) (l3 : Int32) (l4 : Int32) (l5 : Int32) (l6 : Int32) {d7 d8 d9 d10 : Option ai_V} (h : sh_H), sh_ok (k24 l1 l2 l3 l4 l5 l6 h) R → wq_306 d Q 24 [oR 12 0, oI l1, oI l2, oI l3, oI l4, oI l5, oI l6, d7, d8, d9, d10] [] (sh_E h)) (n : Nat) : ∀ (l1 : Int32) (l2 : Int32) (l3 : Int32) (l4 : Int32) (l5 : Int32) (l6 : Int32) (l7 : Int32) {d8 d9 d10 : Option ai_V} (h : sh_H), sh_ok (f_M_coins_l3 N k24 n l1 l2 l3 l4 l5 l6 l7 h) R → wq_306 d Q 3 [oR 12 0, oI l1, oI l2, oI l3, oI l4, oI l5, oI l6, oI l7, d8, d9, d10] [] (sh_E h) := by
  induction n with
  | zero => intro l1 l2 l3 l4 l5 l6 l7 d8 d9 d10 h H; exact H.elim
  | succ n ih =>
    intro l1 l2 l3 l4 l5 l6 l7 d8 d9 d10 h H
    have hk3 := @ih
    replace H : sh_ok (f_M_coins_c3 N k24 (f_M_coins_l3 N k24 n) l1 l2 l3 l4 l5 l6 l7 h) R := H
    revert hk3 H
    generalize f_M_coins_l3 N k24 n = k3
    intro hk3 H
    refine ai_WP_steps mc_306 (sh_CM d) 3 (And.intro (fun c => ?_) (fun c => ?_))
    · replace H := sh_okT c H
      show wq_306 d Q 10 [oR 12 0, oI l1, oI l2, oI l3, oI l4, oI l5, oI l6, oI l7, _, _, _] [] (sh_E h)
      have c := sh_okG H
      replace H := sh_okH H
      refine ai_WP_steps mc_306 (sh_CM d) 5 (And.intro c ?_)
      show wq_306 d Q 18 [oR 12 0, oI l1, oI l2, oI l3, oI l4, oI l5, oI l6, oI l7, _, _, _] [] (sh_E (sh_pJ h 14 9 l7.toNatClampNeg (0 : Int64)))
      replace H := sh_okL H
      generalize sh_pJ h 14 9 l7.toNatClampNeg (0 : Int64) = h1 at H ⊢
      refine ai_WP_steps mc_306 (sh_CM d) 2 ?_
      exact hk3 l1 l2 l3 l4 l5 l6 (l7 + (1 : Int32)) h1 H
    · replace H := sh_okF c H
      exact hk24 l1 l2 l3 l4 l5 l6 h H
def f_M_coins_c55 (N : Nat)  (k94 : Int32 → Int32 → Int32 → Int32 → Int32 → Int32 → Int32 → sh_H → Option (Int64 × sh_H)) (k55 : Int32 → Int32 → Int32 → Int32 → Int32 → Int32 → Int32 → Int64 → Int32 → sh_H → Option (Int64 × sh_H)) (l1 : Int32) (l2 : Int32) (l3 : Int32) (l4 : Int32) (l5 : Int32) (l6 : Int32) (l7 : Int32) (l8 : Int64) (l10 : Int32) (h : sh_H) : Option (Int64 × sh_H) := (if l10 < (61 : Int32) then (if ¬ (12 : Int32) = 0 then (sh_b2 (f_M_leastOf N l1 l2 ((l3 + l7) - (l3 + l7) / (12 : Int32) * (12 : Int32)) l10 l6 l8 h) (fun v2 h3 => (if ai_in l10 61 then (sh_let (sh_pJ h3 14 8 l10.toNatClampNeg v2) (fun h4 => k55 l1 l2 l3 l4 l5 l6 l7 l8 (l10 + (1 : Int32)) h4)) else none))) else none) else k94 l1 l2 l3 l4 l5 l6 l7 h)
def f_M_coins_l55 (N : Nat)  (k94 : Int32 → Int32 → Int32 → Int32 → Int32 → Int32 → Int32 → sh_H → Option (Int64 × sh_H)) (n : Nat) : Int32 → Int32 → Int32 → Int32 → Int32 → Int32 → Int32 → Int64 → Int32 → sh_H → Option (Int64 × sh_H) := Nat.rec (motive := fun _ => Int32 → Int32 → Int32 → Int32 → Int32 → Int32 → Int32 → Int64 → Int32 → sh_H → Option (Int64 × sh_H)) (fun _ _ _ _ _ _ _ _ _ _ => none) (fun _ k55 => f_M_coins_c55 N k94 k55) n
theorem x_M_coins_l55 (N : Nat) {d : Nat} (hd : 4 ≤ d) {Q : ai_Q} {R : Int64 × sh_H → Prop} (hR : ∀ r h, R (r, h) → Q (some (aL r)) (sh_E h))  (k94 : Int32 → Int32 → Int32 → Int32 → Int32 → Int32 → Int32 → sh_H → Option (Int64 × sh_H)) (hk94 : ∀ (l1 : Int32) (l2 : Int32) (l3 : Int32) (l4 : Int32) (l5 : Int32) (l6 : Int32) (l7 : Int32) {d8 d9 d10 : Option ai_V} (h : sh_H), sh_ok (k94 l1 l2 l3 l4 l5 l6 l7 h) R → wq_306 d Q 94 [oR 12 0, oI l1, oI l2, oI l3, oI l4, oI l5, oI l6, oI l7, d8, d9, d10] [] (sh_E h)) (n : Nat) : ∀ (l1 : Int32) (l2 : Int32) (l3 : Int32) (l4 : Int32) (l5 : Int32) (l6 : Int32) (l7 : Int32) (l8 : Int64) (l10 : Int32) {d9 : Option ai_V} (h : sh_H), sh_ok (f_M_coins_l55 N k94 n l1 l2 l3 l4 l5 l6 l7 l8 l10 h) R → wq_306 d Q 55 [oR 12 0, oI l1, oI l2, oI l3, oI l4, oI l5, oI l6, oI l7, oL l8, d9, oI l10] [] (sh_E h) := by
  induction n with
  | zero => intro l1 l2 l3 l4 l5 l6 l7 l8 l10 d9 h H; exact H.elim
  | succ n ih =>
    intro l1 l2 l3 l4 l5 l6 l7 l8 l10 d9 h H
    have hk55 := @ih
    replace H : sh_ok (f_M_coins_c55 N k94 (f_M_coins_l55 N k94 n) l1 l2 l3 l4 l5 l6 l7 l8 l10 h) R := H
    revert hk55 H
    generalize f_M_coins_l55 N k94 n = k55
    intro hk55 H
    refine ai_WP_steps mc_306 (sh_CM d) 3 (And.intro (fun c => ?_) (fun c => ?_))
    · replace H := sh_okT c H
      show wq_306 d Q 62 [oR 12 0, oI l1, oI l2, oI l3, oI l4, oI l5, oI l6, oI l7, oL l8, _, oI l10] [] (sh_E h)
      have c := sh_okG H
      replace H := sh_okH H
      refine ai_WP_steps mc_306 (sh_CM d) 11 (And.intro c ?_)
      show wq_306 d Q 78 [oR 12 0, oI l1, oI l2, oI l3, oI l4, oI l5, oI l6, oI l7, oL l8, _, oI l10] [aI ((l3 + l7) - (l3 + l7) / (12 : Int32) * (12 : Int32)), aI l2, aI l1, aR 12 0, aI l10, aR 14 8] (sh_E h)
      refine ai_WP_steps mc_306 (sh_CM d) 4 (And.intro (Nat.le_of_ble_eq_true rfl) (x_M_leastOf N (Nat.le_trans (Nat.le_of_ble_eq_true rfl) hd) l1 l2 ((l3 + l7) - (l3 + l7) / (12 : Int32) * (12 : Int32)) l10 l6 l8 h (sh_okB H) (fun v2 h3 H => ?_)))
      show wq_306 d Q 87 [oR 12 0, oI l1, oI l2, oI l3, oI l4, oI l5, oI l6, oI l7, oL l8, _, oI l10] [aL v2, aI l10, aR 14 8] (sh_E h3)
      have c := sh_okG H
      replace H := sh_okH H
      refine ai_WP_steps mc_306 (sh_CM d) 1 (And.intro c ?_)
      show wq_306 d Q 88 [oR 12 0, oI l1, oI l2, oI l3, oI l4, oI l5, oI l6, oI l7, oL l8, _, oI l10] [] (sh_E (sh_pJ h3 14 8 l10.toNatClampNeg v2))
      replace H := sh_okL H
      generalize sh_pJ h3 14 8 l10.toNatClampNeg v2 = h4 at H ⊢
      refine ai_WP_steps mc_306 (sh_CM d) 2 ?_
      exact hk55 l1 l2 l3 l4 l5 l6 l7 l8 (l10 + (1 : Int32)) h4 H
    · replace H := sh_okF c H
      exact hk94 l1 l2 l3 l4 l5 l6 l7 h H
def f_M_coins_c97 (N : Nat)  (k124 : Int32 → Int32 → Int32 → Int32 → Int32 → Int32 → Int32 → sh_H → Option (Int64 × sh_H)) (k97 : Int32 → Int32 → Int32 → Int32 → Int32 → Int32 → Int32 → Int32 → sh_H → Option (Int64 × sh_H)) (l1 : Int32) (l2 : Int32) (l3 : Int32) (l4 : Int32) (l5 : Int32) (l6 : Int32) (l7 : Int32) (l10 : Int32) (h : sh_H) : Option (Int64 × sh_H) := (if l10 < (61 : Int32) then (if ai_in l10 61 then (if ai_in l10 61 then (sh_let (sh_pJ h 14 9 l10.toNatClampNeg (h.2.1 14 8 l10.toNatClampNeg)) (fun h5 => k97 l1 l2 l3 l4 l5 l6 l7 (l10 + (1 : Int32)) h5)) else none) else none) else k124 l1 l2 l3 l4 l5 l6 l7 h)
def f_M_coins_l97 (N : Nat)  (k124 : Int32 → Int32 → Int32 → Int32 → Int32 → Int32 → Int32 → sh_H → Option (Int64 × sh_H)) (n : Nat) : Int32 → Int32 → Int32 → Int32 → Int32 → Int32 → Int32 → Int32 → sh_H → Option (Int64 × sh_H) := Nat.rec (motive := fun _ => Int32 → Int32 → Int32 → Int32 → Int32 → Int32 → Int32 → Int32 → sh_H → Option (Int64 × sh_H)) (fun _ _ _ _ _ _ _ _ _ => none) (fun _ k97 => f_M_coins_c97 N k124 k97) n
theorem x_M_coins_l97 (N : Nat) {d : Nat} (hd : 4 ≤ d) {Q : ai_Q} {R : Int64 × sh_H → Prop} (hR : ∀ r h, R (r, h) → Q (some (aL r)) (sh_E h))  (k124 : Int32 → Int32 → Int32 → Int32 → Int32 → Int32 → Int32 → sh_H → Option (Int64 × sh_H)) (hk124 : ∀ (l1 : Int32) (l2 : Int32) (l3 : Int32) (l4 : Int32) (l5 : Int32) (l6 : Int32) (l7 : Int32) {d8 d9 d10 : Option ai_V} (h : sh_H), sh_ok (k124 l1 l2 l3 l4 l5 l6 l7 h) R → wq_306 d Q 124 [oR 12 0, oI l1, oI l2, oI l3, oI l4, oI l5, oI l6, oI l7, d8, d9, d10] [] (sh_E h)) (n : Nat) : ∀ (l1 : Int32) (l2 : Int32) (l3 : Int32) (l4 : Int32) (l5 : Int32) (l6 : Int32) (l7 : Int32) (l10 : Int32) {d8 d9 : Option ai_V} (h : sh_H), sh_ok (f_M_coins_l97 N k124 n l1 l2 l3 l4 l5 l6 l7 l10 h) R → wq_306 d Q 97 [oR 12 0, oI l1, oI l2, oI l3, oI l4, oI l5, oI l6, oI l7, d8, d9, oI l10] [] (sh_E h) := by
  induction n with
  | zero => intro l1 l2 l3 l4 l5 l6 l7 l10 d8 d9 h H; exact H.elim
  | succ n ih =>
    intro l1 l2 l3 l4 l5 l6 l7 l10 d8 d9 h H
    have hk97 := @ih
    replace H : sh_ok (f_M_coins_c97 N k124 (f_M_coins_l97 N k124 n) l1 l2 l3 l4 l5 l6 l7 l10 h) R := H
    revert hk97 H
    generalize f_M_coins_l97 N k124 n = k97
    intro hk97 H
    refine ai_WP_steps mc_306 (sh_CM d) 3 (And.intro (fun c => ?_) (fun c => ?_))
    · replace H := sh_okT c H
      show wq_306 d Q 104 [oR 12 0, oI l1, oI l2, oI l3, oI l4, oI l5, oI l6, oI l7, _, _, oI l10] [] (sh_E h)
      have c := sh_okG H
      replace H := sh_okH H
      refine ai_WP_steps mc_306 (sh_CM d) 7 (And.intro c ?_)
      show wq_306 d Q 117 [oR 12 0, oI l1, oI l2, oI l3, oI l4, oI l5, oI l6, oI l7, _, _, oI l10] [aL (h.2.1 14 8 l10.toNatClampNeg), aI l10, aR 14 9] (sh_E h)
      have c := sh_okG H
      replace H := sh_okH H
      refine ai_WP_steps mc_306 (sh_CM d) 1 (And.intro c ?_)
      show wq_306 d Q 118 [oR 12 0, oI l1, oI l2, oI l3, oI l4, oI l5, oI l6, oI l7, _, _, oI l10] [] (sh_E (sh_pJ h 14 9 l10.toNatClampNeg (h.2.1 14 8 l10.toNatClampNeg)))
      replace H := sh_okL H
      generalize sh_pJ h 14 9 l10.toNatClampNeg (h.2.1 14 8 l10.toNatClampNeg) = h5 at H ⊢
      refine ai_WP_steps mc_306 (sh_CM d) 2 ?_
      exact hk97 l1 l2 l3 l4 l5 l6 l7 (l10 + (1 : Int32)) h5 H
    · replace H := sh_okF c H
      exact hk124 l1 l2 l3 l4 l5 l6 l7 h H
def f_M_coins_b124 (N : Nat)  (k30 : Int32 → Int32 → Int32 → Int32 → Int32 → Int32 → Int32 → sh_H → Option (Int64 × sh_H)) (l1 : Int32) (l2 : Int32) (l3 : Int32) (l4 : Int32) (l5 : Int32) (l6 : Int32) (l7 : Int32) (h : sh_H) : Option (Int64 × sh_H) := k30 l1 l2 l3 l4 l5 l6 (l7 + (-1 : Int32)) h
theorem x_M_coins_b124 (N : Nat) {d : Nat} (hd : 4 ≤ d) {Q : ai_Q} {R : Int64 × sh_H → Prop} (hR : ∀ r h, R (r, h) → Q (some (aL r)) (sh_E h))  (k30 : Int32 → Int32 → Int32 → Int32 → Int32 → Int32 → Int32 → sh_H → Option (Int64 × sh_H)) (hk30 : ∀ (l1 : Int32) (l2 : Int32) (l3 : Int32) (l4 : Int32) (l5 : Int32) (l6 : Int32) (l7 : Int32) {d8 d9 d10 : Option ai_V} (h : sh_H), sh_ok (k30 l1 l2 l3 l4 l5 l6 l7 h) R → wq_306 d Q 30 [oR 12 0, oI l1, oI l2, oI l3, oI l4, oI l5, oI l6, oI l7, d8, d9, d10] [] (sh_E h)) (l1 : Int32) (l2 : Int32) (l3 : Int32) (l4 : Int32) (l5 : Int32) (l6 : Int32) (l7 : Int32) {d8 d9 d10 : Option ai_V} (h : sh_H) (H : sh_ok (f_M_coins_b124 N k30 l1 l2 l3 l4 l5 l6 l7 h) R) : wq_306 d Q 124 [oR 12 0, oI l1, oI l2, oI l3, oI l4, oI l5, oI l6, oI l7, d8, d9, d10] [] (sh_E h) := by
  refine ai_WP_steps mc_306 (sh_CM d) 2 ?_
  exact hk30 l1 l2 l3 l4 l5 l6 (l7 + (-1 : Int32)) h H
def f_M_coins_b94 (N : Nat)  (k30 : Int32 → Int32 → Int32 → Int32 → Int32 → Int32 → Int32 → sh_H → Option (Int64 × sh_H)) (l1 : Int32) (l2 : Int32) (l3 : Int32) (l4 : Int32) (l5 : Int32) (l6 : Int32) (l7 : Int32) (h : sh_H) : Option (Int64 × sh_H) := f_M_coins_l97 N (f_M_coins_b124 N k30) N l1 l2 l3 l4 l5 l6 l7 (0 : Int32) h
theorem x_M_coins_b94 (N : Nat) {d : Nat} (hd : 4 ≤ d) {Q : ai_Q} {R : Int64 × sh_H → Prop} (hR : ∀ r h, R (r, h) → Q (some (aL r)) (sh_E h))  (k30 : Int32 → Int32 → Int32 → Int32 → Int32 → Int32 → Int32 → sh_H → Option (Int64 × sh_H)) (hk30 : ∀ (l1 : Int32) (l2 : Int32) (l3 : Int32) (l4 : Int32) (l5 : Int32) (l6 : Int32) (l7 : Int32) {d8 d9 d10 : Option ai_V} (h : sh_H), sh_ok (k30 l1 l2 l3 l4 l5 l6 l7 h) R → wq_306 d Q 30 [oR 12 0, oI l1, oI l2, oI l3, oI l4, oI l5, oI l6, oI l7, d8, d9, d10] [] (sh_E h)) (l1 : Int32) (l2 : Int32) (l3 : Int32) (l4 : Int32) (l5 : Int32) (l6 : Int32) (l7 : Int32) {d8 d9 d10 : Option ai_V} (h : sh_H) (H : sh_ok (f_M_coins_b94 N k30 l1 l2 l3 l4 l5 l6 l7 h) R) : wq_306 d Q 94 [oR 12 0, oI l1, oI l2, oI l3, oI l4, oI l5, oI l6, oI l7, d8, d9, d10] [] (sh_E h) := by
  refine ai_WP_steps mc_306 (sh_CM d) 2 ?_
  exact x_M_coins_l97 N hd hR (f_M_coins_b124 N k30) (fun z0 z1 z2 z3 z4 z5 z6 {e8} {e9} {e10} h H => x_M_coins_b124 N hd hR k30 hk30 z0 z1 z2 z3 z4 z5 z6 h H) N l1 l2 l3 l4 l5 l6 l7 (0 : Int32) h H
def f_M_coins_c30 (N : Nat)  (k130 : Int32 → Int32 → Int32 → Int32 → Int32 → Int32 → sh_H → Option (Int64 × sh_H)) (k30 : Int32 → Int32 → Int32 → Int32 → Int32 → Int32 → Int32 → sh_H → Option (Int64 × sh_H)) (l1 : Int32) (l2 : Int32) (l3 : Int32) (l4 : Int32) (l5 : Int32) (l6 : Int32) (l7 : Int32) (h : sh_H) : Option (Int64 × sh_H) := (if 0 < l7 then (Option.bind (f_M_power N (l6.toInt64 + (1 : Int64)) ((l4 - (1 : Int32)) - l7) h) (fun v6 => f_M_coins_l55 N (f_M_coins_b94 N k30) N l1 l2 l3 l4 l5 l6 l7 v6 (0 : Int32) h)) else k130 l1 l2 l3 l4 l5 l6 h)
def f_M_coins_l30 (N : Nat)  (k130 : Int32 → Int32 → Int32 → Int32 → Int32 → Int32 → sh_H → Option (Int64 × sh_H)) (n : Nat) : Int32 → Int32 → Int32 → Int32 → Int32 → Int32 → Int32 → sh_H → Option (Int64 × sh_H) := Nat.rec (motive := fun _ => Int32 → Int32 → Int32 → Int32 → Int32 → Int32 → Int32 → sh_H → Option (Int64 × sh_H)) (fun _ _ _ _ _ _ _ _ => none) (fun _ k30 => f_M_coins_c30 N k130 k30) n
theorem x_M_coins_l30 (N : Nat) {d : Nat} (hd : 4 ≤ d) {Q : ai_Q} {R : Int64 × sh_H → Prop} (hR : ∀ r h, R (r, h) → Q (some (aL r)) (sh_E h))  (k130 : Int32 → Int32 → Int32 → Int32 → Int32 → Int32 → sh_H → Option (Int64 × sh_H)) (hk130 : ∀ (l1 : Int32) (l2 : Int32) (l3 : Int32) (l4 : Int32) (l5 : Int32) (l6 : Int32) {d7 d8 d9 d10 : Option ai_V} (h : sh_H), sh_ok (k130 l1 l2 l3 l4 l5 l6 h) R → wq_306 d Q 130 [oR 12 0, oI l1, oI l2, oI l3, oI l4, oI l5, oI l6, d7, d8, d9, d10] [] (sh_E h)) (n : Nat) : ∀ (l1 : Int32) (l2 : Int32) (l3 : Int32) (l4 : Int32) (l5 : Int32) (l6 : Int32) (l7 : Int32) {d8 d9 d10 : Option ai_V} (h : sh_H), sh_ok (f_M_coins_l30 N k130 n l1 l2 l3 l4 l5 l6 l7 h) R → wq_306 d Q 30 [oR 12 0, oI l1, oI l2, oI l3, oI l4, oI l5, oI l6, oI l7, d8, d9, d10] [] (sh_E h) := by
  induction n with
  | zero => intro l1 l2 l3 l4 l5 l6 l7 d8 d9 d10 h H; exact H.elim
  | succ n ih =>
    intro l1 l2 l3 l4 l5 l6 l7 d8 d9 d10 h H
    have hk30 := @ih
    replace H : sh_ok (f_M_coins_c30 N k130 (f_M_coins_l30 N k130 n) l1 l2 l3 l4 l5 l6 l7 h) R := H
    revert hk30 H
    generalize f_M_coins_l30 N k130 n = k30
    intro hk30 H
    refine ai_WP_steps mc_306 (sh_CM d) 2 (And.intro (fun c => ?_) (fun c => ?_))
    · replace H := sh_okT c H
      show wq_306 d Q 35 [oR 12 0, oI l1, oI l2, oI l3, oI l4, oI l5, oI l6, oI l7, _, _, _] [] (sh_E h)
      refine ai_WP_steps mc_306 (sh_CM d) 10 (And.intro (Nat.le_of_ble_eq_true rfl) (x_M_power N (Nat.le_trans (Nat.le_of_ble_eq_true rfl) hd) (l6.toInt64 + (1 : Int64)) ((l4 - (1 : Int32)) - l7) h (sh_okB H) (fun v6 H => ?_)))
      show wq_306 d Q 50 [oR 12 0, oI l1, oI l2, oI l3, oI l4, oI l5, oI l6, oI l7, _, _, _] [aL v6] (sh_E h)
      refine ai_WP_steps mc_306 (sh_CM d) 3 ?_
      exact x_M_coins_l55 N hd hR (f_M_coins_b94 N k30) (fun z0 z1 z2 z3 z4 z5 z6 {e8} {e9} {e10} h H => x_M_coins_b94 N hd hR k30 hk30 z0 z1 z2 z3 z4 z5 z6 h H) N l1 l2 l3 l4 l5 l6 l7 v6 (0 : Int32) h H
    · replace H := sh_okF c H
      exact hk130 l1 l2 l3 l4 l5 l6 h H
def f_M_coins_b130 (N : Nat)   (l1 : Int32) (l2 : Int32) (l3 : Int32) (l4 : Int32) (l5 : Int32) (l6 : Int32) (h : sh_H) : Option (Int64 × sh_H) := (Option.bind (f_M_power N (l6.toInt64 + (1 : Int64)) (l4 - (1 : Int32)) h) (fun v7 => (sh_b2 (f_M_leastOf N l1 l2 l3 l5 l6 v7 h) (fun v8 h9 => (some (v8, h9))))))
theorem x_M_coins_b130 (N : Nat) {d : Nat} (hd : 4 ≤ d) {Q : ai_Q} {R : Int64 × sh_H → Prop} (hR : ∀ r h, R (r, h) → Q (some (aL r)) (sh_E h))   (l1 : Int32) (l2 : Int32) (l3 : Int32) (l4 : Int32) (l5 : Int32) (l6 : Int32) {d7 d8 d9 d10 : Option ai_V} (h : sh_H) (H : sh_ok (f_M_coins_b130 N l1 l2 l3 l4 l5 l6 h) R) : wq_306 d Q 130 [oR 12 0, oI l1, oI l2, oI l3, oI l4, oI l5, oI l6, d7, d8, d9, d10] [] (sh_E h) := by
  refine ai_WP_steps mc_306 (sh_CM d) 14 (And.intro (Nat.le_of_ble_eq_true rfl) (x_M_power N (Nat.le_trans (Nat.le_of_ble_eq_true rfl) hd) (l6.toInt64 + (1 : Int64)) (l4 - (1 : Int32)) h (sh_okB H) (fun v7 H => ?_)))
  show wq_306 d Q 150 [oR 12 0, oI l1, oI l2, oI l3, oI l4, oI l5, oI l6, _, _, _, _] [aL v7, aI l6, aI l5, aI l3, aI l2, aI l1, aR 12 0] (sh_E h)
  refine ai_WP_steps mc_306 (sh_CM d) 1 (And.intro (Nat.le_of_ble_eq_true rfl) (x_M_leastOf N (Nat.le_trans (Nat.le_of_ble_eq_true rfl) hd) l1 l2 l3 l5 l6 v7 h (sh_okB H) (fun v8 h9 H => ?_)))
  show wq_306 d Q 153 [oR 12 0, oI l1, oI l2, oI l3, oI l4, oI l5, oI l6, _, _, _, _] [aL v8] (sh_E h9)
  exact ai_WP_steps mc_306 (sh_CM d) 1 (hR v8 h9 H)
def f_M_coins_b24 (N : Nat)   (l1 : Int32) (l2 : Int32) (l3 : Int32) (l4 : Int32) (l5 : Int32) (l6 : Int32) (h : sh_H) : Option (Int64 × sh_H) := f_M_coins_l30 N (f_M_coins_b130 N) N l1 l2 l3 l4 l5 l6 (l4 - (1 : Int32)) h
theorem x_M_coins_b24 (N : Nat) {d : Nat} (hd : 4 ≤ d) {Q : ai_Q} {R : Int64 × sh_H → Prop} (hR : ∀ r h, R (r, h) → Q (some (aL r)) (sh_E h))   (l1 : Int32) (l2 : Int32) (l3 : Int32) (l4 : Int32) (l5 : Int32) (l6 : Int32) {d7 d8 d9 d10 : Option ai_V} (h : sh_H) (H : sh_ok (f_M_coins_b24 N l1 l2 l3 l4 l5 l6 h) R) : wq_306 d Q 24 [oR 12 0, oI l1, oI l2, oI l3, oI l4, oI l5, oI l6, d7, d8, d9, d10] [] (sh_E h) := by
  refine ai_WP_steps mc_306 (sh_CM d) 4 ?_
  exact x_M_coins_l30 N hd hR (f_M_coins_b130 N) (fun z0 z1 z2 z3 z4 z5 {e7} {e8} {e9} {e10} h H => x_M_coins_b130 N hd hR z0 z1 z2 z3 z4 z5 h H) N l1 l2 l3 l4 l5 l6 (l4 - (1 : Int32)) h H
def f_M_coins (N : Nat)  (l1 : Int32) (l2 : Int32) (l3 : Int32) (l4 : Int32) (l5 : Int32) (l6 : Int32) (h : sh_H) : Option (Int64 × sh_H) := f_M_coins_l3 N (f_M_coins_b24 N) N l1 l2 l3 l4 l5 l6 (0 : Int32) h
theorem x_M_coins (N : Nat) {d : Nat} (hd : 5 ≤ d) (l1 : Int32) (l2 : Int32) (l3 : Int32) (l4 : Int32) (l5 : Int32) (l6 : Int32) (h : sh_H) {Q : ai_Q} {R : Int64 × sh_H → Prop} (H : sh_ok (f_M_coins N l1 l2 l3 l4 l5 l6 h) R) (hR : ∀ r h, R (r, h) → Q (some (aL r)) (sh_E h)) : ai_Ex sh_T d 306 [aR 12 0, aI l1, aI l2, aI l3, aI l4, aI l5, aI l6] (sh_E h) Q := by
  obtain ⟨d, rfl⟩ : ∃ e, d = e + 1 := ⟨d - 1, by omega⟩
  replace hd : 4 ≤ d := by omega
  refine And.intro (Nat.le_of_ble_eq_true rfl) ?_
  show wq_306 d Q 0 [oR 12 0, oI l1, oI l2, oI l3, oI l4, oI l5, oI l6, none, none, none, none] [] (sh_E h)
  refine ai_WP_steps mc_306 (sh_CM d) 2 ?_
  exact x_M_coins_l3 N hd hR (f_M_coins_b24 N) (fun z0 z1 z2 z3 z4 z5 {e7} {e8} {e9} {e10} h H => x_M_coins_b24 N hd hR z0 z1 z2 z3 z4 z5 h H) N l1 l2 l3 l4 l5 l6 (0 : Int32) h H
def f_M_least (N : Nat)  (l1 : Int32) (l2 : Int32) (l3 : Int32) (l4 : Int32) (l5 : Int32) (l6 : Int32) (h : sh_H) : Option (Int64 × sh_H) := (Option.bind (f_M_isCoin l1 l2 l3 l4 l5 l6 h) (fun v1 => (if v1 = 0 then (some ((-1 : Int64), h)) else (sh_b2 (f_M_coins N l1 l2 l3 l4 l5 l6 h) (fun v2 h3 => (some (v2, h3)))))))
theorem x_M_least (N : Nat) {d : Nat} (hd : 6 ≤ d) (l1 : Int32) (l2 : Int32) (l3 : Int32) (l4 : Int32) (l5 : Int32) (l6 : Int32) (h : sh_H) {Q : ai_Q} {R : Int64 × sh_H → Prop} (H : sh_ok (f_M_least N l1 l2 l3 l4 l5 l6 h) R) (hR : ∀ r h, R (r, h) → Q (some (aL r)) (sh_E h)) : ai_Ex sh_T d 307 [aR 12 0, aI l1, aI l2, aI l3, aI l4, aI l5, aI l6] (sh_E h) Q := by
  obtain ⟨d, rfl⟩ : ∃ e, d = e + 1 := ⟨d - 1, by omega⟩
  replace hd : 5 ≤ d := by omega
  refine And.intro (Nat.le_of_ble_eq_true rfl) ?_
  show wq_307 d Q 0 [oR 12 0, oI l1, oI l2, oI l3, oI l4, oI l5, oI l6] [] (sh_E h)
  refine ai_WP_steps mc_307 (sh_CM d) 8 (And.intro (Nat.le_of_ble_eq_true rfl) (x_M_isCoin (Nat.le_trans (Nat.le_of_ble_eq_true rfl) hd) l1 l2 l3 l4 l5 l6 h (sh_okB H) (fun v1 H => ?_)))
  show wq_307 d Q 13 [oR 12 0, oI l1, oI l2, oI l3, oI l4, oI l5, oI l6] [aI v1] (sh_E h)
  refine ai_WP_steps mc_307 (sh_CM d) 1 (And.intro (fun c => ?_) (fun c => ?_))
  · replace H := sh_okT c H
    show wq_307 d Q 32 [oR 12 0, oI l1, oI l2, oI l3, oI l4, oI l5, oI l6] [] (sh_E h)
    exact ai_WP_steps mc_307 (sh_CM d) 2 (hR (-1 : Int64) h H)
  · replace H := sh_okF c H
    show wq_307 d Q 16 [oR 12 0, oI l1, oI l2, oI l3, oI l4, oI l5, oI l6] [] (sh_E h)
    refine ai_WP_steps mc_307 (sh_CM d) 8 (And.intro (Nat.le_of_ble_eq_true rfl) (x_M_coins N (Nat.le_trans (Nat.le_of_ble_eq_true rfl) hd) l1 l2 l3 l4 l5 l6 h (sh_okB H) (fun v2 h3 H => ?_)))
    show wq_307 d Q 29 [oR 12 0, oI l1, oI l2, oI l3, oI l4, oI l5, oI l6] [aL v2] (sh_E h3)
    exact ai_WP_steps mc_307 (sh_CM d) 2 (hR v2 h3 H)
def f_M_order (N : Nat)  (l1 : Int32) (l2 : Int32) (l3 : Int32) (l4 : Int32) (l5 : Int32) (l6 : Int32) (h : sh_H) : Option (Int32 × sh_H) := (Option.bind (f_M_isCoin l1 l2 l3 l4 l5 l6 h) (fun v1 => (if v1 = 0 then (some ((-1 : Int32), h)) else (sh_b2 (f_M_coins N l1 l2 l3 l4 l5 l6 h) (fun v2 h3 => (some ((h3.1 12 0 37), h3)))))))
theorem x_M_order (N : Nat) {d : Nat} (hd : 6 ≤ d) (l1 : Int32) (l2 : Int32) (l3 : Int32) (l4 : Int32) (l5 : Int32) (l6 : Int32) (h : sh_H) {Q : ai_Q} {R : Int32 × sh_H → Prop} (H : sh_ok (f_M_order N l1 l2 l3 l4 l5 l6 h) R) (hR : ∀ r h, R (r, h) → Q (some (aI r)) (sh_E h)) : ai_Ex sh_T d 308 [aR 12 0, aI l1, aI l2, aI l3, aI l4, aI l5, aI l6] (sh_E h) Q := by
  obtain ⟨d, rfl⟩ : ∃ e, d = e + 1 := ⟨d - 1, by omega⟩
  replace hd : 5 ≤ d := by omega
  refine And.intro (Nat.le_of_ble_eq_true rfl) ?_
  show wq_308 d Q 0 [oR 12 0, oI l1, oI l2, oI l3, oI l4, oI l5, oI l6, none, none] [] (sh_E h)
  refine ai_WP_steps mc_308 (sh_CM d) 8 (And.intro (Nat.le_of_ble_eq_true rfl) (x_M_isCoin (Nat.le_trans (Nat.le_of_ble_eq_true rfl) hd) l1 l2 l3 l4 l5 l6 h (sh_okB H) (fun v1 H => ?_)))
  show wq_308 d Q 13 [oR 12 0, oI l1, oI l2, oI l3, oI l4, oI l5, oI l6, _, _] [aI v1] (sh_E h)
  refine ai_WP_steps mc_308 (sh_CM d) 1 (And.intro (fun c => ?_) (fun c => ?_))
  · replace H := sh_okT c H
    show wq_308 d Q 16 [oR 12 0, oI l1, oI l2, oI l3, oI l4, oI l5, oI l6, _, _] [] (sh_E h)
    exact ai_WP_steps mc_308 (sh_CM d) 2 (hR (-1 : Int32) h H)
  · replace H := sh_okF c H
    show wq_308 d Q 18 [oR 12 0, oI l1, oI l2, oI l3, oI l4, oI l5, oI l6, _, _] [] (sh_E h)
    refine ai_WP_steps mc_308 (sh_CM d) 8 (And.intro (Nat.le_of_ble_eq_true rfl) (x_M_coins N (Nat.le_trans (Nat.le_of_ble_eq_true rfl) hd) l1 l2 l3 l4 l5 l6 h (sh_okB H) (fun v2 h3 H => ?_)))
    show wq_308 d Q 31 [oR 12 0, oI l1, oI l2, oI l3, oI l4, oI l5, oI l6, _, _] [aL v2] (sh_E h3)
    exact ai_WP_steps mc_308 (sh_CM d) 4 (hR (h3.1 12 0 37) h3 H)
def f_M_price_b23 (N : Nat)    (h : sh_H) : Option (Int64 × sh_H) := (some ((-1 : Int64), h))
theorem x_M_price_b23 (N : Nat) {d : Nat} (hd : 5 ≤ d) {Q : ai_Q} {R : Int64 × sh_H → Prop} (hR : ∀ r h, R (r, h) → Q (some (aL r)) (sh_E h))    {d0 d1 d2 d3 d4 d5 d6 : Option ai_V} (h : sh_H) (H : sh_ok (f_M_price_b23 N h) R) : wq_309 d Q 23 [d0, d1, d2, d3, d4, d5, d6] [] (sh_E h) := by
  exact ai_WP_steps mc_309 (sh_CM d) 2 (hR (-1 : Int64) h H)
def f_M_price (N : Nat)  (l1 : Int32) (l2 : Int32) (l3 : Int32) (l4 : Int32) (l5 : Int32) (l6 : Int32) (h : sh_H) : Option (Int64 × sh_H) := (Option.bind (f_M_isCoin l1 l2 l3 l4 l5 l6 h) (fun v1 => (if v1 = 0 then f_M_price_b23 N h else (if l5 = (60 : Int32) then f_M_price_b23 N h else (sh_b2 (f_M_coins N l1 l2 l3 l4 l5 l6 h) (fun v2 h3 => (sh_b2 (f_M_coins N l1 l2 l3 l4 (l5 + (1 : Int32)) l6 h3) (fun v4 h5 => (some ((v2 - v4), h5))))))))))
theorem x_M_price (N : Nat) {d : Nat} (hd : 6 ≤ d) (l1 : Int32) (l2 : Int32) (l3 : Int32) (l4 : Int32) (l5 : Int32) (l6 : Int32) (h : sh_H) {Q : ai_Q} {R : Int64 × sh_H → Prop} (H : sh_ok (f_M_price N l1 l2 l3 l4 l5 l6 h) R) (hR : ∀ r h, R (r, h) → Q (some (aL r)) (sh_E h)) : ai_Ex sh_T d 309 [aR 12 0, aI l1, aI l2, aI l3, aI l4, aI l5, aI l6] (sh_E h) Q := by
  obtain ⟨d, rfl⟩ : ∃ e, d = e + 1 := ⟨d - 1, by omega⟩
  replace hd : 5 ≤ d := by omega
  refine And.intro (Nat.le_of_ble_eq_true rfl) ?_
  show wq_309 d Q 0 [oR 12 0, oI l1, oI l2, oI l3, oI l4, oI l5, oI l6] [] (sh_E h)
  refine ai_WP_steps mc_309 (sh_CM d) 8 (And.intro (Nat.le_of_ble_eq_true rfl) (x_M_isCoin (Nat.le_trans (Nat.le_of_ble_eq_true rfl) hd) l1 l2 l3 l4 l5 l6 h (sh_okB H) (fun v1 H => ?_)))
  show wq_309 d Q 13 [oR 12 0, oI l1, oI l2, oI l3, oI l4, oI l5, oI l6] [aI v1] (sh_E h)
  refine ai_WP_steps mc_309 (sh_CM d) 1 (And.intro (fun c => ?_) (fun c => ?_))
  · replace H := sh_okT c H
    exact x_M_price_b23 N hd hR h H
  · replace H := sh_okF c H
    show wq_309 d Q 16 [oR 12 0, oI l1, oI l2, oI l3, oI l4, oI l5, oI l6] [] (sh_E h)
    refine ai_WP_steps mc_309 (sh_CM d) 3 (And.intro (fun c => ?_) (fun c => ?_))
    · replace H := sh_okT c H
      exact x_M_price_b23 N hd hR h H
    · replace H := sh_okF c H
      show wq_309 d Q 27 [oR 12 0, oI l1, oI l2, oI l3, oI l4, oI l5, oI l6] [] (sh_E h)
      refine ai_WP_steps mc_309 (sh_CM d) 8 (And.intro (Nat.le_of_ble_eq_true rfl) (x_M_coins N (Nat.le_trans (Nat.le_of_ble_eq_true rfl) hd) l1 l2 l3 l4 l5 l6 h (sh_okB H) (fun v2 h3 H => ?_)))
      show wq_309 d Q 40 [oR 12 0, oI l1, oI l2, oI l3, oI l4, oI l5, oI l6] [aL v2] (sh_E h3)
      refine ai_WP_steps mc_309 (sh_CM d) 10 (And.intro (Nat.le_of_ble_eq_true rfl) (x_M_coins N (Nat.le_trans (Nat.le_of_ble_eq_true rfl) hd) l1 l2 l3 l4 (l5 + (1 : Int32)) l6 h3 (sh_okB H) (fun v4 h5 H => ?_)))
      show wq_309 d Q 55 [oR 12 0, oI l1, oI l2, oI l3, oI l4, oI l5, oI l6] [aL v4, aL v2] (sh_E h5)
      exact ai_WP_steps mc_309 (sh_CM d) 2 (hR (v2 - v4) h5 H)
def f_M_isPool_b38    (h : sh_H) : Option Int32 := (some (ai_nar 1 (0 : Int32)))
theorem x_M_isPool_b38 {d : Nat} (hd : 1 ≤ d) (h : sh_H) {Q : ai_Q} {R : Int32 → Prop} (hR : ∀ r, R r → Q (some (aI r)) (sh_E h))    {d0 d1 d2 d3 : Option ai_V} (H : sh_ok (f_M_isPool_b38 h) R) : wq_310 d Q 38 [d0, d1, d2, d3] [] (sh_E h) := by
  exact ai_WP_steps mc_310 (sh_CM d) 2 (hR (ai_nar 1 (0 : Int32)) H)
def f_M_isPool  (l1 : Int32) (l2 : Int32) (l3 : Int32) (h : sh_H) : Option Int32 := (Option.bind (f_M_isKind l1 h) (fun v1 => (if v1 = 0 then f_M_isPool_b38 h else (Option.bind (f_M_isIn l2 (0 : Int32) (11 : Int32) h) (fun v2 => (if v2 = 0 then f_M_isPool_b38 h else (if l3 < 0 then f_M_isPool_b38 h else (if ai_in (1 : Int32) 8000 then (if l3 < ((1 : Int32) <<< ((h.1 13 46 (1 : Int32).toNatClampNeg) &&& 31)) then (some (ai_nar 1 (1 : Int32))) else f_M_isPool_b38 h) else none))))))))
theorem x_M_isPool {d : Nat} (hd : 2 ≤ d) (l1 : Int32) (l2 : Int32) (l3 : Int32) (h : sh_H) {Q : ai_Q} {R : Int32 → Prop} (H : sh_ok (f_M_isPool l1 l2 l3 h) R) (hR : ∀ r, R r → Q (some (aI r)) (sh_E h)) : ai_Ex sh_T d 310 [aR 12 0, aI l1, aI l2, aI l3] (sh_E h) Q := by
  obtain ⟨d, rfl⟩ : ∃ e, d = e + 1 := ⟨d - 1, by omega⟩
  replace hd : 1 ≤ d := by omega
  refine And.intro (Nat.le_of_ble_eq_true rfl) ?_
  show wq_310 d Q 0 [oR 12 0, oI l1, oI l2, oI l3] [] (sh_E h)
  refine ai_WP_steps mc_310 (sh_CM d) 3 (And.intro (Nat.le_of_ble_eq_true rfl) (x_M_isKind (Nat.le_trans (Nat.le_of_ble_eq_true rfl) hd) l1 h (sh_okB H) (fun v1 H => ?_)))
  show wq_310 d Q 5 [oR 12 0, oI l1, oI l2, oI l3] [aI v1] (sh_E h)
  refine ai_WP_steps mc_310 (sh_CM d) 1 (And.intro (fun c => ?_) (fun c => ?_))
  · replace H := sh_okT c H
    exact x_M_isPool_b38 hd h hR H
  · replace H := sh_okF c H
    show wq_310 d Q 8 [oR 12 0, oI l1, oI l2, oI l3] [] (sh_E h)
    refine ai_WP_steps mc_310 (sh_CM d) 4 (And.intro (Nat.le_of_ble_eq_true rfl) (x_M_isIn (Nat.le_trans (Nat.le_of_ble_eq_true rfl) hd) l2 (0 : Int32) (11 : Int32) h (sh_okB H) (fun v2 H => ?_)))
    show wq_310 d Q 15 [oR 12 0, oI l1, oI l2, oI l3] [aI v2] (sh_E h)
    refine ai_WP_steps mc_310 (sh_CM d) 1 (And.intro (fun c => ?_) (fun c => ?_))
    · replace H := sh_okT c H
      exact x_M_isPool_b38 hd h hR H
    · replace H := sh_okF c H
      show wq_310 d Q 18 [oR 12 0, oI l1, oI l2, oI l3] [] (sh_E h)
      refine ai_WP_steps mc_310 (sh_CM d) 2 (And.intro (fun c => ?_) (fun c => ?_))
      · replace H := sh_okT c H
        exact x_M_isPool_b38 hd h hR H
      · replace H := sh_okF c H
        show wq_310 d Q 22 [oR 12 0, oI l1, oI l2, oI l3] [] (sh_E h)
        have c := sh_okG H
        replace H := sh_okH H
        refine ai_WP_steps mc_310 (sh_CM d) 6 (And.intro c ?_)
        show wq_310 d Q 30 [oR 12 0, oI l1, oI l2, oI l3] [aI (h.1 13 46 (1 : Int32).toNatClampNeg), aI (1 : Int32), aI l3] (sh_E h)
        refine ai_WP_steps mc_310 (sh_CM d) 2 (And.intro (fun c => ?_) (fun c => ?_))
        · replace H := sh_okT c H
          show wq_310 d Q 34 [oR 12 0, oI l1, oI l2, oI l3] [] (sh_E h)
          exact ai_WP_steps mc_310 (sh_CM d) 3 (hR (ai_nar 1 (1 : Int32)) H)
        · replace H := sh_okF c H
          exact x_M_isPool_b38 hd h hR H
def f_M_poolOf_b41 (N : Nat)  (k6 : Int32 → Int32 → Int32 → Int32 → Int32 → sh_H → Option (Int32 × sh_H)) (l1 : Int32) (l2 : Int32) (l3 : Int32) (l4 : Int32) (l5 : Int32) (h : sh_H) : Option (Int32 × sh_H) := k6 l1 l2 l3 l4 (l5 + (1 : Int32)) h
theorem x_M_poolOf_b41 (N : Nat) {d : Nat} (hd : 3 ≤ d) {Q : ai_Q} {R : Int32 × sh_H → Prop} (hR : ∀ r h, R (r, h) → Q (some (aI r)) (sh_E h))  (k6 : Int32 → Int32 → Int32 → Int32 → Int32 → sh_H → Option (Int32 × sh_H)) (hk6 : ∀ (l1 : Int32) (l2 : Int32) (l3 : Int32) (l4 : Int32) (l5 : Int32) {d6 d7 d8 d9 : Option ai_V} (h : sh_H), sh_ok (k6 l1 l2 l3 l4 l5 h) R → wq_311 d Q 6 [oR 12 0, oI l1, oI l2, oI l3, oI l4, oI l5, d6, d7, d8, d9] [] (sh_E h)) (l1 : Int32) (l2 : Int32) (l3 : Int32) (l4 : Int32) (l5 : Int32) {d6 d7 d8 d9 : Option ai_V} (h : sh_H) (H : sh_ok (f_M_poolOf_b41 N k6 l1 l2 l3 l4 l5 h) R) : wq_311 d Q 41 [oR 12 0, oI l1, oI l2, oI l3, oI l4, oI l5, d6, d7, d8, d9] [] (sh_E h) := by
  refine ai_WP_steps mc_311 (sh_CM d) 2 ?_
  exact hk6 l1 l2 l3 l4 (l5 + (1 : Int32)) h H
def f_M_poolOf_c6 (N : Nat)  (k47 : Int32 → Int32 → Int32 → Int32 → sh_H → Option (Int32 × sh_H)) (k6 : Int32 → Int32 → Int32 → Int32 → Int32 → sh_H → Option (Int32 × sh_H)) (l1 : Int32) (l2 : Int32) (l3 : Int32) (l4 : Int32) (l5 : Int32) (h : sh_H) : Option (Int32 × sh_H) := (if ai_in (1 : Int32) 8000 then (if (h.1 13 46 (1 : Int32).toNatClampNeg) < l5 then k47 l1 l2 l3 l4 h else (if ((l3 >>> ((l5 - (1 : Int32)) &&& 31)) &&& (1 : Int32)) = (1 : Int32) then (Option.bind (f_M_all N l5 l1 h) (fun v1 => f_M_poolOf_b41 N k6 l1 l2 l3 (l4 + v1) l5 h)) else f_M_poolOf_b41 N k6 l1 l2 l3 l4 l5 h)) else none)
def f_M_poolOf_l6 (N : Nat)  (k47 : Int32 → Int32 → Int32 → Int32 → sh_H → Option (Int32 × sh_H)) (n : Nat) : Int32 → Int32 → Int32 → Int32 → Int32 → sh_H → Option (Int32 × sh_H) := Nat.rec (motive := fun _ => Int32 → Int32 → Int32 → Int32 → Int32 → sh_H → Option (Int32 × sh_H)) (fun _ _ _ _ _ _ => none) (fun _ k6 => f_M_poolOf_c6 N k47 k6) n
theorem x_M_poolOf_l6 (N : Nat) {d : Nat} (hd : 3 ≤ d) {Q : ai_Q} {R : Int32 × sh_H → Prop} (hR : ∀ r h, R (r, h) → Q (some (aI r)) (sh_E h))  (k47 : Int32 → Int32 → Int32 → Int32 → sh_H → Option (Int32 × sh_H)) (hk47 : ∀ (l1 : Int32) (l2 : Int32) (l3 : Int32) (l4 : Int32) {d5 d6 d7 d8 d9 : Option ai_V} (h : sh_H), sh_ok (k47 l1 l2 l3 l4 h) R → wq_311 d Q 47 [oR 12 0, oI l1, oI l2, oI l3, oI l4, d5, d6, d7, d8, d9] [] (sh_E h)) (n : Nat) : ∀ (l1 : Int32) (l2 : Int32) (l3 : Int32) (l4 : Int32) (l5 : Int32) {d6 d7 d8 d9 : Option ai_V} (h : sh_H), sh_ok (f_M_poolOf_l6 N k47 n l1 l2 l3 l4 l5 h) R → wq_311 d Q 6 [oR 12 0, oI l1, oI l2, oI l3, oI l4, oI l5, d6, d7, d8, d9] [] (sh_E h) := by
  induction n with
  | zero => intro l1 l2 l3 l4 l5 d6 d7 d8 d9 h H; exact H.elim
  | succ n ih =>
    intro l1 l2 l3 l4 l5 d6 d7 d8 d9 h H
    have hk6 := @ih
    replace H : sh_ok (f_M_poolOf_c6 N k47 (f_M_poolOf_l6 N k47 n) l1 l2 l3 l4 l5 h) R := H
    revert hk6 H
    generalize f_M_poolOf_l6 N k47 n = k6
    intro hk6 H
    have c := sh_okG H
    replace H := sh_okH H
    refine ai_WP_steps mc_311 (sh_CM d) 5 (And.intro c ?_)
    show wq_311 d Q 14 [oR 12 0, oI l1, oI l2, oI l3, oI l4, oI l5, _, _, _, _] [aI (h.1 13 46 (1 : Int32).toNatClampNeg), aI l5] (sh_E h)
    refine ai_WP_steps mc_311 (sh_CM d) 1 (And.intro (fun c => ?_) (fun c => ?_))
    · replace H := sh_okT c H
      exact hk47 l1 l2 l3 l4 h H
    · replace H := sh_okF c H
      show wq_311 d Q 17 [oR 12 0, oI l1, oI l2, oI l3, oI l4, oI l5, _, _, _, _] [] (sh_E h)
      refine ai_WP_steps mc_311 (sh_CM d) 9 (And.intro (fun c => ?_) (fun c => ?_))
      · replace H := sh_okT c H
        show wq_311 d Q 29 [oR 12 0, oI l1, oI l2, oI l3, oI l4, oI l5, _, _, _, _] [] (sh_E h)
        refine ai_WP_steps mc_311 (sh_CM d) 5 (And.intro (Nat.le_of_ble_eq_true rfl) (x_M_all N (Nat.le_trans (Nat.le_of_ble_eq_true rfl) hd) l5 l1 h (sh_okB H) (fun v1 H => ?_)))
        show wq_311 d Q 38 [oR 12 0, oI l1, oI l2, oI l3, oI l4, oI l5, _, _, _, _] [aI v1, aI l4] (sh_E h)
        refine ai_WP_steps mc_311 (sh_CM d) 2 ?_
        exact x_M_poolOf_b41 N hd hR k6 hk6 l1 l2 l3 (l4 + v1) l5 h H
      · replace H := sh_okF c H
        exact x_M_poolOf_b41 N hd hR k6 hk6 l1 l2 l3 l4 l5 h H
def f_M_poolOf_b144 (N : Nat)  (k62 : Int32 → Int32 → Int32 → Int32 → Int32 → Int32 → Int32 → sh_H → Option (Int32 × sh_H)) (l1 : Int32) (l2 : Int32) (l3 : Int32) (l4 : Int32) (l5 : Int32) (l6 : Int32) (l7 : Int32) (h : sh_H) : Option (Int32 × sh_H) := k62 l1 l2 l3 l4 l5 l6 (l7 + (1 : Int32)) h
theorem x_M_poolOf_b144 (N : Nat) {d : Nat} (hd : 3 ≤ d) {Q : ai_Q} {R : Int32 × sh_H → Prop} (hR : ∀ r h, R (r, h) → Q (some (aI r)) (sh_E h))  (k62 : Int32 → Int32 → Int32 → Int32 → Int32 → Int32 → Int32 → sh_H → Option (Int32 × sh_H)) (hk62 : ∀ (l1 : Int32) (l2 : Int32) (l3 : Int32) (l4 : Int32) (l5 : Int32) (l6 : Int32) (l7 : Int32) {d8 d9 : Option ai_V} (h : sh_H), sh_ok (k62 l1 l2 l3 l4 l5 l6 l7 h) R → wq_311 d Q 62 [oR 12 0, oI l1, oI l2, oI l3, oI l4, oI l5, oI l6, oI l7, d8, d9] [] (sh_E h)) (l1 : Int32) (l2 : Int32) (l3 : Int32) (l4 : Int32) (l5 : Int32) (l6 : Int32) (l7 : Int32) {d8 d9 : Option ai_V} (h : sh_H) (H : sh_ok (f_M_poolOf_b144 N k62 l1 l2 l3 l4 l5 l6 l7 h) R) : wq_311 d Q 144 [oR 12 0, oI l1, oI l2, oI l3, oI l4, oI l5, oI l6, oI l7, d8, d9] [] (sh_E h) := by
  refine ai_WP_steps mc_311 (sh_CM d) 2 ?_
  exact hk62 l1 l2 l3 l4 l5 l6 (l7 + (1 : Int32)) h H
def f_M_poolOf_b122 (N : Nat)  (k62 : Int32 → Int32 → Int32 → Int32 → Int32 → Int32 → Int32 → sh_H → Option (Int32 × sh_H)) (l1 : Int32) (l2 : Int32) (l3 : Int32) (l4 : Int32) (l5 : Int32) (l6 : Int32) (l7 : Int32) (l8 : Int32) (s0 : Int32) (h : sh_H) : Option (Int32 × sh_H) := f_M_poolOf_b144 N k62 l1 l2 l3 (l4 - s0) (l5 + (l6 * (l8 - s0))) l6 l7 h
theorem x_M_poolOf_b122 (N : Nat) {d : Nat} (hd : 3 ≤ d) {Q : ai_Q} {R : Int32 × sh_H → Prop} (hR : ∀ r h, R (r, h) → Q (some (aI r)) (sh_E h))  (k62 : Int32 → Int32 → Int32 → Int32 → Int32 → Int32 → Int32 → sh_H → Option (Int32 × sh_H)) (hk62 : ∀ (l1 : Int32) (l2 : Int32) (l3 : Int32) (l4 : Int32) (l5 : Int32) (l6 : Int32) (l7 : Int32) {d8 d9 : Option ai_V} (h : sh_H), sh_ok (k62 l1 l2 l3 l4 l5 l6 l7 h) R → wq_311 d Q 62 [oR 12 0, oI l1, oI l2, oI l3, oI l4, oI l5, oI l6, oI l7, d8, d9] [] (sh_E h)) (l1 : Int32) (l2 : Int32) (l3 : Int32) (l4 : Int32) (l5 : Int32) (l6 : Int32) (l7 : Int32) (l8 : Int32) (s0 : Int32) {d9 : Option ai_V} (h : sh_H) (H : sh_ok (f_M_poolOf_b122 N k62 l1 l2 l3 l4 l5 l6 l7 l8 s0 h) R) : wq_311 d Q 122 [oR 12 0, oI l1, oI l2, oI l3, oI l4, oI l5, oI l6, oI l7, oI l8, d9] [aI s0] (sh_E h) := by
  refine ai_WP_steps mc_311 (sh_CM d) 13 ?_
  exact x_M_poolOf_b144 N hd hR k62 hk62 l1 l2 l3 (l4 - s0) (l5 + (l6 * (l8 - s0))) l6 l7 h H
def f_M_poolOf_c62 (N : Nat)  (k150 : Int32 → Int32 → Int32 → Int32 → Int32 → Int32 → sh_H → Option (Int32 × sh_H)) (k62 : Int32 → Int32 → Int32 → Int32 → Int32 → Int32 → Int32 → sh_H → Option (Int32 × sh_H)) (l1 : Int32) (l2 : Int32) (l3 : Int32) (l4 : Int32) (l5 : Int32) (l6 : Int32) (l7 : Int32) (h : sh_H) : Option (Int32 × sh_H) := (if ai_in (1 : Int32) 8000 then (if (h.1 13 46 (1 : Int32).toNatClampNeg) < l7 then k150 l1 l2 l3 l4 l5 l6 h else (if ((l3 >>> ((l7 - (1 : Int32)) &&& 31)) &&& (1 : Int32)) = 0 then f_M_poolOf_b144 N k62 l1 l2 l3 l4 l5 l6 l7 h else (Option.bind (f_M_harm l7 h) (fun v2 => (if v2 = l6 then (sh_b2 (f_M_wanted N l7 l1 l2 h) (fun v3 h4 => (if v3 < l4 then f_M_poolOf_b122 N k62 l1 l2 l3 l4 l5 l6 l7 v3 v3 h4 else f_M_poolOf_b122 N k62 l1 l2 l3 l4 l5 l6 l7 v3 l4 h4))) else f_M_poolOf_b144 N k62 l1 l2 l3 l4 l5 l6 l7 h))))) else none)
def f_M_poolOf_l62 (N : Nat)  (k150 : Int32 → Int32 → Int32 → Int32 → Int32 → Int32 → sh_H → Option (Int32 × sh_H)) (n : Nat) : Int32 → Int32 → Int32 → Int32 → Int32 → Int32 → Int32 → sh_H → Option (Int32 × sh_H) := Nat.rec (motive := fun _ => Int32 → Int32 → Int32 → Int32 → Int32 → Int32 → Int32 → sh_H → Option (Int32 × sh_H)) (fun _ _ _ _ _ _ _ _ => none) (fun _ k62 => f_M_poolOf_c62 N k150 k62) n
theorem x_M_poolOf_l62 (N : Nat) {d : Nat} (hd : 3 ≤ d) {Q : ai_Q} {R : Int32 × sh_H → Prop} (hR : ∀ r h, R (r, h) → Q (some (aI r)) (sh_E h))  (k150 : Int32 → Int32 → Int32 → Int32 → Int32 → Int32 → sh_H → Option (Int32 × sh_H)) (hk150 : ∀ (l1 : Int32) (l2 : Int32) (l3 : Int32) (l4 : Int32) (l5 : Int32) (l6 : Int32) {d7 d8 d9 : Option ai_V} (h : sh_H), sh_ok (k150 l1 l2 l3 l4 l5 l6 h) R → wq_311 d Q 150 [oR 12 0, oI l1, oI l2, oI l3, oI l4, oI l5, oI l6, d7, d8, d9] [] (sh_E h)) (n : Nat) : ∀ (l1 : Int32) (l2 : Int32) (l3 : Int32) (l4 : Int32) (l5 : Int32) (l6 : Int32) (l7 : Int32) {d8 d9 : Option ai_V} (h : sh_H), sh_ok (f_M_poolOf_l62 N k150 n l1 l2 l3 l4 l5 l6 l7 h) R → wq_311 d Q 62 [oR 12 0, oI l1, oI l2, oI l3, oI l4, oI l5, oI l6, oI l7, d8, d9] [] (sh_E h) := by
  induction n with
  | zero => intro l1 l2 l3 l4 l5 l6 l7 d8 d9 h H; exact H.elim
  | succ n ih =>
    intro l1 l2 l3 l4 l5 l6 l7 d8 d9 h H
    have hk62 := @ih
    replace H : sh_ok (f_M_poolOf_c62 N k150 (f_M_poolOf_l62 N k150 n) l1 l2 l3 l4 l5 l6 l7 h) R := H
    revert hk62 H
    generalize f_M_poolOf_l62 N k150 n = k62
    intro hk62 H
    have c := sh_okG H
    replace H := sh_okH H
    refine ai_WP_steps mc_311 (sh_CM d) 5 (And.intro c ?_)
    show wq_311 d Q 70 [oR 12 0, oI l1, oI l2, oI l3, oI l4, oI l5, oI l6, oI l7, _, _] [aI (h.1 13 46 (1 : Int32).toNatClampNeg), aI l7] (sh_E h)
    refine ai_WP_steps mc_311 (sh_CM d) 1 (And.intro (fun c => ?_) (fun c => ?_))
    · replace H := sh_okT c H
      exact hk150 l1 l2 l3 l4 l5 l6 h H
    · replace H := sh_okF c H
      show wq_311 d Q 73 [oR 12 0, oI l1, oI l2, oI l3, oI l4, oI l5, oI l6, oI l7, _, _] [] (sh_E h)
      refine ai_WP_steps mc_311 (sh_CM d) 8 (And.intro (fun c => ?_) (fun c => ?_))
      · replace H := sh_okT c H
        exact x_M_poolOf_b144 N hd hR k62 hk62 l1 l2 l3 l4 l5 l6 l7 h H
      · replace H := sh_okF c H
        show wq_311 d Q 84 [oR 12 0, oI l1, oI l2, oI l3, oI l4, oI l5, oI l6, oI l7, _, _] [] (sh_E h)
        refine ai_WP_steps mc_311 (sh_CM d) 3 (And.intro (Nat.le_of_ble_eq_true rfl) (x_M_harm (Nat.le_trans (Nat.le_of_ble_eq_true rfl) hd) l7 h (sh_okB H) (fun v2 H => ?_)))
        show wq_311 d Q 90 [oR 12 0, oI l1, oI l2, oI l3, oI l4, oI l5, oI l6, oI l7, _, _] [aI v2] (sh_E h)
        refine ai_WP_steps mc_311 (sh_CM d) 2 (And.intro (fun c => ?_) (fun c => ?_))
        · replace H := sh_okT c H
          show wq_311 d Q 98 [oR 12 0, oI l1, oI l2, oI l3, oI l4, oI l5, oI l6, oI l7, _, _] [] (sh_E h)
          refine ai_WP_steps mc_311 (sh_CM d) 5 (And.intro (Nat.le_of_ble_eq_true rfl) (x_M_wanted N (Nat.le_trans (Nat.le_of_ble_eq_true rfl) hd) l7 l1 l2 h (sh_okB H) (fun v3 h4 H => ?_)))
          show wq_311 d Q 106 [oR 12 0, oI l1, oI l2, oI l3, oI l4, oI l5, oI l6, oI l7, _, _] [aI v3] (sh_E h4)
          refine ai_WP_steps mc_311 (sh_CM d) 4 (And.intro (fun c => ?_) (fun c => ?_))
          · replace H := sh_okT c H
            show wq_311 d Q 115 [oR 12 0, oI l1, oI l2, oI l3, oI l4, oI l5, oI l6, oI l7, oI v3, _] [] (sh_E h4)
            refine ai_WP_steps mc_311 (sh_CM d) 2 ?_
            exact x_M_poolOf_b122 N hd hR k62 hk62 l1 l2 l3 l4 l5 l6 l7 v3 v3 h4 H
          · replace H := sh_okF c H
            show wq_311 d Q 120 [oR 12 0, oI l1, oI l2, oI l3, oI l4, oI l5, oI l6, oI l7, oI v3, _] [] (sh_E h4)
            refine ai_WP_steps mc_311 (sh_CM d) 1 ?_
            exact x_M_poolOf_b122 N hd hR k62 hk62 l1 l2 l3 l4 l5 l6 l7 v3 l4 h4 H
        · replace H := sh_okF c H
          show wq_311 d Q 95 [oR 12 0, oI l1, oI l2, oI l3, oI l4, oI l5, oI l6, oI l7, _, _] [] (sh_E h)
          refine ai_WP_steps mc_311 (sh_CM d) 1 ?_
          exact x_M_poolOf_b144 N hd hR k62 hk62 l1 l2 l3 l4 l5 l6 l7 h H
def f_M_poolOf_b150 (N : Nat)  (k54 : Int32 → Int32 → Int32 → Int32 → Int32 → Int32 → sh_H → Option (Int32 × sh_H)) (l1 : Int32) (l2 : Int32) (l3 : Int32) (l4 : Int32) (l5 : Int32) (l6 : Int32) (h : sh_H) : Option (Int32 × sh_H) := k54 l1 l2 l3 l4 l5 (l6 + (-1 : Int32)) h
theorem x_M_poolOf_b150 (N : Nat) {d : Nat} (hd : 3 ≤ d) {Q : ai_Q} {R : Int32 × sh_H → Prop} (hR : ∀ r h, R (r, h) → Q (some (aI r)) (sh_E h))  (k54 : Int32 → Int32 → Int32 → Int32 → Int32 → Int32 → sh_H → Option (Int32 × sh_H)) (hk54 : ∀ (l1 : Int32) (l2 : Int32) (l3 : Int32) (l4 : Int32) (l5 : Int32) (l6 : Int32) {d7 d8 d9 : Option ai_V} (h : sh_H), sh_ok (k54 l1 l2 l3 l4 l5 l6 h) R → wq_311 d Q 54 [oR 12 0, oI l1, oI l2, oI l3, oI l4, oI l5, oI l6, d7, d8, d9] [] (sh_E h)) (l1 : Int32) (l2 : Int32) (l3 : Int32) (l4 : Int32) (l5 : Int32) (l6 : Int32) {d7 d8 d9 : Option ai_V} (h : sh_H) (H : sh_ok (f_M_poolOf_b150 N k54 l1 l2 l3 l4 l5 l6 h) R) : wq_311 d Q 150 [oR 12 0, oI l1, oI l2, oI l3, oI l4, oI l5, oI l6, d7, d8, d9] [] (sh_E h) := by
  refine ai_WP_steps mc_311 (sh_CM d) 2 ?_
  exact hk54 l1 l2 l3 l4 l5 (l6 + (-1 : Int32)) h H
def f_M_poolOf_c54 (N : Nat)   (k54 : Int32 → Int32 → Int32 → Int32 → Int32 → Int32 → sh_H → Option (Int32 × sh_H)) (l1 : Int32) (l2 : Int32) (l3 : Int32) (l4 : Int32) (l5 : Int32) (l6 : Int32) (h : sh_H) : Option (Int32 × sh_H) := (if l6 < 0 then (some (l5, h)) else f_M_poolOf_l62 N (f_M_poolOf_b150 N k54) N l1 l2 l3 l4 l5 l6 (1 : Int32) h)
def f_M_poolOf_l54 (N : Nat)   (n : Nat) : Int32 → Int32 → Int32 → Int32 → Int32 → Int32 → sh_H → Option (Int32 × sh_H) := Nat.rec (motive := fun _ => Int32 → Int32 → Int32 → Int32 → Int32 → Int32 → sh_H → Option (Int32 × sh_H)) (fun _ _ _ _ _ _ _ => none) (fun _ k54 => f_M_poolOf_c54 N k54) n
theorem x_M_poolOf_l54 (N : Nat) {d : Nat} (hd : 3 ≤ d) {Q : ai_Q} {R : Int32 × sh_H → Prop} (hR : ∀ r h, R (r, h) → Q (some (aI r)) (sh_E h))   (n : Nat) : ∀ (l1 : Int32) (l2 : Int32) (l3 : Int32) (l4 : Int32) (l5 : Int32) (l6 : Int32) {d7 d8 d9 : Option ai_V} (h : sh_H), sh_ok (f_M_poolOf_l54 N n l1 l2 l3 l4 l5 l6 h) R → wq_311 d Q 54 [oR 12 0, oI l1, oI l2, oI l3, oI l4, oI l5, oI l6, d7, d8, d9] [] (sh_E h) := by
  induction n with
  | zero => intro l1 l2 l3 l4 l5 l6 d7 d8 d9 h H; exact H.elim
  | succ n ih =>
    intro l1 l2 l3 l4 l5 l6 d7 d8 d9 h H
    have hk54 := @ih
    replace H : sh_ok (f_M_poolOf_c54 N (f_M_poolOf_l54 N n) l1 l2 l3 l4 l5 l6 h) R := H
    revert hk54 H
    generalize f_M_poolOf_l54 N n = k54
    intro hk54 H
    refine ai_WP_steps mc_311 (sh_CM d) 2 (And.intro (fun c => ?_) (fun c => ?_))
    · replace H := sh_okT c H
      show wq_311 d Q 156 [oR 12 0, oI l1, oI l2, oI l3, oI l4, oI l5, oI l6, _, _, _] [] (sh_E h)
      exact ai_WP_steps mc_311 (sh_CM d) 2 (hR l5 h H)
    · replace H := sh_okF c H
      show wq_311 d Q 59 [oR 12 0, oI l1, oI l2, oI l3, oI l4, oI l5, oI l6, _, _, _] [] (sh_E h)
      refine ai_WP_steps mc_311 (sh_CM d) 2 ?_
      exact x_M_poolOf_l62 N hd hR (f_M_poolOf_b150 N k54) (fun z0 z1 z2 z3 z4 z5 {e7} {e8} {e9} h H => x_M_poolOf_b150 N hd hR k54 hk54 z0 z1 z2 z3 z4 z5 h H) N l1 l2 l3 l4 l5 l6 (1 : Int32) h H
def f_M_poolOf_b47 (N : Nat)   (l1 : Int32) (l2 : Int32) (l3 : Int32) (l4 : Int32) (h : sh_H) : Option (Int32 × sh_H) := f_M_poolOf_l54 N N l1 l2 l3 l4 (0 : Int32) (99 : Int32) h
theorem x_M_poolOf_b47 (N : Nat) {d : Nat} (hd : 3 ≤ d) {Q : ai_Q} {R : Int32 × sh_H → Prop} (hR : ∀ r h, R (r, h) → Q (some (aI r)) (sh_E h))   (l1 : Int32) (l2 : Int32) (l3 : Int32) (l4 : Int32) {d5 d6 d7 d8 d9 : Option ai_V} (h : sh_H) (H : sh_ok (f_M_poolOf_b47 N l1 l2 l3 l4 h) R) : wq_311 d Q 47 [oR 12 0, oI l1, oI l2, oI l3, oI l4, d5, d6, d7, d8, d9] [] (sh_E h) := by
  refine ai_WP_steps mc_311 (sh_CM d) 4 ?_
  exact x_M_poolOf_l54 N hd hR N l1 l2 l3 l4 (0 : Int32) (99 : Int32) h H
def f_M_poolOf (N : Nat)  (l1 : Int32) (l2 : Int32) (l3 : Int32) (h : sh_H) : Option (Int32 × sh_H) := f_M_poolOf_l6 N (f_M_poolOf_b47 N) N l1 l2 l3 (0 : Int32) (1 : Int32) h
theorem x_M_poolOf (N : Nat) {d : Nat} (hd : 4 ≤ d) (l1 : Int32) (l2 : Int32) (l3 : Int32) (h : sh_H) {Q : ai_Q} {R : Int32 × sh_H → Prop} (H : sh_ok (f_M_poolOf N l1 l2 l3 h) R) (hR : ∀ r h, R (r, h) → Q (some (aI r)) (sh_E h)) : ai_Ex sh_T d 311 [aR 12 0, aI l1, aI l2, aI l3] (sh_E h) Q := by
  obtain ⟨d, rfl⟩ : ∃ e, d = e + 1 := ⟨d - 1, by omega⟩
  replace hd : 3 ≤ d := by omega
  refine And.intro (Nat.le_of_ble_eq_true rfl) ?_
  show wq_311 d Q 0 [oR 12 0, oI l1, oI l2, oI l3, none, none, none, none, none, none] [] (sh_E h)
  refine ai_WP_steps mc_311 (sh_CM d) 4 ?_
  exact x_M_poolOf_l6 N hd hR (f_M_poolOf_b47 N) (fun z0 z1 z2 z3 {e5} {e6} {e7} {e8} {e9} h H => x_M_poolOf_b47 N hd hR z0 z1 z2 z3 h H) N l1 l2 l3 (0 : Int32) (1 : Int32) h H
def f_M_savedOf_b37 (N : Nat)  (k6 : Int32 → Int32 → Int32 → Int32 → Int32 → sh_H → Option (Int32 × sh_H)) (l1 : Int32) (l2 : Int32) (l3 : Int32) (l4 : Int32) (l5 : Int32) (h : sh_H) : Option (Int32 × sh_H) := k6 l1 l2 l3 l4 (l5 + (1 : Int32)) h
theorem x_M_savedOf_b37 (N : Nat) {d : Nat} (hd : 4 ≤ d) {Q : ai_Q} {R : Int32 × sh_H → Prop} (hR : ∀ r h, R (r, h) → Q (some (aI r)) (sh_E h))  (k6 : Int32 → Int32 → Int32 → Int32 → Int32 → sh_H → Option (Int32 × sh_H)) (hk6 : ∀ (l1 : Int32) (l2 : Int32) (l3 : Int32) (l4 : Int32) (l5 : Int32) (h : sh_H), sh_ok (k6 l1 l2 l3 l4 l5 h) R → wq_312 d Q 6 [oR 12 0, oI l1, oI l2, oI l3, oI l4, oI l5] [] (sh_E h)) (l1 : Int32) (l2 : Int32) (l3 : Int32) (l4 : Int32) (l5 : Int32) (h : sh_H) (H : sh_ok (f_M_savedOf_b37 N k6 l1 l2 l3 l4 l5 h) R) : wq_312 d Q 37 [oR 12 0, oI l1, oI l2, oI l3, oI l4, oI l5] [] (sh_E h) := by
  refine ai_WP_steps mc_312 (sh_CM d) 2 ?_
  exact hk6 l1 l2 l3 l4 (l5 + (1 : Int32)) h H
def f_M_savedOf_c6 (N : Nat)  (k43 : Int32 → Int32 → Int32 → Int32 → sh_H → Option (Int32 × sh_H)) (k6 : Int32 → Int32 → Int32 → Int32 → Int32 → sh_H → Option (Int32 × sh_H)) (l1 : Int32) (l2 : Int32) (l3 : Int32) (l4 : Int32) (l5 : Int32) (h : sh_H) : Option (Int32 × sh_H) := (if l5 < (4 : Int32) then (if ((l3 >>> (l5 &&& 31)) &&& (1 : Int32)) = (1 : Int32) then (sh_b2 (f_M_poolOf N l1 l2 ((1 : Int32) <<< (l5 &&& 31)) h) (fun v1 h2 => f_M_savedOf_b37 N k6 l1 l2 l3 (l4 + v1) l5 h2)) else f_M_savedOf_b37 N k6 l1 l2 l3 l4 l5 h) else k43 l1 l2 l3 l4 h)
def f_M_savedOf_l6 (N : Nat)  (k43 : Int32 → Int32 → Int32 → Int32 → sh_H → Option (Int32 × sh_H)) (n : Nat) : Int32 → Int32 → Int32 → Int32 → Int32 → sh_H → Option (Int32 × sh_H) := Nat.rec (motive := fun _ => Int32 → Int32 → Int32 → Int32 → Int32 → sh_H → Option (Int32 × sh_H)) (fun _ _ _ _ _ _ => none) (fun _ k6 => f_M_savedOf_c6 N k43 k6) n
theorem x_M_savedOf_l6 (N : Nat) {d : Nat} (hd : 4 ≤ d) {Q : ai_Q} {R : Int32 × sh_H → Prop} (hR : ∀ r h, R (r, h) → Q (some (aI r)) (sh_E h))  (k43 : Int32 → Int32 → Int32 → Int32 → sh_H → Option (Int32 × sh_H)) (hk43 : ∀ (l1 : Int32) (l2 : Int32) (l3 : Int32) (l4 : Int32) {d5 : Option ai_V} (h : sh_H), sh_ok (k43 l1 l2 l3 l4 h) R → wq_312 d Q 43 [oR 12 0, oI l1, oI l2, oI l3, oI l4, d5] [] (sh_E h)) (n : Nat) : ∀ (l1 : Int32) (l2 : Int32) (l3 : Int32) (l4 : Int32) (l5 : Int32) (h : sh_H), sh_ok (f_M_savedOf_l6 N k43 n l1 l2 l3 l4 l5 h) R → wq_312 d Q 6 [oR 12 0, oI l1, oI l2, oI l3, oI l4, oI l5] [] (sh_E h) := by
  induction n with
  | zero => intro l1 l2 l3 l4 l5 h H; exact H.elim
  | succ n ih =>
    intro l1 l2 l3 l4 l5 h H
    have hk6 := @ih
    replace H : sh_ok (f_M_savedOf_c6 N k43 (f_M_savedOf_l6 N k43 n) l1 l2 l3 l4 l5 h) R := H
    revert hk6 H
    generalize f_M_savedOf_l6 N k43 n = k6
    intro hk6 H
    refine ai_WP_steps mc_312 (sh_CM d) 3 (And.intro (fun c => ?_) (fun c => ?_))
    · replace H := sh_okT c H
      show wq_312 d Q 12 [oR 12 0, oI l1, oI l2, oI l3, oI l4, oI l5] [] (sh_E h)
      refine ai_WP_steps mc_312 (sh_CM d) 7 (And.intro (fun c => ?_) (fun c => ?_))
      · replace H := sh_okT c H
        show wq_312 d Q 22 [oR 12 0, oI l1, oI l2, oI l3, oI l4, oI l5] [] (sh_E h)
        refine ai_WP_steps mc_312 (sh_CM d) 8 (And.intro (Nat.le_of_ble_eq_true rfl) (x_M_poolOf N (Nat.le_trans (Nat.le_of_ble_eq_true rfl) hd) l1 l2 ((1 : Int32) <<< (l5 &&& 31)) h (sh_okB H) (fun v1 h2 H => ?_)))
        show wq_312 d Q 34 [oR 12 0, oI l1, oI l2, oI l3, oI l4, oI l5] [aI v1, aI l4] (sh_E h2)
        refine ai_WP_steps mc_312 (sh_CM d) 2 ?_
        exact x_M_savedOf_b37 N hd hR k6 hk6 l1 l2 l3 (l4 + v1) l5 h2 H
      · replace H := sh_okF c H
        exact x_M_savedOf_b37 N hd hR k6 hk6 l1 l2 l3 l4 l5 h H
    · replace H := sh_okF c H
      exact hk43 l1 l2 l3 l4 h H
def f_M_savedOf_b43 (N : Nat)   (l1 : Int32) (l2 : Int32) (l3 : Int32) (l4 : Int32) (h : sh_H) : Option (Int32 × sh_H) := (sh_b2 (f_M_poolOf N l1 l2 l3 h) (fun v3 h4 => (some ((l4 - v3), h4))))
theorem x_M_savedOf_b43 (N : Nat) {d : Nat} (hd : 4 ≤ d) {Q : ai_Q} {R : Int32 × sh_H → Prop} (hR : ∀ r h, R (r, h) → Q (some (aI r)) (sh_E h))   (l1 : Int32) (l2 : Int32) (l3 : Int32) (l4 : Int32) {d5 : Option ai_V} (h : sh_H) (H : sh_ok (f_M_savedOf_b43 N l1 l2 l3 l4 h) R) : wq_312 d Q 43 [oR 12 0, oI l1, oI l2, oI l3, oI l4, d5] [] (sh_E h) := by
  refine ai_WP_steps mc_312 (sh_CM d) 6 (And.intro (Nat.le_of_ble_eq_true rfl) (x_M_poolOf N (Nat.le_trans (Nat.le_of_ble_eq_true rfl) hd) l1 l2 l3 h (sh_okB H) (fun v3 h4 H => ?_)))
  show wq_312 d Q 52 [oR 12 0, oI l1, oI l2, oI l3, oI l4, _] [aI v3, aI l4] (sh_E h4)
  exact ai_WP_steps mc_312 (sh_CM d) 2 (hR (l4 - v3) h4 H)
def f_M_savedOf (N : Nat)  (l1 : Int32) (l2 : Int32) (l3 : Int32) (h : sh_H) : Option (Int32 × sh_H) := f_M_savedOf_l6 N (f_M_savedOf_b43 N) N l1 l2 l3 (0 : Int32) (0 : Int32) h
theorem x_M_savedOf (N : Nat) {d : Nat} (hd : 5 ≤ d) (l1 : Int32) (l2 : Int32) (l3 : Int32) (h : sh_H) {Q : ai_Q} {R : Int32 × sh_H → Prop} (H : sh_ok (f_M_savedOf N l1 l2 l3 h) R) (hR : ∀ r h, R (r, h) → Q (some (aI r)) (sh_E h)) : ai_Ex sh_T d 312 [aR 12 0, aI l1, aI l2, aI l3] (sh_E h) Q := by
  obtain ⟨d, rfl⟩ : ∃ e, d = e + 1 := ⟨d - 1, by omega⟩
  replace hd : 4 ≤ d := by omega
  refine And.intro (Nat.le_of_ble_eq_true rfl) ?_
  show wq_312 d Q 0 [oR 12 0, oI l1, oI l2, oI l3, none, none] [] (sh_E h)
  refine ai_WP_steps mc_312 (sh_CM d) 4 ?_
  exact x_M_savedOf_l6 N hd hR (f_M_savedOf_b43 N) (fun z0 z1 z2 z3 {e5} h H => x_M_savedOf_b43 N hd hR z0 z1 z2 z3 h H) N l1 l2 l3 (0 : Int32) (0 : Int32) h H
def f_M_pool (N : Nat)  (l1 : Int32) (l2 : Int32) (l3 : Int32) (h : sh_H) : Option (Int32 × sh_H) := (Option.bind (f_M_isPool l1 l2 l3 h) (fun v1 => (if v1 = 0 then (some ((-1 : Int32), h)) else (sh_b2 (f_M_poolOf N l1 l2 l3 h) (fun v2 h3 => (some (v2, h3)))))))
theorem x_M_pool (N : Nat) {d : Nat} (hd : 5 ≤ d) (l1 : Int32) (l2 : Int32) (l3 : Int32) (h : sh_H) {Q : ai_Q} {R : Int32 × sh_H → Prop} (H : sh_ok (f_M_pool N l1 l2 l3 h) R) (hR : ∀ r h, R (r, h) → Q (some (aI r)) (sh_E h)) : ai_Ex sh_T d 313 [aR 12 0, aI l1, aI l2, aI l3] (sh_E h) Q := by
  obtain ⟨d, rfl⟩ : ∃ e, d = e + 1 := ⟨d - 1, by omega⟩
  replace hd : 4 ≤ d := by omega
  refine And.intro (Nat.le_of_ble_eq_true rfl) ?_
  show wq_313 d Q 0 [oR 12 0, oI l1, oI l2, oI l3] [] (sh_E h)
  refine ai_WP_steps mc_313 (sh_CM d) 5 (And.intro (Nat.le_of_ble_eq_true rfl) (x_M_isPool (Nat.le_trans (Nat.le_of_ble_eq_true rfl) hd) l1 l2 l3 h (sh_okB H) (fun v1 H => ?_)))
  show wq_313 d Q 7 [oR 12 0, oI l1, oI l2, oI l3] [aI v1] (sh_E h)
  refine ai_WP_steps mc_313 (sh_CM d) 1 (And.intro (fun c => ?_) (fun c => ?_))
  · replace H := sh_okT c H
    show wq_313 d Q 20 [oR 12 0, oI l1, oI l2, oI l3] [] (sh_E h)
    exact ai_WP_steps mc_313 (sh_CM d) 2 (hR (-1 : Int32) h H)
  · replace H := sh_okF c H
    show wq_313 d Q 10 [oR 12 0, oI l1, oI l2, oI l3] [] (sh_E h)
    refine ai_WP_steps mc_313 (sh_CM d) 5 (And.intro (Nat.le_of_ble_eq_true rfl) (x_M_poolOf N (Nat.le_trans (Nat.le_of_ble_eq_true rfl) hd) l1 l2 l3 h (sh_okB H) (fun v2 h3 H => ?_)))
    show wq_313 d Q 17 [oR 12 0, oI l1, oI l2, oI l3] [aI v2] (sh_E h3)
    exact ai_WP_steps mc_313 (sh_CM d) 2 (hR v2 h3 H)
def f_M_saved (N : Nat)  (l1 : Int32) (l2 : Int32) (l3 : Int32) (h : sh_H) : Option (Int32 × sh_H) := (Option.bind (f_M_isPool l1 l2 l3 h) (fun v1 => (if v1 = 0 then (some ((-1 : Int32), h)) else (sh_b2 (f_M_savedOf N l1 l2 l3 h) (fun v2 h3 => (some (v2, h3)))))))
theorem x_M_saved (N : Nat) {d : Nat} (hd : 6 ≤ d) (l1 : Int32) (l2 : Int32) (l3 : Int32) (h : sh_H) {Q : ai_Q} {R : Int32 × sh_H → Prop} (H : sh_ok (f_M_saved N l1 l2 l3 h) R) (hR : ∀ r h, R (r, h) → Q (some (aI r)) (sh_E h)) : ai_Ex sh_T d 314 [aR 12 0, aI l1, aI l2, aI l3] (sh_E h) Q := by
  obtain ⟨d, rfl⟩ : ∃ e, d = e + 1 := ⟨d - 1, by omega⟩
  replace hd : 5 ≤ d := by omega
  refine And.intro (Nat.le_of_ble_eq_true rfl) ?_
  show wq_314 d Q 0 [oR 12 0, oI l1, oI l2, oI l3] [] (sh_E h)
  refine ai_WP_steps mc_314 (sh_CM d) 5 (And.intro (Nat.le_of_ble_eq_true rfl) (x_M_isPool (Nat.le_trans (Nat.le_of_ble_eq_true rfl) hd) l1 l2 l3 h (sh_okB H) (fun v1 H => ?_)))
  show wq_314 d Q 7 [oR 12 0, oI l1, oI l2, oI l3] [aI v1] (sh_E h)
  refine ai_WP_steps mc_314 (sh_CM d) 1 (And.intro (fun c => ?_) (fun c => ?_))
  · replace H := sh_okT c H
    show wq_314 d Q 20 [oR 12 0, oI l1, oI l2, oI l3] [] (sh_E h)
    exact ai_WP_steps mc_314 (sh_CM d) 2 (hR (-1 : Int32) h H)
  · replace H := sh_okF c H
    show wq_314 d Q 10 [oR 12 0, oI l1, oI l2, oI l3] [] (sh_E h)
    refine ai_WP_steps mc_314 (sh_CM d) 5 (And.intro (Nat.le_of_ble_eq_true rfl) (x_M_savedOf N (Nat.le_trans (Nat.le_of_ble_eq_true rfl) hd) l1 l2 l3 h (sh_okB H) (fun v2 h3 H => ?_)))
    show wq_314 d Q 17 [oR 12 0, oI l1, oI l2, oI l3] [aI v2] (sh_E h3)
    exact ai_WP_steps mc_314 (sh_CM d) 2 (hR v2 h3 H)
def f_M_holds_b137 (N : Nat)  (k70 : Int32 → Int32 → Int32 → Int32 → Int32 → Int32 → Int32 → Int64 → Int32 → sh_H → Option (Int32 × sh_H)) (l1 : Int32) (l2 : Int32) (l3 : Int32) (l4 : Int32) (l5 : Int32) (l6 : Int32) (l7 : Int32) (l10 : Int32) (s0 : Int64) (s1 : Int64) (h : sh_H) : Option (Int32 × sh_H) := (sh_b2 (f_M_savedOf N l1 l2 l10 h) (fun v1 h2 => (if 0 < (lg_cmp v1.toInt64 (s0 + s1)) then (some (l10, h2)) else k70 l1 l2 l3 l4 l5 l6 l7 (s0 + s1) (l10 + (1 : Int32)) h2)))
theorem x_M_holds_b137 (N : Nat) {d : Nat} (hd : 5 ≤ d) {Q : ai_Q} {R : Int32 × sh_H → Prop} (hR : ∀ r h, R (r, h) → Q (some (aI r)) (sh_E h))  (k70 : Int32 → Int32 → Int32 → Int32 → Int32 → Int32 → Int32 → Int64 → Int32 → sh_H → Option (Int32 × sh_H)) (hk70 : ∀ (l1 : Int32) (l2 : Int32) (l3 : Int32) (l4 : Int32) (l5 : Int32) (l6 : Int32) (l7 : Int32) (l8 : Int64) (l10 : Int32) {d9 d11 d12 : Option ai_V} (h : sh_H), sh_ok (k70 l1 l2 l3 l4 l5 l6 l7 l8 l10 h) R → wq_315 d Q 70 [oR 12 0, oI l1, oI l2, oI l3, oI l4, oI l5, oI l6, oI l7, oL l8, d9, oI l10, d11, d12] [] (sh_E h)) (l1 : Int32) (l2 : Int32) (l3 : Int32) (l4 : Int32) (l5 : Int32) (l6 : Int32) (l7 : Int32) (l10 : Int32) (s0 : Int64) (s1 : Int64) {d8 d9 d11 d12 : Option ai_V} (h : sh_H) (H : sh_ok (f_M_holds_b137 N k70 l1 l2 l3 l4 l5 l6 l7 l10 s0 s1 h) R) : wq_315 d Q 137 [oR 12 0, oI l1, oI l2, oI l3, oI l4, oI l5, oI l6, oI l7, d8, d9, oI l10, d11, d12] [aL s1, aL s0] (sh_E h) := by
  refine ai_WP_steps mc_315 (sh_CM d) 7 (And.intro (Nat.le_of_ble_eq_true rfl) (x_M_savedOf N (Nat.le_trans (Nat.le_of_ble_eq_true rfl) hd) l1 l2 l10 h (sh_okB H) (fun v1 h2 H => ?_)))
  show wq_315 d Q 148 [oR 12 0, oI l1, oI l2, oI l3, oI l4, oI l5, oI l6, oI l7, _, _, oI l10, oL (s0 + s1), _] [aI v1] (sh_E h2)
  refine ai_WP_steps mc_315 (sh_CM d) 4 (And.intro (fun c => ?_) (fun c => ?_))
  · replace H := sh_okT c H
    show wq_315 d Q 155 [oR 12 0, oI l1, oI l2, oI l3, oI l4, oI l5, oI l6, oI l7, _, _, oI l10, oL (s0 + s1), _] [] (sh_E h2)
    exact ai_WP_steps mc_315 (sh_CM d) 2 (hR l10 h2 H)
  · replace H := sh_okF c H
    show wq_315 d Q 158 [oR 12 0, oI l1, oI l2, oI l3, oI l4, oI l5, oI l6, oI l7, _, _, oI l10, oL (s0 + s1), _] [] (sh_E h2)
    refine ai_WP_steps mc_315 (sh_CM d) 4 ?_
    exact hk70 l1 l2 l3 l4 l5 l6 l7 (s0 + s1) (l10 + (1 : Int32)) h2 H
def f_M_holds_b121 (N : Nat)  (k70 : Int32 → Int32 → Int32 → Int32 → Int32 → Int32 → Int32 → Int64 → Int32 → sh_H → Option (Int32 × sh_H)) (l1 : Int32) (l2 : Int32) (l3 : Int32) (l4 : Int32) (l5 : Int32) (l6 : Int32) (l7 : Int32) (l10 : Int32) (s0 : Int64) (s1 : Int64) (h : sh_H) : Option (Int32 × sh_H) := (if (l10 &&& (8 : Int32)) = 0 then f_M_holds_b137 N k70 l1 l2 l3 l4 l5 l6 l7 l10 (s0 + s1) (0 : Int64) h else f_M_holds_b137 N k70 l1 l2 l3 l4 l5 l6 l7 l10 (s0 + s1) l6.toInt64 h)
theorem x_M_holds_b121 (N : Nat) {d : Nat} (hd : 5 ≤ d) {Q : ai_Q} {R : Int32 × sh_H → Prop} (hR : ∀ r h, R (r, h) → Q (some (aI r)) (sh_E h))  (k70 : Int32 → Int32 → Int32 → Int32 → Int32 → Int32 → Int32 → Int64 → Int32 → sh_H → Option (Int32 × sh_H)) (hk70 : ∀ (l1 : Int32) (l2 : Int32) (l3 : Int32) (l4 : Int32) (l5 : Int32) (l6 : Int32) (l7 : Int32) (l8 : Int64) (l10 : Int32) {d9 d11 d12 : Option ai_V} (h : sh_H), sh_ok (k70 l1 l2 l3 l4 l5 l6 l7 l8 l10 h) R → wq_315 d Q 70 [oR 12 0, oI l1, oI l2, oI l3, oI l4, oI l5, oI l6, oI l7, oL l8, d9, oI l10, d11, d12] [] (sh_E h)) (l1 : Int32) (l2 : Int32) (l3 : Int32) (l4 : Int32) (l5 : Int32) (l6 : Int32) (l7 : Int32) (l10 : Int32) (s0 : Int64) (s1 : Int64) {d8 d9 d11 d12 : Option ai_V} (h : sh_H) (H : sh_ok (f_M_holds_b121 N k70 l1 l2 l3 l4 l5 l6 l7 l10 s0 s1 h) R) : wq_315 d Q 121 [oR 12 0, oI l1, oI l2, oI l3, oI l4, oI l5, oI l6, oI l7, d8, d9, oI l10, d11, d12] [aL s1, aL s0] (sh_E h) := by
  refine ai_WP_steps mc_315 (sh_CM d) 5 (And.intro (fun c => ?_) (fun c => ?_))
  · replace H := sh_okT c H
    show wq_315 d Q 136 [oR 12 0, oI l1, oI l2, oI l3, oI l4, oI l5, oI l6, oI l7, _, _, oI l10, _, _] [aL (s0 + s1)] (sh_E h)
    refine ai_WP_steps mc_315 (sh_CM d) 1 ?_
    exact x_M_holds_b137 N hd hR k70 hk70 l1 l2 l3 l4 l5 l6 l7 l10 (s0 + s1) (0 : Int64) h H
  · replace H := sh_okF c H
    show wq_315 d Q 130 [oR 12 0, oI l1, oI l2, oI l3, oI l4, oI l5, oI l6, oI l7, _, _, oI l10, _, _] [aL (s0 + s1)] (sh_E h)
    refine ai_WP_steps mc_315 (sh_CM d) 3 ?_
    exact x_M_holds_b137 N hd hR k70 hk70 l1 l2 l3 l4 l5 l6 l7 l10 (s0 + s1) l6.toInt64 h H
def f_M_holds_b106 (N : Nat)  (k70 : Int32 → Int32 → Int32 → Int32 → Int32 → Int32 → Int32 → Int64 → Int32 → sh_H → Option (Int32 × sh_H)) (l1 : Int32) (l2 : Int32) (l3 : Int32) (l4 : Int32) (l5 : Int32) (l6 : Int32) (l7 : Int32) (l10 : Int32) (s0 : Int64) (s1 : Int64) (h : sh_H) : Option (Int32 × sh_H) := (if (l10 &&& (4 : Int32)) = 0 then f_M_holds_b121 N k70 l1 l2 l3 l4 l5 l6 l7 l10 (s0 + s1) (0 : Int64) h else f_M_holds_b121 N k70 l1 l2 l3 l4 l5 l6 l7 l10 (s0 + s1) l5.toInt64 h)
theorem x_M_holds_b106 (N : Nat) {d : Nat} (hd : 5 ≤ d) {Q : ai_Q} {R : Int32 × sh_H → Prop} (hR : ∀ r h, R (r, h) → Q (some (aI r)) (sh_E h))  (k70 : Int32 → Int32 → Int32 → Int32 → Int32 → Int32 → Int32 → Int64 → Int32 → sh_H → Option (Int32 × sh_H)) (hk70 : ∀ (l1 : Int32) (l2 : Int32) (l3 : Int32) (l4 : Int32) (l5 : Int32) (l6 : Int32) (l7 : Int32) (l8 : Int64) (l10 : Int32) {d9 d11 d12 : Option ai_V} (h : sh_H), sh_ok (k70 l1 l2 l3 l4 l5 l6 l7 l8 l10 h) R → wq_315 d Q 70 [oR 12 0, oI l1, oI l2, oI l3, oI l4, oI l5, oI l6, oI l7, oL l8, d9, oI l10, d11, d12] [] (sh_E h)) (l1 : Int32) (l2 : Int32) (l3 : Int32) (l4 : Int32) (l5 : Int32) (l6 : Int32) (l7 : Int32) (l10 : Int32) (s0 : Int64) (s1 : Int64) {d8 d9 d11 d12 : Option ai_V} (h : sh_H) (H : sh_ok (f_M_holds_b106 N k70 l1 l2 l3 l4 l5 l6 l7 l10 s0 s1 h) R) : wq_315 d Q 106 [oR 12 0, oI l1, oI l2, oI l3, oI l4, oI l5, oI l6, oI l7, d8, d9, oI l10, d11, d12] [aL s1, aL s0] (sh_E h) := by
  refine ai_WP_steps mc_315 (sh_CM d) 5 (And.intro (fun c => ?_) (fun c => ?_))
  · replace H := sh_okT c H
    show wq_315 d Q 120 [oR 12 0, oI l1, oI l2, oI l3, oI l4, oI l5, oI l6, oI l7, _, _, oI l10, _, _] [aL (s0 + s1)] (sh_E h)
    refine ai_WP_steps mc_315 (sh_CM d) 1 ?_
    exact x_M_holds_b121 N hd hR k70 hk70 l1 l2 l3 l4 l5 l6 l7 l10 (s0 + s1) (0 : Int64) h H
  · replace H := sh_okF c H
    show wq_315 d Q 114 [oR 12 0, oI l1, oI l2, oI l3, oI l4, oI l5, oI l6, oI l7, _, _, oI l10, _, _] [aL (s0 + s1)] (sh_E h)
    refine ai_WP_steps mc_315 (sh_CM d) 3 ?_
    exact x_M_holds_b121 N hd hR k70 hk70 l1 l2 l3 l4 l5 l6 l7 l10 (s0 + s1) l5.toInt64 h H
def f_M_holds_b92 (N : Nat)  (k70 : Int32 → Int32 → Int32 → Int32 → Int32 → Int32 → Int32 → Int64 → Int32 → sh_H → Option (Int32 × sh_H)) (l1 : Int32) (l2 : Int32) (l3 : Int32) (l4 : Int32) (l5 : Int32) (l6 : Int32) (l7 : Int32) (l10 : Int32) (s0 : Int64) (h : sh_H) : Option (Int32 × sh_H) := (if (l10 &&& (2 : Int32)) = 0 then f_M_holds_b106 N k70 l1 l2 l3 l4 l5 l6 l7 l10 s0 (0 : Int64) h else f_M_holds_b106 N k70 l1 l2 l3 l4 l5 l6 l7 l10 s0 l4.toInt64 h)
theorem x_M_holds_b92 (N : Nat) {d : Nat} (hd : 5 ≤ d) {Q : ai_Q} {R : Int32 × sh_H → Prop} (hR : ∀ r h, R (r, h) → Q (some (aI r)) (sh_E h))  (k70 : Int32 → Int32 → Int32 → Int32 → Int32 → Int32 → Int32 → Int64 → Int32 → sh_H → Option (Int32 × sh_H)) (hk70 : ∀ (l1 : Int32) (l2 : Int32) (l3 : Int32) (l4 : Int32) (l5 : Int32) (l6 : Int32) (l7 : Int32) (l8 : Int64) (l10 : Int32) {d9 d11 d12 : Option ai_V} (h : sh_H), sh_ok (k70 l1 l2 l3 l4 l5 l6 l7 l8 l10 h) R → wq_315 d Q 70 [oR 12 0, oI l1, oI l2, oI l3, oI l4, oI l5, oI l6, oI l7, oL l8, d9, oI l10, d11, d12] [] (sh_E h)) (l1 : Int32) (l2 : Int32) (l3 : Int32) (l4 : Int32) (l5 : Int32) (l6 : Int32) (l7 : Int32) (l10 : Int32) (s0 : Int64) {d8 d9 d11 d12 : Option ai_V} (h : sh_H) (H : sh_ok (f_M_holds_b92 N k70 l1 l2 l3 l4 l5 l6 l7 l10 s0 h) R) : wq_315 d Q 92 [oR 12 0, oI l1, oI l2, oI l3, oI l4, oI l5, oI l6, oI l7, d8, d9, oI l10, d11, d12] [aL s0] (sh_E h) := by
  refine ai_WP_steps mc_315 (sh_CM d) 4 (And.intro (fun c => ?_) (fun c => ?_))
  · replace H := sh_okT c H
    show wq_315 d Q 105 [oR 12 0, oI l1, oI l2, oI l3, oI l4, oI l5, oI l6, oI l7, _, _, oI l10, _, _] [aL s0] (sh_E h)
    refine ai_WP_steps mc_315 (sh_CM d) 1 ?_
    exact x_M_holds_b106 N hd hR k70 hk70 l1 l2 l3 l4 l5 l6 l7 l10 s0 (0 : Int64) h H
  · replace H := sh_okF c H
    show wq_315 d Q 99 [oR 12 0, oI l1, oI l2, oI l3, oI l4, oI l5, oI l6, oI l7, _, _, oI l10, _, _] [aL s0] (sh_E h)
    refine ai_WP_steps mc_315 (sh_CM d) 3 ?_
    exact x_M_holds_b106 N hd hR k70 hk70 l1 l2 l3 l4 l5 l6 l7 l10 s0 l4.toInt64 h H
def f_M_holds_c70 (N : Nat)  (k168 : Int32 → Int32 → Int32 → Int64 → sh_H → Option (Int32 × sh_H)) (k70 : Int32 → Int32 → Int32 → Int32 → Int32 → Int32 → Int32 → Int64 → Int32 → sh_H → Option (Int32 × sh_H)) (l1 : Int32) (l2 : Int32) (l3 : Int32) (l4 : Int32) (l5 : Int32) (l6 : Int32) (l7 : Int32) (l8 : Int64) (l10 : Int32) (h : sh_H) : Option (Int32 × sh_H) := (if l10 < ((1 : Int32) <<< (l7 &&& 31)) then (if (l10 &&& (1 : Int32)) = 0 then f_M_holds_b92 N k70 l1 l2 l3 l4 l5 l6 l7 l10 (0 : Int64) h else f_M_holds_b92 N k70 l1 l2 l3 l4 l5 l6 l7 l10 l3.toInt64 h) else k168 l1 l2 l7 l8 h)
def f_M_holds_l70 (N : Nat)  (k168 : Int32 → Int32 → Int32 → Int64 → sh_H → Option (Int32 × sh_H)) (n : Nat) : Int32 → Int32 → Int32 → Int32 → Int32 → Int32 → Int32 → Int64 → Int32 → sh_H → Option (Int32 × sh_H) := Nat.rec (motive := fun _ => Int32 → Int32 → Int32 → Int32 → Int32 → Int32 → Int32 → Int64 → Int32 → sh_H → Option (Int32 × sh_H)) (fun _ _ _ _ _ _ _ _ _ _ => none) (fun _ k70 => f_M_holds_c70 N k168 k70) n
theorem x_M_holds_l70 (N : Nat) {d : Nat} (hd : 5 ≤ d) {Q : ai_Q} {R : Int32 × sh_H → Prop} (hR : ∀ r h, R (r, h) → Q (some (aI r)) (sh_E h))  (k168 : Int32 → Int32 → Int32 → Int64 → sh_H → Option (Int32 × sh_H)) (hk168 : ∀ (l1 : Int32) (l2 : Int32) (l7 : Int32) (l8 : Int64) {d3 d4 d5 d6 d9 d10 d11 d12 : Option ai_V} (h : sh_H), sh_ok (k168 l1 l2 l7 l8 h) R → wq_315 d Q 168 [oR 12 0, oI l1, oI l2, d3, d4, d5, d6, oI l7, oL l8, d9, d10, d11, d12] [] (sh_E h)) (n : Nat) : ∀ (l1 : Int32) (l2 : Int32) (l3 : Int32) (l4 : Int32) (l5 : Int32) (l6 : Int32) (l7 : Int32) (l8 : Int64) (l10 : Int32) {d9 d11 d12 : Option ai_V} (h : sh_H), sh_ok (f_M_holds_l70 N k168 n l1 l2 l3 l4 l5 l6 l7 l8 l10 h) R → wq_315 d Q 70 [oR 12 0, oI l1, oI l2, oI l3, oI l4, oI l5, oI l6, oI l7, oL l8, d9, oI l10, d11, d12] [] (sh_E h) := by
  induction n with
  | zero => intro l1 l2 l3 l4 l5 l6 l7 l8 l10 d9 d11 d12 h H; exact H.elim
  | succ n ih =>
    intro l1 l2 l3 l4 l5 l6 l7 l8 l10 d9 d11 d12 h H
    have hk70 := @ih
    replace H : sh_ok (f_M_holds_c70 N k168 (f_M_holds_l70 N k168 n) l1 l2 l3 l4 l5 l6 l7 l8 l10 h) R := H
    revert hk70 H
    generalize f_M_holds_l70 N k168 n = k70
    intro hk70 H
    refine ai_WP_steps mc_315 (sh_CM d) 5 (And.intro (fun c => ?_) (fun c => ?_))
    · replace H := sh_okT c H
      show wq_315 d Q 79 [oR 12 0, oI l1, oI l2, oI l3, oI l4, oI l5, oI l6, oI l7, oL l8, _, oI l10, _, _] [] (sh_E h)
      refine ai_WP_steps mc_315 (sh_CM d) 4 (And.intro (fun c => ?_) (fun c => ?_))
      · replace H := sh_okT c H
        show wq_315 d Q 91 [oR 12 0, oI l1, oI l2, oI l3, oI l4, oI l5, oI l6, oI l7, oL l8, _, oI l10, _, _] [] (sh_E h)
        refine ai_WP_steps mc_315 (sh_CM d) 1 ?_
        exact x_M_holds_b92 N hd hR k70 hk70 l1 l2 l3 l4 l5 l6 l7 l10 (0 : Int64) h H
      · replace H := sh_okF c H
        show wq_315 d Q 86 [oR 12 0, oI l1, oI l2, oI l3, oI l4, oI l5, oI l6, oI l7, oL l8, _, oI l10, _, _] [] (sh_E h)
        refine ai_WP_steps mc_315 (sh_CM d) 3 ?_
        exact x_M_holds_b92 N hd hR k70 hk70 l1 l2 l3 l4 l5 l6 l7 l10 l3.toInt64 h H
    · replace H := sh_okF c H
      exact hk168 l1 l2 l7 l8 h H
def f_M_holds_b168 (N : Nat)   (l1 : Int32) (l2 : Int32) (l7 : Int32) (l8 : Int64) (h : sh_H) : Option (Int32 × sh_H) := (sh_b2 (f_M_savedOf N l1 l2 (((1 : Int32) <<< (l7 &&& 31)) - (1 : Int32)) h) (fun v3 h4 => (if (lg_cmp v3.toInt64 l8) = 0 then (some ((0 : Int32), h4)) else (some ((16 : Int32), h4)))))
theorem x_M_holds_b168 (N : Nat) {d : Nat} (hd : 5 ≤ d) {Q : ai_Q} {R : Int32 × sh_H → Prop} (hR : ∀ r h, R (r, h) → Q (some (aI r)) (sh_E h))   (l1 : Int32) (l2 : Int32) (l7 : Int32) (l8 : Int64) {d3 d4 d5 d6 d9 d10 d11 d12 : Option ai_V} (h : sh_H) (H : sh_ok (f_M_holds_b168 N l1 l2 l7 l8 h) R) : wq_315 d Q 168 [oR 12 0, oI l1, oI l2, d3, d4, d5, d6, oI l7, oL l8, d9, d10, d11, d12] [] (sh_E h) := by
  refine ai_WP_steps mc_315 (sh_CM d) 9 (And.intro (Nat.le_of_ble_eq_true rfl) (x_M_savedOf N (Nat.le_trans (Nat.le_of_ble_eq_true rfl) hd) l1 l2 (((1 : Int32) <<< (l7 &&& 31)) - (1 : Int32)) h (sh_okB H) (fun v3 h4 H => ?_)))
  show wq_315 d Q 180 [oR 12 0, oI l1, oI l2, _, _, _, _, oI l7, oL l8, _, _, _, _] [aI v3] (sh_E h4)
  refine ai_WP_steps mc_315 (sh_CM d) 4 (And.intro (fun c => ?_) (fun c => ?_))
  · replace H := sh_okT c H
    show wq_315 d Q 187 [oR 12 0, oI l1, oI l2, _, _, _, _, oI l7, oL l8, _, _, _, _] [] (sh_E h4)
    exact ai_WP_steps mc_315 (sh_CM d) 3 (hR (0 : Int32) h4 H)
  · replace H := sh_okF c H
    show wq_315 d Q 191 [oR 12 0, oI l1, oI l2, _, _, _, _, oI l7, oL l8, _, _, _, _] [] (sh_E h4)
    exact ai_WP_steps mc_315 (sh_CM d) 2 (hR (16 : Int32) h4 H)
def f_M_holds_b64 (N : Nat)   (l1 : Int32) (l2 : Int32) (l3 : Int32) (l4 : Int32) (l5 : Int32) (l6 : Int32) (l7 : Int32) (h : sh_H) : Option (Int32 × sh_H) := f_M_holds_l70 N (f_M_holds_b168 N) N l1 l2 l3 l4 l5 l6 l7 (0 : Int64) (1 : Int32) h
theorem x_M_holds_b64 (N : Nat) {d : Nat} (hd : 5 ≤ d) {Q : ai_Q} {R : Int32 × sh_H → Prop} (hR : ∀ r h, R (r, h) → Q (some (aI r)) (sh_E h))   (l1 : Int32) (l2 : Int32) (l3 : Int32) (l4 : Int32) (l5 : Int32) (l6 : Int32) (l7 : Int32) {d8 d9 d10 d11 d12 : Option ai_V} (h : sh_H) (H : sh_ok (f_M_holds_b64 N l1 l2 l3 l4 l5 l6 l7 h) R) : wq_315 d Q 64 [oR 12 0, oI l1, oI l2, oI l3, oI l4, oI l5, oI l6, oI l7, d8, d9, d10, d11, d12] [] (sh_E h) := by
  refine ai_WP_steps mc_315 (sh_CM d) 4 ?_
  exact x_M_holds_l70 N hd hR (f_M_holds_b168 N) (fun z0 z1 z2 z3 {e3} {e4} {e5} {e6} {e9} {e10} {e11} {e12} h H => x_M_holds_b168 N hd hR z0 z1 z2 z3 h H) N l1 l2 l3 l4 l5 l6 l7 (0 : Int64) (1 : Int32) h H
def f_M_holds_b51 (N : Nat)   (l1 : Int32) (l2 : Int32) (l3 : Int32) (l4 : Int32) (l5 : Int32) (l6 : Int32) (l7 : Int32) (h : sh_H) : Option (Int32 × sh_H) := (if (3 : Int32) < l7 then (if l6 < 0 then (some ((-1 : Int32), h)) else f_M_holds_b64 N l1 l2 l3 l4 l5 l6 l7 h) else f_M_holds_b64 N l1 l2 l3 l4 l5 l6 l7 h)
theorem x_M_holds_b51 (N : Nat) {d : Nat} (hd : 5 ≤ d) {Q : ai_Q} {R : Int32 × sh_H → Prop} (hR : ∀ r h, R (r, h) → Q (some (aI r)) (sh_E h))   (l1 : Int32) (l2 : Int32) (l3 : Int32) (l4 : Int32) (l5 : Int32) (l6 : Int32) (l7 : Int32) {d8 d9 d10 d11 d12 : Option ai_V} (h : sh_H) (H : sh_ok (f_M_holds_b51 N l1 l2 l3 l4 l5 l6 l7 h) R) : wq_315 d Q 51 [oR 12 0, oI l1, oI l2, oI l3, oI l4, oI l5, oI l6, oI l7, d8, d9, d10, d11, d12] [] (sh_E h) := by
  refine ai_WP_steps mc_315 (sh_CM d) 3 (And.intro (fun c => ?_) (fun c => ?_))
  · replace H := sh_okT c H
    show wq_315 d Q 57 [oR 12 0, oI l1, oI l2, oI l3, oI l4, oI l5, oI l6, oI l7, _, _, _, _, _] [] (sh_E h)
    refine ai_WP_steps mc_315 (sh_CM d) 2 (And.intro (fun c => ?_) (fun c => ?_))
    · replace H := sh_okT c H
      show wq_315 d Q 62 [oR 12 0, oI l1, oI l2, oI l3, oI l4, oI l5, oI l6, oI l7, _, _, _, _, _] [] (sh_E h)
      exact ai_WP_steps mc_315 (sh_CM d) 2 (hR (-1 : Int32) h H)
    · replace H := sh_okF c H
      exact x_M_holds_b64 N hd hR l1 l2 l3 l4 l5 l6 l7 h H
  · replace H := sh_okF c H
    exact x_M_holds_b64 N hd hR l1 l2 l3 l4 l5 l6 l7 h H
def f_M_holds_b40 (N : Nat)   (l1 : Int32) (l2 : Int32) (l3 : Int32) (l4 : Int32) (l5 : Int32) (l6 : Int32) (l7 : Int32) (h : sh_H) : Option (Int32 × sh_H) := (if (2 : Int32) < l7 then (if l5 < 0 then (some ((-1 : Int32), h)) else f_M_holds_b51 N l1 l2 l3 l4 l5 l6 l7 h) else f_M_holds_b51 N l1 l2 l3 l4 l5 l6 l7 h)
theorem x_M_holds_b40 (N : Nat) {d : Nat} (hd : 5 ≤ d) {Q : ai_Q} {R : Int32 × sh_H → Prop} (hR : ∀ r h, R (r, h) → Q (some (aI r)) (sh_E h))   (l1 : Int32) (l2 : Int32) (l3 : Int32) (l4 : Int32) (l5 : Int32) (l6 : Int32) (l7 : Int32) {d8 d9 d10 d11 d12 : Option ai_V} (h : sh_H) (H : sh_ok (f_M_holds_b40 N l1 l2 l3 l4 l5 l6 l7 h) R) : wq_315 d Q 40 [oR 12 0, oI l1, oI l2, oI l3, oI l4, oI l5, oI l6, oI l7, d8, d9, d10, d11, d12] [] (sh_E h) := by
  refine ai_WP_steps mc_315 (sh_CM d) 3 (And.intro (fun c => ?_) (fun c => ?_))
  · replace H := sh_okT c H
    show wq_315 d Q 46 [oR 12 0, oI l1, oI l2, oI l3, oI l4, oI l5, oI l6, oI l7, _, _, _, _, _] [] (sh_E h)
    refine ai_WP_steps mc_315 (sh_CM d) 2 (And.intro (fun c => ?_) (fun c => ?_))
    · replace H := sh_okT c H
      show wq_315 d Q 62 [oR 12 0, oI l1, oI l2, oI l3, oI l4, oI l5, oI l6, oI l7, _, _, _, _, _] [] (sh_E h)
      exact ai_WP_steps mc_315 (sh_CM d) 2 (hR (-1 : Int32) h H)
    · replace H := sh_okF c H
      exact x_M_holds_b51 N hd hR l1 l2 l3 l4 l5 l6 l7 h H
  · replace H := sh_okF c H
    exact x_M_holds_b51 N hd hR l1 l2 l3 l4 l5 l6 l7 h H
def f_M_holds_b29 (N : Nat)   (l1 : Int32) (l2 : Int32) (l3 : Int32) (l4 : Int32) (l5 : Int32) (l6 : Int32) (l7 : Int32) (h : sh_H) : Option (Int32 × sh_H) := (if (1 : Int32) < l7 then (if l4 < 0 then (some ((-1 : Int32), h)) else f_M_holds_b40 N l1 l2 l3 l4 l5 l6 l7 h) else f_M_holds_b40 N l1 l2 l3 l4 l5 l6 l7 h)
theorem x_M_holds_b29 (N : Nat) {d : Nat} (hd : 5 ≤ d) {Q : ai_Q} {R : Int32 × sh_H → Prop} (hR : ∀ r h, R (r, h) → Q (some (aI r)) (sh_E h))   (l1 : Int32) (l2 : Int32) (l3 : Int32) (l4 : Int32) (l5 : Int32) (l6 : Int32) (l7 : Int32) {d8 d9 d10 d11 d12 : Option ai_V} (h : sh_H) (H : sh_ok (f_M_holds_b29 N l1 l2 l3 l4 l5 l6 l7 h) R) : wq_315 d Q 29 [oR 12 0, oI l1, oI l2, oI l3, oI l4, oI l5, oI l6, oI l7, d8, d9, d10, d11, d12] [] (sh_E h) := by
  refine ai_WP_steps mc_315 (sh_CM d) 3 (And.intro (fun c => ?_) (fun c => ?_))
  · replace H := sh_okT c H
    show wq_315 d Q 35 [oR 12 0, oI l1, oI l2, oI l3, oI l4, oI l5, oI l6, oI l7, _, _, _, _, _] [] (sh_E h)
    refine ai_WP_steps mc_315 (sh_CM d) 2 (And.intro (fun c => ?_) (fun c => ?_))
    · replace H := sh_okT c H
      show wq_315 d Q 62 [oR 12 0, oI l1, oI l2, oI l3, oI l4, oI l5, oI l6, oI l7, _, _, _, _, _] [] (sh_E h)
      exact ai_WP_steps mc_315 (sh_CM d) 2 (hR (-1 : Int32) h H)
    · replace H := sh_okF c H
      exact x_M_holds_b40 N hd hR l1 l2 l3 l4 l5 l6 l7 h H
  · replace H := sh_okF c H
    exact x_M_holds_b40 N hd hR l1 l2 l3 l4 l5 l6 l7 h H
def f_M_holds (N : Nat)  (l1 : Int32) (l2 : Int32) (l3 : Int32) (l4 : Int32) (l5 : Int32) (l6 : Int32) (h : sh_H) : Option (Int32 × sh_H) := (Option.bind (f_M_isPool l1 l2 (0 : Int32) h) (fun v5 => (if v5 = 0 then (some ((-1 : Int32), h)) else (if ai_in (1 : Int32) 8000 then (if 0 < (h.1 13 46 (1 : Int32).toNatClampNeg) then (if l3 < 0 then (some ((-1 : Int32), h)) else f_M_holds_b29 N l1 l2 l3 l4 l5 l6 (h.1 13 46 (1 : Int32).toNatClampNeg) h) else f_M_holds_b29 N l1 l2 l3 l4 l5 l6 (h.1 13 46 (1 : Int32).toNatClampNeg) h) else none))))
theorem x_M_holds (N : Nat) {d : Nat} (hd : 6 ≤ d) (l1 : Int32) (l2 : Int32) (l3 : Int32) (l4 : Int32) (l5 : Int32) (l6 : Int32) (h : sh_H) {Q : ai_Q} {R : Int32 × sh_H → Prop} (H : sh_ok (f_M_holds N l1 l2 l3 l4 l5 l6 h) R) (hR : ∀ r h, R (r, h) → Q (some (aI r)) (sh_E h)) : ai_Ex sh_T d 315 [aR 12 0, aI l1, aI l2, aI l3, aI l4, aI l5, aI l6] (sh_E h) Q := by
  obtain ⟨d, rfl⟩ : ∃ e, d = e + 1 := ⟨d - 1, by omega⟩
  replace hd : 5 ≤ d := by omega
  refine And.intro (Nat.le_of_ble_eq_true rfl) ?_
  show wq_315 d Q 0 [oR 12 0, oI l1, oI l2, oI l3, oI l4, oI l5, oI l6, none, none, none, none, none, none] [] (sh_E h)
  refine ai_WP_steps mc_315 (sh_CM d) 5 (And.intro (Nat.le_of_ble_eq_true rfl) (x_M_isPool (Nat.le_trans (Nat.le_of_ble_eq_true rfl) hd) l1 l2 (0 : Int32) h (sh_okB H) (fun v5 H => ?_)))
  show wq_315 d Q 7 [oR 12 0, oI l1, oI l2, oI l3, oI l4, oI l5, oI l6, _, _, _, _, _, _] [aI v5] (sh_E h)
  refine ai_WP_steps mc_315 (sh_CM d) 1 (And.intro (fun c => ?_) (fun c => ?_))
  · replace H := sh_okT c H
    show wq_315 d Q 10 [oR 12 0, oI l1, oI l2, oI l3, oI l4, oI l5, oI l6, _, _, _, _, _, _] [] (sh_E h)
    exact ai_WP_steps mc_315 (sh_CM d) 2 (hR (-1 : Int32) h H)
  · replace H := sh_okF c H
    show wq_315 d Q 12 [oR 12 0, oI l1, oI l2, oI l3, oI l4, oI l5, oI l6, _, _, _, _, _, _] [] (sh_E h)
    have c := sh_okG H
    replace H := sh_okH H
    refine ai_WP_steps mc_315 (sh_CM d) 4 (And.intro c ?_)
    show wq_315 d Q 18 [oR 12 0, oI l1, oI l2, oI l3, oI l4, oI l5, oI l6, _, _, _, _, _, _] [aI (h.1 13 46 (1 : Int32).toNatClampNeg)] (sh_E h)
    refine ai_WP_steps mc_315 (sh_CM d) 3 (And.intro (fun c => ?_) (fun c => ?_))
    · replace H := sh_okT c H
      show wq_315 d Q 25 [oR 12 0, oI l1, oI l2, oI l3, oI l4, oI l5, oI l6, oI (h.1 13 46 (1 : Int32).toNatClampNeg), _, _, _, _, _] [] (sh_E h)
      refine ai_WP_steps mc_315 (sh_CM d) 2 (And.intro (fun c => ?_) (fun c => ?_))
      · replace H := sh_okT c H
        show wq_315 d Q 62 [oR 12 0, oI l1, oI l2, oI l3, oI l4, oI l5, oI l6, oI (h.1 13 46 (1 : Int32).toNatClampNeg), _, _, _, _, _] [] (sh_E h)
        exact ai_WP_steps mc_315 (sh_CM d) 2 (hR (-1 : Int32) h H)
      · replace H := sh_okF c H
        exact x_M_holds_b29 N hd hR l1 l2 l3 l4 l5 l6 (h.1 13 46 (1 : Int32).toNatClampNeg) h H
    · replace H := sh_okF c H
      exact x_M_holds_b29 N hd hR l1 l2 l3 l4 l5 l6 (h.1 13 46 (1 : Int32).toNatClampNeg) h H
