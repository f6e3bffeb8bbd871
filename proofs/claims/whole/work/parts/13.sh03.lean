/-! shallow functions, written by program -/
def f_Stocks_plan_c3 (N : Nat)  (k45 : Nat → Int32 → Int32 → Int32 → Int32 → Int32 → sh_H → Option sh_H) (k3 : Nat → Int32 → Int32 → Int32 → Int32 → Int32 → Int32 → sh_H → Option sh_H) (l1 : Nat) (l2 : Int32) (l3 : Int32) (l4 : Int32) (l5 : Int32) (l6 : Int32) (l7 : Int32) (h : sh_H) : Option sh_H := (if l7 < (Int32.ofNat 61) then (if l7 < (Int32.ofNat 61) then (if ai_in l7 61 then (sh_let (sh_pJ h 14 3 l7.toNatClampNeg (0 : Int64)) (fun h1 => (if ai_in l7 61 then (sh_let (sh_pI h1 13 37 l7.toNatClampNeg (0 : Int32)) (fun h2 => k3 l1 l2 l3 l4 l5 l6 (l7 + (1 : Int32)) h2)) else none))) else none) else k45 l1 l2 l3 l4 l5 l6 h) else k45 l1 l2 l3 l4 l5 l6 h)
def f_Stocks_plan_l3 (N : Nat)  (k45 : Nat → Int32 → Int32 → Int32 → Int32 → Int32 → sh_H → Option sh_H) (n : Nat) : Nat → Int32 → Int32 → Int32 → Int32 → Int32 → Int32 → sh_H → Option sh_H := Nat.rec (motive := fun _ => Nat → Int32 → Int32 → Int32 → Int32 → Int32 → Int32 → sh_H → Option sh_H) (fun _ _ _ _ _ _ _ _ => none) (fun _ k3 => f_Stocks_plan_c3 N k45 k3) n
theorem x_Stocks_plan_l3 (N : Nat) {d : Nat} (hd : 4 ≤ d) {Q : ai_Q} {R : sh_H → Prop} (hR : ∀ h, R h → Q none (sh_E h))  (k45 : Nat → Int32 → Int32 → Int32 → Int32 → Int32 → sh_H → Option sh_H) (hk45 : ∀ (l1 : Nat) (l2 : Int32) (l3 : Int32) (l4 : Int32) (l5 : Int32) (l6 : Int32) {d7 d8 d9 d10 : Option ai_V} (h : sh_H), sh_ok (k45 l1 l2 l3 l4 l5 l6 h) R → wq_111 d Q 45 [oR 8 0, oR 9 l1, oI l2, oI l3, oI l4, oI l5, oI l6, d7, d8, d9, d10] [] (sh_E h)) (n : Nat) : ∀ (l1 : Nat) (l2 : Int32) (l3 : Int32) (l4 : Int32) (l5 : Int32) (l6 : Int32) (l7 : Int32) {d8 d9 d10 : Option ai_V} (h : sh_H), sh_ok (f_Stocks_plan_l3 N k45 n l1 l2 l3 l4 l5 l6 l7 h) R → wq_111 d Q 3 [oR 8 0, oR 9 l1, oI l2, oI l3, oI l4, oI l5, oI l6, oI l7, d8, d9, d10] [] (sh_E h) := by
  induction n with
  | zero => intro l1 l2 l3 l4 l5 l6 l7 d8 d9 d10 h H; exact H.elim
  | succ n ih =>
    intro l1 l2 l3 l4 l5 l6 l7 d8 d9 d10 h H
    have hk3 := @ih
    replace H : sh_ok (f_Stocks_plan_c3 N k45 (f_Stocks_plan_l3 N k45 n) l1 l2 l3 l4 l5 l6 l7 h) R := H
    revert hk3 H
    generalize f_Stocks_plan_l3 N k45 n = k3
    intro hk3 H
    refine ai_WP_steps mc_111 (sh_CM d) 5 (And.intro (fun c => ?_) (fun c => ?_))
    · replace H := sh_okT c H
      show wq_111 d Q 13 [oR 8 0, oR 9 l1, oI l2, oI l3, oI l4, oI l5, oI l6, oI l7, _, _, _] [] (sh_E h)
      refine ai_WP_steps mc_111 (sh_CM d) 5 (And.intro (fun c => ?_) (fun c => ?_))
      · replace H := sh_okT c H
        show wq_111 d Q 23 [oR 8 0, oR 9 l1, oI l2, oI l3, oI l4, oI l5, oI l6, oI l7, _, _, _] [] (sh_E h)
        have c := sh_okG H
        replace H := sh_okH H
        refine ai_WP_steps mc_111 (sh_CM d) 5 (And.intro c ?_)
        show wq_111 d Q 31 [oR 8 0, oR 9 l1, oI l2, oI l3, oI l4, oI l5, oI l6, oI l7, _, _, _] [] (sh_E (sh_pJ h 14 3 l7.toNatClampNeg (0 : Int64)))
        replace H := sh_okL H
        generalize sh_pJ h 14 3 l7.toNatClampNeg (0 : Int64) = h1 at H ⊢
        have c := sh_okG H
        replace H := sh_okH H
        refine ai_WP_steps mc_111 (sh_CM d) 5 (And.intro c ?_)
        show wq_111 d Q 39 [oR 8 0, oR 9 l1, oI l2, oI l3, oI l4, oI l5, oI l6, oI l7, _, _, _] [] (sh_E (sh_pI h1 13 37 l7.toNatClampNeg (0 : Int32)))
        replace H := sh_okL H
        generalize sh_pI h1 13 37 l7.toNatClampNeg (0 : Int32) = h2 at H ⊢
        refine ai_WP_steps mc_111 (sh_CM d) 2 ?_
        exact hk3 l1 l2 l3 l4 l5 l6 (l7 + (1 : Int32)) h2 H
      · replace H := sh_okF c H
        exact hk45 l1 l2 l3 l4 l5 l6 h H
    · replace H := sh_okF c H
      exact hk45 l1 l2 l3 l4 l5 l6 h H
def f_Stocks_plan_c54 (N : Nat)   (k54 : Nat → Int32 → Int32 → Int32 → Int32 → Int64 → Int32 → sh_H → Option sh_H) (l1 : Nat) (l2 : Int32) (l3 : Int32) (l4 : Int32) (l6 : Int32) (l7 : Int64) (l9 : Int32) (h : sh_H) : Option sh_H := (if l9 < 0 then (some h) else (if ¬ (12 : Int32) = 0 then (sh_b2 (f_Text_wanted N l1 l2 l3 ((l4 + l9) - (l4 + l9) / (12 : Int32) * (12 : Int32)) h) (fun v3 h4 => (Option.bind (f_Text_harmOf l1 l2 h4) (fun v5 => (Option.bind (f_Stocks_takeWanted N v3 l6 v5 l7 h4) (fun h6 => (Option.bind (f_Stocks_chooseOrders N l1 l2 l3 ((l4 + l9) - (l4 + l9) / (12 : Int32) * (12 : Int32)) (l7 * (l6 + (1 : Int32)).toInt64) h6) (fun h7 => k54 l1 l2 l3 l4 l6 (l7 * (l6 + (1 : Int32)).toInt64) (l9 + (-1 : Int32)) h7)))))))) else none))
def f_Stocks_plan_l54 (N : Nat)   (n : Nat) : Nat → Int32 → Int32 → Int32 → Int32 → Int64 → Int32 → sh_H → Option sh_H := Nat.rec (motive := fun _ => Nat → Int32 → Int32 → Int32 → Int32 → Int64 → Int32 → sh_H → Option sh_H) (fun _ _ _ _ _ _ _ _ => none) (fun _ k54 => f_Stocks_plan_c54 N k54) n
theorem x_Stocks_plan_l54 (N : Nat) {d : Nat} (hd : 4 ≤ d) {Q : ai_Q} {R : sh_H → Prop} (hR : ∀ h, R h → Q none (sh_E h))   (n : Nat) : ∀ (l1 : Nat) (l2 : Int32) (l3 : Int32) (l4 : Int32) (l6 : Int32) (l7 : Int64) (l9 : Int32) {d5 d8 d10 : Option ai_V} (h : sh_H), sh_ok (f_Stocks_plan_l54 N n l1 l2 l3 l4 l6 l7 l9 h) R → wq_111 d Q 54 [oR 8 0, oR 9 l1, oI l2, oI l3, oI l4, d5, oI l6, oL l7, d8, oI l9, d10] [] (sh_E h) := by
  induction n with
  | zero => intro l1 l2 l3 l4 l6 l7 l9 d5 d8 d10 h H; exact H.elim
  | succ n ih =>
    intro l1 l2 l3 l4 l6 l7 l9 d5 d8 d10 h H
    have hk54 := @ih
    replace H : sh_ok (f_Stocks_plan_c54 N (f_Stocks_plan_l54 N n) l1 l2 l3 l4 l6 l7 l9 h) R := H
    revert hk54 H
    generalize f_Stocks_plan_l54 N n = k54
    intro hk54 H
    refine ai_WP_steps mc_111 (sh_CM d) 2 (And.intro (fun c => ?_) (fun c => ?_))
    · replace H := sh_okT c H
      show wq_111 d Q 117 [oR 8 0, oR 9 l1, oI l2, oI l3, oI l4, _, oI l6, oL l7, _, oI l9, _] [] (sh_E h)
      exact ai_WP_steps mc_111 (sh_CM d) 1 (hR h H)
    · replace H := sh_okF c H
      show wq_111 d Q 59 [oR 8 0, oR 9 l1, oI l2, oI l3, oI l4, _, oI l6, oL l7, _, oI l9, _] [] (sh_E h)
      have c := sh_okG H
      replace H := sh_okH H
      refine ai_WP_steps mc_111 (sh_CM d) 5 (And.intro c ?_)
      show wq_111 d Q 67 [oR 8 0, oR 9 l1, oI l2, oI l3, oI l4, _, oI l6, oL l7, _, oI l9, _] [aI ((l4 + l9) - (l4 + l9) / (12 : Int32) * (12 : Int32))] (sh_E h)
      refine ai_WP_steps mc_111 (sh_CM d) 7 (And.intro (Nat.le_of_ble_eq_true rfl) (x_Text_wanted N (Nat.le_trans (Nat.le_of_ble_eq_true rfl) hd) l1 l2 l3 ((l4 + l9) - (l4 + l9) / (12 : Int32) * (12 : Int32)) h (sh_okB H) (fun v3 h4 H => ?_)))
      show wq_111 d Q 78 [oR 8 0, oR 9 l1, oI l2, oI l3, oI l4, _, oI l6, oL l7, _, oI l9, oI ((l4 + l9) - (l4 + l9) / (12 : Int32) * (12 : Int32))] [aI v3, aR 8 0] (sh_E h4)
      refine ai_WP_steps mc_111 (sh_CM d) 4 (And.intro (Nat.le_of_ble_eq_true rfl) (x_Text_harmOf (Nat.le_trans (Nat.le_of_ble_eq_true rfl) hd) l1 l2 h4 (sh_okB H) (fun v5 H => ?_)))
      show wq_111 d Q 85 [oR 8 0, oR 9 l1, oI l2, oI l3, oI l4, _, oI l6, oL l7, _, oI l9, oI ((l4 + l9) - (l4 + l9) / (12 : Int32) * (12 : Int32))] [aI v5, aI l6, aI v3, aR 8 0] (sh_E h4)
      refine ai_WP_steps mc_111 (sh_CM d) 2 (And.intro (Nat.le_of_ble_eq_true rfl) (x_Stocks_takeWanted N (Nat.le_trans (Nat.le_of_ble_eq_true rfl) hd) v3 l6 v5 l7 h4 (sh_okB H) (fun h6 H => ?_)))
      show wq_111 d Q 90 [oR 8 0, oR 9 l1, oI l2, oI l3, oI l4, _, oI l6, oL l7, _, oI l9, oI ((l4 + l9) - (l4 + l9) / (12 : Int32) * (12 : Int32))] [] (sh_E h6)
      refine ai_WP_steps mc_111 (sh_CM d) 14 (And.intro (Nat.le_of_ble_eq_true rfl) (x_Stocks_chooseOrders N (Nat.le_trans (Nat.le_of_ble_eq_true rfl) hd) l1 l2 l3 ((l4 + l9) - (l4 + l9) / (12 : Int32) * (12 : Int32)) (l7 * (l6 + (1 : Int32)).toInt64) h6 (sh_okB H) (fun h7 H => ?_)))
      show wq_111 d Q 111 [oR 8 0, oR 9 l1, oI l2, oI l3, oI l4, _, oI l6, oL (l7 * (l6 + (1 : Int32)).toInt64), _, oI l9, oI ((l4 + l9) - (l4 + l9) / (12 : Int32) * (12 : Int32))] [] (sh_E h7)
      refine ai_WP_steps mc_111 (sh_CM d) 2 ?_
      exact hk54 l1 l2 l3 l4 l6 (l7 * (l6 + (1 : Int32)).toInt64) (l9 + (-1 : Int32)) h7 H
def f_Stocks_plan_b45 (N : Nat)   (l1 : Nat) (l2 : Int32) (l3 : Int32) (l4 : Int32) (l5 : Int32) (l6 : Int32) (h : sh_H) : Option sh_H := f_Stocks_plan_l54 N N l1 l2 l3 l4 l6 (1 : Int64) (l5 - (1 : Int32)) h
theorem x_Stocks_plan_b45 (N : Nat) {d : Nat} (hd : 4 ≤ d) {Q : ai_Q} {R : sh_H → Prop} (hR : ∀ h, R h → Q none (sh_E h))   (l1 : Nat) (l2 : Int32) (l3 : Int32) (l4 : Int32) (l5 : Int32) (l6 : Int32) {d7 d8 d9 d10 : Option ai_V} (h : sh_H) (H : sh_ok (f_Stocks_plan_b45 N l1 l2 l3 l4 l5 l6 h) R) : wq_111 d Q 45 [oR 8 0, oR 9 l1, oI l2, oI l3, oI l4, oI l5, oI l6, d7, d8, d9, d10] [] (sh_E h) := by
  refine ai_WP_steps mc_111 (sh_CM d) 6 ?_
  exact x_Stocks_plan_l54 N hd hR N l1 l2 l3 l4 l6 (1 : Int64) (l5 - (1 : Int32)) h H
def f_Stocks_plan (N : Nat)  (l1 : Nat) (l2 : Int32) (l3 : Int32) (l4 : Int32) (l5 : Int32) (l6 : Int32) (h : sh_H) : Option sh_H := f_Stocks_plan_l3 N (f_Stocks_plan_b45 N) N l1 l2 l3 l4 l5 l6 (0 : Int32) h
theorem x_Stocks_plan (N : Nat) {d : Nat} (hd : 5 ≤ d) (l1 : Nat) (l2 : Int32) (l3 : Int32) (l4 : Int32) (l5 : Int32) (l6 : Int32) (h : sh_H) {Q : ai_Q} {R : sh_H → Prop} (H : sh_ok (f_Stocks_plan N l1 l2 l3 l4 l5 l6 h) R) (hR : ∀ h, R h → Q none (sh_E h)) : ai_Ex sh_T d 111 [aR 8 0, aR 9 l1, aI l2, aI l3, aI l4, aI l5, aI l6] (sh_E h) Q := by
  obtain ⟨d, rfl⟩ : ∃ e, d = e + 1 := ⟨d - 1, by omega⟩
  replace hd : 4 ≤ d := by omega
  refine And.intro (Nat.le_of_ble_eq_true rfl) ?_
  show wq_111 d Q 0 [oR 8 0, oR 9 l1, oI l2, oI l3, oI l4, oI l5, oI l6, none, none, none, none] [] (sh_E h)
  refine ai_WP_steps mc_111 (sh_CM d) 2 ?_
  exact x_Stocks_plan_l3 N hd hR (f_Stocks_plan_b45 N) (fun z0 z1 z2 z3 z4 z5 {e7} {e8} {e9} {e10} h H => x_Stocks_plan_b45 N hd hR z0 z1 z2 z3 z4 z5 h H) N l1 l2 l3 l4 l5 l6 (0 : Int32) h H
def f_Stocks_brings_b22    (h : sh_H) : Option Int32 := (some (0 : Int32))
theorem x_Stocks_brings_b22 {d : Nat} (hd : 0 ≤ d) (h : sh_H) {Q : ai_Q} {R : Int32 → Prop} (hR : ∀ r, R r → Q (some (aI r)) (sh_E h))    {d0 d1 : Option ai_V} (H : sh_ok (f_Stocks_brings_b22 h) R) : wq_116 d Q 22 [d0, d1] [] (sh_E h) := by
  exact ai_WP_steps mc_116 (sh_CM d) 2 (hR (0 : Int32) H)
def f_Stocks_brings  (l1 : Int32) (h : sh_H) : Option Int32 := (if l1 < 0 then f_Stocks_brings_b22 h else (if l1 < (Int32.ofNat 61) then (if ai_in l1 61 then (some (h.1 13 37 l1.toNatClampNeg)) else none) else f_Stocks_brings_b22 h))
theorem x_Stocks_brings {d : Nat} (hd : 1 ≤ d) (l1 : Int32) (h : sh_H) {Q : ai_Q} {R : Int32 → Prop} (H : sh_ok (f_Stocks_brings l1 h) R) (hR : ∀ r, R r → Q (some (aI r)) (sh_E h)) : ai_Ex sh_T d 116 [aR 8 0, aI l1] (sh_E h) Q := by
  obtain ⟨d, rfl⟩ : ∃ e, d = e + 1 := ⟨d - 1, by omega⟩
  replace hd : 0 ≤ d := by omega
  refine And.intro (Nat.le_of_ble_eq_true rfl) ?_
  show wq_116 d Q 0 [oR 8 0, oI l1] [] (sh_E h)
  refine ai_WP_steps mc_116 (sh_CM d) 2 (And.intro (fun c => ?_) (fun c => ?_))
  · replace H := sh_okT c H
    exact x_Stocks_brings_b22 hd h hR H
  · replace H := sh_okF c H
    show wq_116 d Q 4 [oR 8 0, oI l1] [] (sh_E h)
    refine ai_WP_steps mc_116 (sh_CM d) 5 (And.intro (fun c => ?_) (fun c => ?_))
    · replace H := sh_okT c H
      show wq_116 d Q 13 [oR 8 0, oI l1] [] (sh_E h)
      have c := sh_okG H
      replace H := sh_okH H
      refine ai_WP_steps mc_116 (sh_CM d) 4 (And.intro c ?_)
      show wq_116 d Q 19 [oR 8 0, oI l1] [aI (h.1 13 37 l1.toNatClampNeg)] (sh_E h)
      exact ai_WP_steps mc_116 (sh_CM d) 2 (hR (h.1 13 37 l1.toNatClampNeg) H)
    · replace H := sh_okF c H
      exact x_Stocks_brings_b22 hd h hR H
def f_Stocks_isIn  (l0 : Int32) (l1 : Int32) (h : sh_H) : Option Int32 := (if ((l0 >>> ((l1 - (1 : Int32)) &&& 31)) &&& (1 : Int32)) = 0 then (some (ai_nar 1 (0 : Int32))) else (some (ai_nar 1 (1 : Int32))))
theorem x_Stocks_isIn {d : Nat} (hd : 1 ≤ d) (l0 : Int32) (l1 : Int32) (h : sh_H) {Q : ai_Q} {R : Int32 → Prop} (H : sh_ok (f_Stocks_isIn l0 l1 h) R) (hR : ∀ r, R r → Q (some (aI r)) (sh_E h)) : ai_Ex sh_T d 120 [aI l0, aI l1] (sh_E h) Q := by
  obtain ⟨d, rfl⟩ : ∃ e, d = e + 1 := ⟨d - 1, by omega⟩
  replace hd : 0 ≤ d := by omega
  refine And.intro (Nat.le_of_ble_eq_true rfl) ?_
  show wq_120 d Q 0 [oI l0, oI l1] [] (sh_E h)
  refine ai_WP_steps mc_120 (sh_CM d) 8 (And.intro (fun c => ?_) (fun c => ?_))
  · replace H := sh_okT c H
    show wq_120 d Q 14 [oI l0, oI l1] [] (sh_E h)
    exact ai_WP_steps mc_120 (sh_CM d) 2 (hR (ai_nar 1 (0 : Int32)) H)
  · replace H := sh_okF c H
    show wq_120 d Q 10 [oI l0, oI l1] [] (sh_E h)
    exact ai_WP_steps mc_120 (sh_CM d) 3 (hR (ai_nar 1 (1 : Int32)) H)
def f_Stocks_mostHarmed_b43 (N : Nat)  (k4 : Nat → Int32 → Int32 → Int32 → sh_H → Option Int32) (l0 : Nat) (l1 : Int32) (l2 : Int32) (l3 : Int32) (h : sh_H) : Option Int32 := k4 l0 l1 l2 (l3 + (1 : Int32)) h
theorem x_Stocks_mostHarmed_b43 (N : Nat) {d : Nat} (hd : 3 ≤ d) (h : sh_H) {Q : ai_Q} {R : Int32 → Prop} (hR : ∀ r, R r → Q (some (aI r)) (sh_E h))  (k4 : Nat → Int32 → Int32 → Int32 → sh_H → Option Int32) (hk4 : ∀ (l0 : Nat) (l1 : Int32) (l2 : Int32) (l3 : Int32), sh_ok (k4 l0 l1 l2 l3 h) R → wq_119 d Q 4 [oR 9 l0, oI l1, oI l2, oI l3] [] (sh_E h)) (l0 : Nat) (l1 : Int32) (l2 : Int32) (l3 : Int32) (H : sh_ok (f_Stocks_mostHarmed_b43 N k4 l0 l1 l2 l3 h) R) : wq_119 d Q 43 [oR 9 l0, oI l1, oI l2, oI l3] [] (sh_E h) := by
  refine ai_WP_steps mc_119 (sh_CM d) 2 ?_
  exact hk4 l0 l1 l2 (l3 + (1 : Int32)) H
def f_Stocks_mostHarmed_b41 (N : Nat)  (k4 : Nat → Int32 → Int32 → Int32 → sh_H → Option Int32) (l0 : Nat) (l1 : Int32) (l3 : Int32) (h : sh_H) : Option Int32 := f_Stocks_mostHarmed_b43 N k4 l0 l1 l3 l3 h
theorem x_Stocks_mostHarmed_b41 (N : Nat) {d : Nat} (hd : 3 ≤ d) (h : sh_H) {Q : ai_Q} {R : Int32 → Prop} (hR : ∀ r, R r → Q (some (aI r)) (sh_E h))  (k4 : Nat → Int32 → Int32 → Int32 → sh_H → Option Int32) (hk4 : ∀ (l0 : Nat) (l1 : Int32) (l2 : Int32) (l3 : Int32), sh_ok (k4 l0 l1 l2 l3 h) R → wq_119 d Q 4 [oR 9 l0, oI l1, oI l2, oI l3] [] (sh_E h)) (l0 : Nat) (l1 : Int32) (l3 : Int32) {d2 : Option ai_V} (H : sh_ok (f_Stocks_mostHarmed_b41 N k4 l0 l1 l3 h) R) : wq_119 d Q 41 [oR 9 l0, oI l1, d2, oI l3] [] (sh_E h) := by
  refine ai_WP_steps mc_119 (sh_CM d) 2 ?_
  exact x_Stocks_mostHarmed_b43 N hd h hR k4 hk4 l0 l1 l3 l3 H
def f_Stocks_mostHarmed_c4 (N : Nat)   (k4 : Nat → Int32 → Int32 → Int32 → sh_H → Option Int32) (l0 : Nat) (l1 : Int32) (l2 : Int32) (l3 : Int32) (h : sh_H) : Option Int32 := (Option.bind (f_Rows_size (7 * l0 + 1) h) (fun v1 => (if v1 < l3 then (some l2) else (Option.bind (f_Stocks_isIn l1 l3 h) (fun v2 => (if v2 = 0 then f_Stocks_mostHarmed_b43 N k4 l0 l1 l2 l3 h else (if l2 = (-1 : Int32) then f_Stocks_mostHarmed_b41 N k4 l0 l1 l3 h else (Option.bind (f_Text_harmOf l0 l3 h) (fun v3 => (Option.bind (f_Text_harmOf l0 l2 h) (fun v4 => (if v4 < v3 then f_Stocks_mostHarmed_b41 N k4 l0 l1 l3 h else f_Stocks_mostHarmed_b43 N k4 l0 l1 l2 l3 h))))))))))))
def f_Stocks_mostHarmed_l4 (N : Nat)   (n : Nat) : Nat → Int32 → Int32 → Int32 → sh_H → Option Int32 := Nat.rec (motive := fun _ => Nat → Int32 → Int32 → Int32 → sh_H → Option Int32) (fun _ _ _ _ _ => none) (fun _ k4 => f_Stocks_mostHarmed_c4 N k4) n
theorem x_Stocks_mostHarmed_l4 (N : Nat) {d : Nat} (hd : 3 ≤ d) (h : sh_H) {Q : ai_Q} {R : Int32 → Prop} (hR : ∀ r, R r → Q (some (aI r)) (sh_E h))   (n : Nat) : ∀ (l0 : Nat) (l1 : Int32) (l2 : Int32) (l3 : Int32), sh_ok (f_Stocks_mostHarmed_l4 N n l0 l1 l2 l3 h) R → wq_119 d Q 4 [oR 9 l0, oI l1, oI l2, oI l3] [] (sh_E h) := by
  induction n with
  | zero => intro l0 l1 l2 l3 H; exact H.elim
  | succ n ih =>
    intro l0 l1 l2 l3 H
    have hk4 := @ih
    replace H : sh_ok (f_Stocks_mostHarmed_c4 N (f_Stocks_mostHarmed_l4 N n) l0 l1 l2 l3 h) R := H
    revert hk4 H
    generalize f_Stocks_mostHarmed_l4 N n = k4
    intro hk4 H
    refine ai_WP_steps mc_119 (sh_CM d) 4 (And.intro (Nat.le_of_ble_eq_true rfl) (x_Rows_size (Nat.le_trans (Nat.le_of_ble_eq_true rfl) hd) (7 * l0 + 1) h (sh_okB H) (fun v1 H => ?_)))
    show wq_119 d Q 12 [oR 9 l0, oI l1, oI l2, oI l3] [aI v1, aI l3] (sh_E h)
    refine ai_WP_steps mc_119 (sh_CM d) 1 (And.intro (fun c => ?_) (fun c => ?_))
    · replace H := sh_okT c H
      show wq_119 d Q 49 [oR 9 l0, oI l1, oI l2, oI l3] [] (sh_E h)
      exact ai_WP_steps mc_119 (sh_CM d) 2 (hR l2 H)
    · replace H := sh_okF c H
      show wq_119 d Q 15 [oR 9 l0, oI l1, oI l2, oI l3] [] (sh_E h)
      refine ai_WP_steps mc_119 (sh_CM d) 3 (And.intro (Nat.le_of_ble_eq_true rfl) (x_Stocks_isIn (Nat.le_trans (Nat.le_of_ble_eq_true rfl) hd) l1 l3 h (sh_okB H) (fun v2 H => ?_)))
      show wq_119 d Q 20 [oR 9 l0, oI l1, oI l2, oI l3] [aI v2] (sh_E h)
      refine ai_WP_steps mc_119 (sh_CM d) 1 (And.intro (fun c => ?_) (fun c => ?_))
      · replace H := sh_okT c H
        exact x_Stocks_mostHarmed_b43 N hd h hR k4 hk4 l0 l1 l2 l3 H
      · replace H := sh_okF c H
        show wq_119 d Q 23 [oR 9 l0, oI l1, oI l2, oI l3] [] (sh_E h)
        refine ai_WP_steps mc_119 (sh_CM d) 3 (And.intro (fun c => ?_) (fun c => ?_))
        · replace H := sh_okT c H
          exact x_Stocks_mostHarmed_b41 N hd h hR k4 hk4 l0 l1 l3 H
        · replace H := sh_okF c H
          show wq_119 d Q 28 [oR 9 l0, oI l1, oI l2, oI l3] [] (sh_E h)
          refine ai_WP_steps mc_119 (sh_CM d) 3 (And.intro (Nat.le_of_ble_eq_true rfl) (x_Text_harmOf (Nat.le_trans (Nat.le_of_ble_eq_true rfl) hd) l0 l3 h (sh_okB H) (fun v3 H => ?_)))
          show wq_119 d Q 33 [oR 9 l0, oI l1, oI l2, oI l3] [aI v3] (sh_E h)
          refine ai_WP_steps mc_119 (sh_CM d) 3 (And.intro (Nat.le_of_ble_eq_true rfl) (x_Text_harmOf (Nat.le_trans (Nat.le_of_ble_eq_true rfl) hd) l0 l2 h (sh_okB H) (fun v4 H => ?_)))
          show wq_119 d Q 38 [oR 9 l0, oI l1, oI l2, oI l3] [aI v4, aI v3] (sh_E h)
          refine ai_WP_steps mc_119 (sh_CM d) 1 (And.intro (fun c => ?_) (fun c => ?_))
          · replace H := sh_okT c H
            exact x_Stocks_mostHarmed_b41 N hd h hR k4 hk4 l0 l1 l3 H
          · replace H := sh_okF c H
            exact x_Stocks_mostHarmed_b43 N hd h hR k4 hk4 l0 l1 l2 l3 H
def f_Stocks_mostHarmed (N : Nat)  (l0 : Nat) (l1 : Int32) (h : sh_H) : Option Int32 := f_Stocks_mostHarmed_l4 N N l0 l1 (-1 : Int32) (1 : Int32) h
theorem x_Stocks_mostHarmed (N : Nat) {d : Nat} (hd : 4 ≤ d) (l0 : Nat) (l1 : Int32) (h : sh_H) {Q : ai_Q} {R : Int32 → Prop} (H : sh_ok (f_Stocks_mostHarmed N l0 l1 h) R) (hR : ∀ r, R r → Q (some (aI r)) (sh_E h)) : ai_Ex sh_T d 119 [aR 9 l0, aI l1] (sh_E h) Q := by
  obtain ⟨d, rfl⟩ : ∃ e, d = e + 1 := ⟨d - 1, by omega⟩
  replace hd : 3 ≤ d := by omega
  refine And.intro (Nat.le_of_ble_eq_true rfl) ?_
  show wq_119 d Q 0 [oR 9 l0, oI l1, none, none] [] (sh_E h)
  refine ai_WP_steps mc_119 (sh_CM d) 4 ?_
  exact x_Stocks_mostHarmed_l4 N hd h hR N l0 l1 (-1 : Int32) (1 : Int32) H
def f_Stocks_harm_b41 (N : Nat)  (k6 : Nat → Nat → Int32 → Int32 → Int32 → Int32 → Int32 → sh_H → Option (Int32 × sh_H)) (l0 : Nat) (l1 : Nat) (l2 : Int32) (l3 : Int32) (l4 : Int32) (l6 : Int32) (s0 : Int32) (s1 : Int32) (h : sh_H) : Option (Int32 × sh_H) := k6 l0 l1 l2 l3 l4 (s0 + s1) (l6 + (1 : Int32)) h
theorem x_Stocks_harm_b41 (N : Nat) {d : Nat} (hd : 4 ≤ d) {Q : ai_Q} {R : Int32 × sh_H → Prop} (hR : ∀ r h, R (r, h) → Q (some (aI r)) (sh_E h))  (k6 : Nat → Nat → Int32 → Int32 → Int32 → Int32 → Int32 → sh_H → Option (Int32 × sh_H)) (hk6 : ∀ (l0 : Nat) (l1 : Nat) (l2 : Int32) (l3 : Int32) (l4 : Int32) (l5 : Int32) (l6 : Int32) {d7 d8 d9 d10 d11 : Option ai_V} (h : sh_H), sh_ok (k6 l0 l1 l2 l3 l4 l5 l6 h) R → wq_118 d Q 6 [oR 9 l0, oR 4 l1, oI l2, oI l3, oI l4, oI l5, oI l6, d7, d8, d9, d10, d11] [] (sh_E h)) (l0 : Nat) (l1 : Nat) (l2 : Int32) (l3 : Int32) (l4 : Int32) (l6 : Int32) (s0 : Int32) (s1 : Int32) {d5 d7 d8 d9 d10 d11 : Option ai_V} (h : sh_H) (H : sh_ok (f_Stocks_harm_b41 N k6 l0 l1 l2 l3 l4 l6 s0 s1 h) R) : wq_118 d Q 41 [oR 9 l0, oR 4 l1, oI l2, oI l3, oI l4, d5, oI l6, d7, d8, d9, d10, d11] [aI s1, aI s0] (sh_E h) := by
  refine ai_WP_steps mc_118 (sh_CM d) 4 ?_
  exact hk6 l0 l1 l2 l3 l4 (s0 + s1) (l6 + (1 : Int32)) h H
def f_Stocks_harm_c6 (N : Nat)  (k50 : Nat → Int32 → Int32 → Int32 → Int32 → sh_H → Option (Int32 × sh_H)) (k6 : Nat → Nat → Int32 → Int32 → Int32 → Int32 → Int32 → sh_H → Option (Int32 × sh_H)) (l0 : Nat) (l1 : Nat) (l2 : Int32) (l3 : Int32) (l4 : Int32) (l5 : Int32) (l6 : Int32) (h : sh_H) : Option (Int32 × sh_H) := (Option.bind (f_Rows_size (7 * l0 + 1) h) (fun v1 => (if v1 < l6 then k50 l0 l2 l3 l4 l5 h else (Option.bind (f_Stocks_isIn l4 l6 h) (fun v2 => (if v2 = 0 then f_Stocks_harm_b41 N k6 l0 l1 l2 l3 l4 l6 l5 (0 : Int32) h else (Option.bind (f_Pieces_all N l1 l6 l2 h) (fun v3 => f_Stocks_harm_b41 N k6 l0 l1 l2 l3 l4 l6 l5 v3 h))))))))
def f_Stocks_harm_l6 (N : Nat)  (k50 : Nat → Int32 → Int32 → Int32 → Int32 → sh_H → Option (Int32 × sh_H)) (n : Nat) : Nat → Nat → Int32 → Int32 → Int32 → Int32 → Int32 → sh_H → Option (Int32 × sh_H) := Nat.rec (motive := fun _ => Nat → Nat → Int32 → Int32 → Int32 → Int32 → Int32 → sh_H → Option (Int32 × sh_H)) (fun _ _ _ _ _ _ _ _ => none) (fun _ k6 => f_Stocks_harm_c6 N k50 k6) n
theorem x_Stocks_harm_l6 (N : Nat) {d : Nat} (hd : 4 ≤ d) {Q : ai_Q} {R : Int32 × sh_H → Prop} (hR : ∀ r h, R (r, h) → Q (some (aI r)) (sh_E h))  (k50 : Nat → Int32 → Int32 → Int32 → Int32 → sh_H → Option (Int32 × sh_H)) (hk50 : ∀ (l0 : Nat) (l2 : Int32) (l3 : Int32) (l4 : Int32) (l5 : Int32) {d1 d6 d7 d8 d9 d10 d11 : Option ai_V} (h : sh_H), sh_ok (k50 l0 l2 l3 l4 l5 h) R → wq_118 d Q 50 [oR 9 l0, d1, oI l2, oI l3, oI l4, oI l5, d6, d7, d8, d9, d10, d11] [] (sh_E h)) (n : Nat) : ∀ (l0 : Nat) (l1 : Nat) (l2 : Int32) (l3 : Int32) (l4 : Int32) (l5 : Int32) (l6 : Int32) {d7 d8 d9 d10 d11 : Option ai_V} (h : sh_H), sh_ok (f_Stocks_harm_l6 N k50 n l0 l1 l2 l3 l4 l5 l6 h) R → wq_118 d Q 6 [oR 9 l0, oR 4 l1, oI l2, oI l3, oI l4, oI l5, oI l6, d7, d8, d9, d10, d11] [] (sh_E h) := by
  induction n with
  | zero => intro l0 l1 l2 l3 l4 l5 l6 d7 d8 d9 d10 d11 h H; exact H.elim
  | succ n ih =>
    intro l0 l1 l2 l3 l4 l5 l6 d7 d8 d9 d10 d11 h H
    have hk6 := @ih
    replace H : sh_ok (f_Stocks_harm_c6 N k50 (f_Stocks_harm_l6 N k50 n) l0 l1 l2 l3 l4 l5 l6 h) R := H
    revert hk6 H
    generalize f_Stocks_harm_l6 N k50 n = k6
    intro hk6 H
    refine ai_WP_steps mc_118 (sh_CM d) 4 (And.intro (Nat.le_of_ble_eq_true rfl) (x_Rows_size (Nat.le_trans (Nat.le_of_ble_eq_true rfl) hd) (7 * l0 + 1) h (sh_okB H) (fun v1 H => ?_)))
    show wq_118 d Q 15 [oR 9 l0, oR 4 l1, oI l2, oI l3, oI l4, oI l5, oI l6, _, _, _, _, _] [aI v1, aI l6] (sh_E h)
    refine ai_WP_steps mc_118 (sh_CM d) 1 (And.intro (fun c => ?_) (fun c => ?_))
    · replace H := sh_okT c H
      exact hk50 l0 l2 l3 l4 l5 h H
    · replace H := sh_okF c H
      show wq_118 d Q 18 [oR 9 l0, oR 4 l1, oI l2, oI l3, oI l4, oI l5, oI l6, _, _, _, _, _] [] (sh_E h)
      refine ai_WP_steps mc_118 (sh_CM d) 4 (And.intro (Nat.le_of_ble_eq_true rfl) (x_Stocks_isIn (Nat.le_trans (Nat.le_of_ble_eq_true rfl) hd) l4 l6 h (sh_okB H) (fun v2 H => ?_)))
      show wq_118 d Q 27 [oR 9 l0, oR 4 l1, oI l2, oI l3, oI l4, oI l5, oI l6, _, _, _, _, _] [aI v2, aI l5] (sh_E h)
      refine ai_WP_steps mc_118 (sh_CM d) 1 (And.intro (fun c => ?_) (fun c => ?_))
      · replace H := sh_okT c H
        show wq_118 d Q 40 [oR 9 l0, oR 4 l1, oI l2, oI l3, oI l4, oI l5, oI l6, _, _, _, _, _] [aI l5] (sh_E h)
        refine ai_WP_steps mc_118 (sh_CM d) 1 ?_
        exact x_Stocks_harm_b41 N hd hR k6 hk6 l0 l1 l2 l3 l4 l6 l5 (0 : Int32) h H
      · replace H := sh_okF c H
        show wq_118 d Q 30 [oR 9 l0, oR 4 l1, oI l2, oI l3, oI l4, oI l5, oI l6, _, _, _, _, _] [aI l5] (sh_E h)
        refine ai_WP_steps mc_118 (sh_CM d) 4 (And.intro (Nat.le_of_ble_eq_true rfl) (x_Pieces_all N (Nat.le_trans (Nat.le_of_ble_eq_true rfl) hd) l1 l6 l2 h (sh_okB H) (fun v3 H => ?_)))
        show wq_118 d Q 37 [oR 9 l0, oR 4 l1, oI l2, oI l3, oI l4, oI l5, oI l6, _, _, _, _, _] [aI v3, aI l5] (sh_E h)
        refine ai_WP_steps mc_118 (sh_CM d) 1 ?_
        exact x_Stocks_harm_b41 N hd hR k6 hk6 l0 l1 l2 l3 l4 l6 l5 v3 h H
def f_Stocks_harm_b136 (N : Nat)  (k60 : Nat → Int32 → Int32 → Int32 → Int32 → Int32 → Int32 → sh_H → Option (Int32 × sh_H)) (l0 : Nat) (l2 : Int32) (l3 : Int32) (l5 : Int32) (l6 : Int32) (l7 : Int32) (l8 : Int32) (h : sh_H) : Option (Int32 × sh_H) := k60 l0 l2 l3 l5 l6 l7 (l8 + (1 : Int32)) h
theorem x_Stocks_harm_b136 (N : Nat) {d : Nat} (hd : 4 ≤ d) {Q : ai_Q} {R : Int32 × sh_H → Prop} (hR : ∀ r h, R (r, h) → Q (some (aI r)) (sh_E h))  (k60 : Nat → Int32 → Int32 → Int32 → Int32 → Int32 → Int32 → sh_H → Option (Int32 × sh_H)) (hk60 : ∀ (l0 : Nat) (l2 : Int32) (l3 : Int32) (l5 : Int32) (l6 : Int32) (l7 : Int32) (l8 : Int32) {d1 d4 d9 d10 d11 : Option ai_V} (h : sh_H), sh_ok (k60 l0 l2 l3 l5 l6 l7 l8 h) R → wq_118 d Q 60 [oR 9 l0, d1, oI l2, oI l3, d4, oI l5, oI l6, oI l7, oI l8, d9, d10, d11] [] (sh_E h)) (l0 : Nat) (l2 : Int32) (l3 : Int32) (l5 : Int32) (l6 : Int32) (l7 : Int32) (l8 : Int32) {d1 d4 d9 d10 d11 : Option ai_V} (h : sh_H) (H : sh_ok (f_Stocks_harm_b136 N k60 l0 l2 l3 l5 l6 l7 l8 h) R) : wq_118 d Q 136 [oR 9 l0, d1, oI l2, oI l3, d4, oI l5, oI l6, oI l7, oI l8, d9, d10, d11] [] (sh_E h) := by
  refine ai_WP_steps mc_118 (sh_CM d) 2 ?_
  exact hk60 l0 l2 l3 l5 l6 l7 (l8 + (1 : Int32)) h H
def f_Stocks_harm_c60 (N : Nat)   (k60 : Nat → Int32 → Int32 → Int32 → Int32 → Int32 → Int32 → sh_H → Option (Int32 × sh_H)) (l0 : Nat) (l2 : Int32) (l3 : Int32) (l5 : Int32) (l6 : Int32) (l7 : Int32) (l8 : Int32) (h : sh_H) : Option (Int32 × sh_H) := (if l8 < (4 : Int32) then (Option.bind (f_Stocks_mostHarmed N l0 l7 h) (fun v4 => (if v4 = (-1 : Int32) then f_Stocks_harm_b136 N k60 l0 l2 l3 l5 l6 l7 l8 h else (sh_b2 (f_Text_wanted N l0 v4 l2 l3 h) (fun v5 h6 => (Option.bind (f_Math_min l5 v5 h6) (fun v7 => (Option.bind (f_Text_harmOf l0 v4 h6) (fun v8 => f_Stocks_harm_b136 N k60 l0 l2 l3 (l5 - v7) (l6 + ((v5 - v7) * v8)) (l7 &&& (((1 : Int32) <<< ((v4 - (1 : Int32)) &&& 31)) ^^^ (-1 : Int32))) l8 h6))))))))) else (some (l6, h)))
def f_Stocks_harm_l60 (N : Nat)   (n : Nat) : Nat → Int32 → Int32 → Int32 → Int32 → Int32 → Int32 → sh_H → Option (Int32 × sh_H) := Nat.rec (motive := fun _ => Nat → Int32 → Int32 → Int32 → Int32 → Int32 → Int32 → sh_H → Option (Int32 × sh_H)) (fun _ _ _ _ _ _ _ _ => none) (fun _ k60 => f_Stocks_harm_c60 N k60) n
theorem x_Stocks_harm_l60 (N : Nat) {d : Nat} (hd : 4 ≤ d) {Q : ai_Q} {R : Int32 × sh_H → Prop} (hR : ∀ r h, R (r, h) → Q (some (aI r)) (sh_E h))   (n : Nat) : ∀ (l0 : Nat) (l2 : Int32) (l3 : Int32) (l5 : Int32) (l6 : Int32) (l7 : Int32) (l8 : Int32) {d1 d4 d9 d10 d11 : Option ai_V} (h : sh_H), sh_ok (f_Stocks_harm_l60 N n l0 l2 l3 l5 l6 l7 l8 h) R → wq_118 d Q 60 [oR 9 l0, d1, oI l2, oI l3, d4, oI l5, oI l6, oI l7, oI l8, d9, d10, d11] [] (sh_E h) := by
  induction n with
  | zero => intro l0 l2 l3 l5 l6 l7 l8 d1 d4 d9 d10 d11 h H; exact H.elim
  | succ n ih =>
    intro l0 l2 l3 l5 l6 l7 l8 d1 d4 d9 d10 d11 h H
    have hk60 := @ih
    replace H : sh_ok (f_Stocks_harm_c60 N (f_Stocks_harm_l60 N n) l0 l2 l3 l5 l6 l7 l8 h) R := H
    revert hk60 H
    generalize f_Stocks_harm_l60 N n = k60
    intro hk60 H
    refine ai_WP_steps mc_118 (sh_CM d) 3 (And.intro (fun c => ?_) (fun c => ?_))
    · replace H := sh_okT c H
      show wq_118 d Q 66 [oR 9 l0, _, oI l2, oI l3, _, oI l5, oI l6, oI l7, oI l8, _, _, _] [] (sh_E h)
      refine ai_WP_steps mc_118 (sh_CM d) 3 (And.intro (Nat.le_of_ble_eq_true rfl) (x_Stocks_mostHarmed N (Nat.le_trans (Nat.le_of_ble_eq_true rfl) hd) l0 l7 h (sh_okB H) (fun v4 H => ?_)))
      show wq_118 d Q 72 [oR 9 l0, _, oI l2, oI l3, _, oI l5, oI l6, oI l7, oI l8, _, _, _] [aI v4] (sh_E h)
      refine ai_WP_steps mc_118 (sh_CM d) 4 (And.intro (fun c => ?_) (fun c => ?_))
      · replace H := sh_okT c H
        exact x_Stocks_harm_b136 N hd hR k60 hk60 l0 l2 l3 l5 l6 l7 l8 h H
      · replace H := sh_okF c H
        show wq_118 d Q 80 [oR 9 l0, _, oI l2, oI l3, _, oI l5, oI l6, oI l7, oI l8, oI v4, _, _] [] (sh_E h)
        refine ai_WP_steps mc_118 (sh_CM d) 5 (And.intro (Nat.le_of_ble_eq_true rfl) (x_Text_wanted N (Nat.le_trans (Nat.le_of_ble_eq_true rfl) hd) l0 v4 l2 l3 h (sh_okB H) (fun v5 h6 H => ?_)))
        show wq_118 d Q 88 [oR 9 l0, _, oI l2, oI l3, _, oI l5, oI l6, oI l7, oI l8, oI v4, _, _] [aI v5] (sh_E h6)
        refine ai_WP_steps mc_118 (sh_CM d) 4 (And.intro (Nat.le_of_ble_eq_true rfl) (x_Math_min (Nat.le_trans (Nat.le_of_ble_eq_true rfl) hd) l5 v5 h6 (sh_okB H) (fun v7 H => ?_)))
        show wq_118 d Q 97 [oR 9 l0, _, oI l2, oI l3, _, oI l5, oI l6, oI l7, oI l8, oI v4, oI v5, _] [aI v7] (sh_E h6)
        refine ai_WP_steps mc_118 (sh_CM d) 12 (And.intro (Nat.le_of_ble_eq_true rfl) (x_Text_harmOf (Nat.le_trans (Nat.le_of_ble_eq_true rfl) hd) l0 v4 h6 (sh_okB H) (fun v8 H => ?_)))
        show wq_118 d Q 119 [oR 9 l0, _, oI l2, oI l3, _, oI (l5 - v7), oI l6, oI l7, oI l8, oI v4, oI v5, oI v7] [aI v8, aI (v5 - v7), aI l6] (sh_E h6)
        refine ai_WP_steps mc_118 (sh_CM d) 13 ?_
        exact x_Stocks_harm_b136 N hd hR k60 hk60 l0 l2 l3 (l5 - v7) (l6 + ((v5 - v7) * v8)) (l7 &&& (((1 : Int32) <<< ((v4 - (1 : Int32)) &&& 31)) ^^^ (-1 : Int32))) l8 h6 H
    · replace H := sh_okF c H
      show wq_118 d Q 142 [oR 9 l0, _, oI l2, oI l3, _, oI l5, oI l6, oI l7, oI l8, _, _, _] [] (sh_E h)
      exact ai_WP_steps mc_118 (sh_CM d) 2 (hR l6 h H)
def f_Stocks_harm_b50 (N : Nat)   (l0 : Nat) (l2 : Int32) (l3 : Int32) (l4 : Int32) (l5 : Int32) (h : sh_H) : Option (Int32 × sh_H) := f_Stocks_harm_l60 N N l0 l2 l3 l5 (0 : Int32) l4 (0 : Int32) h
theorem x_Stocks_harm_b50 (N : Nat) {d : Nat} (hd : 4 ≤ d) {Q : ai_Q} {R : Int32 × sh_H → Prop} (hR : ∀ r h, R (r, h) → Q (some (aI r)) (sh_E h))   (l0 : Nat) (l2 : Int32) (l3 : Int32) (l4 : Int32) (l5 : Int32) {d1 d6 d7 d8 d9 d10 d11 : Option ai_V} (h : sh_H) (H : sh_ok (f_Stocks_harm_b50 N l0 l2 l3 l4 l5 h) R) : wq_118 d Q 50 [oR 9 l0, d1, oI l2, oI l3, oI l4, oI l5, d6, d7, d8, d9, d10, d11] [] (sh_E h) := by
  refine ai_WP_steps mc_118 (sh_CM d) 6 ?_
  exact x_Stocks_harm_l60 N hd hR N l0 l2 l3 l5 (0 : Int32) l4 (0 : Int32) h H
def f_Stocks_harm (N : Nat)  (l0 : Nat) (l1 : Nat) (l2 : Int32) (l3 : Int32) (l4 : Int32) (h : sh_H) : Option (Int32 × sh_H) := f_Stocks_harm_l6 N (f_Stocks_harm_b50 N) N l0 l1 l2 l3 l4 (0 : Int32) (1 : Int32) h
theorem x_Stocks_harm (N : Nat) {d : Nat} (hd : 5 ≤ d) (l0 : Nat) (l1 : Nat) (l2 : Int32) (l3 : Int32) (l4 : Int32) (h : sh_H) {Q : ai_Q} {R : Int32 × sh_H → Prop} (H : sh_ok (f_Stocks_harm N l0 l1 l2 l3 l4 h) R) (hR : ∀ r h, R (r, h) → Q (some (aI r)) (sh_E h)) : ai_Ex sh_T d 118 [aR 9 l0, aR 4 l1, aI l2, aI l3, aI l4] (sh_E h) Q := by
  obtain ⟨d, rfl⟩ : ∃ e, d = e + 1 := ⟨d - 1, by omega⟩
  replace hd : 4 ≤ d := by omega
  refine And.intro (Nat.le_of_ble_eq_true rfl) ?_
  show wq_118 d Q 0 [oR 9 l0, oR 4 l1, oI l2, oI l3, oI l4, none, none, none, none, none, none, none] [] (sh_E h)
  refine ai_WP_steps mc_118 (sh_CM d) 4 ?_
  exact x_Stocks_harm_l6 N hd hR (f_Stocks_harm_b50 N) (fun z0 z1 z2 z3 z4 {e1} {e6} {e7} {e8} {e9} {e10} {e11} h H => x_Stocks_harm_b50 N hd hR z0 z1 z2 z3 z4 h H) N l0 l1 l2 l3 l4 (0 : Int32) (1 : Int32) h H
def f_Stocks_saving_b46 (N : Nat)  (k6 : Nat → Nat → Int32 → Int32 → Int32 → Int32 → Int32 → sh_H → Option (Int32 × sh_H)) (l0 : Nat) (l1 : Nat) (l2 : Int32) (l3 : Int32) (l4 : Int32) (l5 : Int32) (l6 : Int32) (h : sh_H) : Option (Int32 × sh_H) := k6 l0 l1 l2 l3 l4 l5 (l6 + (1 : Int32)) h
theorem x_Stocks_saving_b46 (N : Nat) {d : Nat} (hd : 5 ≤ d) {Q : ai_Q} {R : Int32 × sh_H → Prop} (hR : ∀ r h, R (r, h) → Q (some (aI r)) (sh_E h))  (k6 : Nat → Nat → Int32 → Int32 → Int32 → Int32 → Int32 → sh_H → Option (Int32 × sh_H)) (hk6 : ∀ (l0 : Nat) (l1 : Nat) (l2 : Int32) (l3 : Int32) (l4 : Int32) (l5 : Int32) (l6 : Int32) (h : sh_H), sh_ok (k6 l0 l1 l2 l3 l4 l5 l6 h) R → wq_117 d Q 6 [oR 9 l0, oR 4 l1, oI l2, oI l3, oI l4, oI l5, oI l6] [] (sh_E h)) (l0 : Nat) (l1 : Nat) (l2 : Int32) (l3 : Int32) (l4 : Int32) (l5 : Int32) (l6 : Int32) (h : sh_H) (H : sh_ok (f_Stocks_saving_b46 N k6 l0 l1 l2 l3 l4 l5 l6 h) R) : wq_117 d Q 46 [oR 9 l0, oR 4 l1, oI l2, oI l3, oI l4, oI l5, oI l6] [] (sh_E h) := by
  refine ai_WP_steps mc_117 (sh_CM d) 2 ?_
  exact hk6 l0 l1 l2 l3 l4 l5 (l6 + (1 : Int32)) h H
def f_Stocks_saving_c6 (N : Nat)  (k52 : Nat → Nat → Int32 → Int32 → Int32 → Int32 → sh_H → Option (Int32 × sh_H)) (k6 : Nat → Nat → Int32 → Int32 → Int32 → Int32 → Int32 → sh_H → Option (Int32 × sh_H)) (l0 : Nat) (l1 : Nat) (l2 : Int32) (l3 : Int32) (l4 : Int32) (l5 : Int32) (l6 : Int32) (h : sh_H) : Option (Int32 × sh_H) := (Option.bind (f_Rows_size (7 * l0 + 1) h) (fun v1 => (if v1 < l6 then k52 l0 l1 l2 l3 l4 l5 h else (Option.bind (f_Stocks_isIn l4 l6 h) (fun v2 => (if v2 = 0 then f_Stocks_saving_b46 N k6 l0 l1 l2 l3 l4 l5 l6 h else (sh_b2 (f_Stocks_harm N l0 l1 l2 l3 ((1 : Int32) <<< ((l6 - (1 : Int32)) &&& 31)) h) (fun v3 h4 => f_Stocks_saving_b46 N k6 l0 l1 l2 l3 l4 (l5 + v3) l6 h4))))))))
def f_Stocks_saving_l6 (N : Nat)  (k52 : Nat → Nat → Int32 → Int32 → Int32 → Int32 → sh_H → Option (Int32 × sh_H)) (n : Nat) : Nat → Nat → Int32 → Int32 → Int32 → Int32 → Int32 → sh_H → Option (Int32 × sh_H) := Nat.rec (motive := fun _ => Nat → Nat → Int32 → Int32 → Int32 → Int32 → Int32 → sh_H → Option (Int32 × sh_H)) (fun _ _ _ _ _ _ _ _ => none) (fun _ k6 => f_Stocks_saving_c6 N k52 k6) n
theorem x_Stocks_saving_l6 (N : Nat) {d : Nat} (hd : 5 ≤ d) {Q : ai_Q} {R : Int32 × sh_H → Prop} (hR : ∀ r h, R (r, h) → Q (some (aI r)) (sh_E h))  (k52 : Nat → Nat → Int32 → Int32 → Int32 → Int32 → sh_H → Option (Int32 × sh_H)) (hk52 : ∀ (l0 : Nat) (l1 : Nat) (l2 : Int32) (l3 : Int32) (l4 : Int32) (l5 : Int32) {d6 : Option ai_V} (h : sh_H), sh_ok (k52 l0 l1 l2 l3 l4 l5 h) R → wq_117 d Q 52 [oR 9 l0, oR 4 l1, oI l2, oI l3, oI l4, oI l5, d6] [] (sh_E h)) (n : Nat) : ∀ (l0 : Nat) (l1 : Nat) (l2 : Int32) (l3 : Int32) (l4 : Int32) (l5 : Int32) (l6 : Int32) (h : sh_H), sh_ok (f_Stocks_saving_l6 N k52 n l0 l1 l2 l3 l4 l5 l6 h) R → wq_117 d Q 6 [oR 9 l0, oR 4 l1, oI l2, oI l3, oI l4, oI l5, oI l6] [] (sh_E h) := by
  induction n with
  | zero => intro l0 l1 l2 l3 l4 l5 l6 h H; exact H.elim
  | succ n ih =>
    intro l0 l1 l2 l3 l4 l5 l6 h H
    have hk6 := @ih
    replace H : sh_ok (f_Stocks_saving_c6 N k52 (f_Stocks_saving_l6 N k52 n) l0 l1 l2 l3 l4 l5 l6 h) R := H
    revert hk6 H
    generalize f_Stocks_saving_l6 N k52 n = k6
    intro hk6 H
    refine ai_WP_steps mc_117 (sh_CM d) 4 (And.intro (Nat.le_of_ble_eq_true rfl) (x_Rows_size (Nat.le_trans (Nat.le_of_ble_eq_true rfl) hd) (7 * l0 + 1) h (sh_okB H) (fun v1 H => ?_)))
    show wq_117 d Q 15 [oR 9 l0, oR 4 l1, oI l2, oI l3, oI l4, oI l5, oI l6] [aI v1, aI l6] (sh_E h)
    refine ai_WP_steps mc_117 (sh_CM d) 1 (And.intro (fun c => ?_) (fun c => ?_))
    · replace H := sh_okT c H
      exact hk52 l0 l1 l2 l3 l4 l5 h H
    · replace H := sh_okF c H
      show wq_117 d Q 18 [oR 9 l0, oR 4 l1, oI l2, oI l3, oI l4, oI l5, oI l6] [] (sh_E h)
      refine ai_WP_steps mc_117 (sh_CM d) 3 (And.intro (Nat.le_of_ble_eq_true rfl) (x_Stocks_isIn (Nat.le_trans (Nat.le_of_ble_eq_true rfl) hd) l4 l6 h (sh_okB H) (fun v2 H => ?_)))
      show wq_117 d Q 25 [oR 9 l0, oR 4 l1, oI l2, oI l3, oI l4, oI l5, oI l6] [aI v2] (sh_E h)
      refine ai_WP_steps mc_117 (sh_CM d) 1 (And.intro (fun c => ?_) (fun c => ?_))
      · replace H := sh_okT c H
        exact x_Stocks_saving_b46 N hd hR k6 hk6 l0 l1 l2 l3 l4 l5 l6 h H
      · replace H := sh_okF c H
        show wq_117 d Q 28 [oR 9 l0, oR 4 l1, oI l2, oI l3, oI l4, oI l5, oI l6] [] (sh_E h)
        refine ai_WP_steps mc_117 (sh_CM d) 11 (And.intro (Nat.le_of_ble_eq_true rfl) (x_Stocks_harm N (Nat.le_trans (Nat.le_of_ble_eq_true rfl) hd) l0 l1 l2 l3 ((1 : Int32) <<< ((l6 - (1 : Int32)) &&& 31)) h (sh_okB H) (fun v3 h4 H => ?_)))
        show wq_117 d Q 43 [oR 9 l0, oR 4 l1, oI l2, oI l3, oI l4, oI l5, oI l6] [aI v3, aI l5] (sh_E h4)
        refine ai_WP_steps mc_117 (sh_CM d) 2 ?_
        exact x_Stocks_saving_b46 N hd hR k6 hk6 l0 l1 l2 l3 l4 (l5 + v3) l6 h4 H
def f_Stocks_saving_b52 (N : Nat)   (l0 : Nat) (l1 : Nat) (l2 : Int32) (l3 : Int32) (l4 : Int32) (l5 : Int32) (h : sh_H) : Option (Int32 × sh_H) := (sh_b2 (f_Stocks_harm N l0 l1 l2 l3 l4 h) (fun v5 h6 => (some ((l5 - v5), h6))))
theorem x_Stocks_saving_b52 (N : Nat) {d : Nat} (hd : 5 ≤ d) {Q : ai_Q} {R : Int32 × sh_H → Prop} (hR : ∀ r h, R (r, h) → Q (some (aI r)) (sh_E h))   (l0 : Nat) (l1 : Nat) (l2 : Int32) (l3 : Int32) (l4 : Int32) (l5 : Int32) {d6 : Option ai_V} (h : sh_H) (H : sh_ok (f_Stocks_saving_b52 N l0 l1 l2 l3 l4 l5 h) R) : wq_117 d Q 52 [oR 9 l0, oR 4 l1, oI l2, oI l3, oI l4, oI l5, d6] [] (sh_E h) := by
  refine ai_WP_steps mc_117 (sh_CM d) 7 (And.intro (Nat.le_of_ble_eq_true rfl) (x_Stocks_harm N (Nat.le_trans (Nat.le_of_ble_eq_true rfl) hd) l0 l1 l2 l3 l4 h (sh_okB H) (fun v5 h6 H => ?_)))
  show wq_117 d Q 63 [oR 9 l0, oR 4 l1, oI l2, oI l3, oI l4, oI l5, _] [aI v5, aI l5] (sh_E h6)
  exact ai_WP_steps mc_117 (sh_CM d) 2 (hR (l5 - v5) h6 H)
def f_Stocks_saving (N : Nat)  (l0 : Nat) (l1 : Nat) (l2 : Int32) (l3 : Int32) (l4 : Int32) (h : sh_H) : Option (Int32 × sh_H) := f_Stocks_saving_l6 N (f_Stocks_saving_b52 N) N l0 l1 l2 l3 l4 (0 : Int32) (1 : Int32) h
theorem x_Stocks_saving (N : Nat) {d : Nat} (hd : 6 ≤ d) (l0 : Nat) (l1 : Nat) (l2 : Int32) (l3 : Int32) (l4 : Int32) (h : sh_H) {Q : ai_Q} {R : Int32 × sh_H → Prop} (H : sh_ok (f_Stocks_saving N l0 l1 l2 l3 l4 h) R) (hR : ∀ r h, R (r, h) → Q (some (aI r)) (sh_E h)) : ai_Ex sh_T d 117 [aR 9 l0, aR 4 l1, aI l2, aI l3, aI l4] (sh_E h) Q := by
  obtain ⟨d, rfl⟩ : ∃ e, d = e + 1 := ⟨d - 1, by omega⟩
  replace hd : 5 ≤ d := by omega
  refine And.intro (Nat.le_of_ble_eq_true rfl) ?_
  show wq_117 d Q 0 [oR 9 l0, oR 4 l1, oI l2, oI l3, oI l4, none, none] [] (sh_E h)
  refine ai_WP_steps mc_117 (sh_CM d) 4 ?_
  exact x_Stocks_saving_l6 N hd hR (f_Stocks_saving_b52 N) (fun z0 z1 z2 z3 z4 z5 {e6} h H => x_Stocks_saving_b52 N hd hR z0 z1 z2 z3 z4 z5 h H) N l0 l1 l2 l3 l4 (0 : Int32) (1 : Int32) h H
def f_Text_isKind_b19    (h : sh_H) : Option Int32 := (some (ai_nar 1 (0 : Int32)))
theorem x_Text_isKind_b19 {d : Nat} (hd : 1 ≤ d) (h : sh_H) {Q : ai_Q} {R : Int32 → Prop} (hR : ∀ r, R r → Q (some (aI r)) (sh_E h))    {d0 d1 : Option ai_V} (H : sh_ok (f_Text_isKind_b19 h) R) : wq_123 d Q 19 [d0, d1] [] (sh_E h) := by
  exact ai_WP_steps mc_123 (sh_CM d) 2 (hR (ai_nar 1 (0 : Int32)) H)
def f_Text_isKind  (l0 : Nat) (l1 : Int32) (h : sh_H) : Option Int32 := (if l1 < 0 then f_Text_isKind_b19 h else (Option.bind (f_Rows_size (7 * l0 + 0) h) (fun v1 => (if l1 < v1 then (some (ai_nar 1 (1 : Int32))) else f_Text_isKind_b19 h))))
theorem x_Text_isKind {d : Nat} (hd : 2 ≤ d) (l0 : Nat) (l1 : Int32) (h : sh_H) {Q : ai_Q} {R : Int32 → Prop} (H : sh_ok (f_Text_isKind l0 l1 h) R) (hR : ∀ r, R r → Q (some (aI r)) (sh_E h)) : ai_Ex sh_T d 123 [aR 9 l0, aI l1] (sh_E h) Q := by
  obtain ⟨d, rfl⟩ : ∃ e, d = e + 1 := ⟨d - 1, by omega⟩
  replace hd : 1 ≤ d := by omega
  refine And.intro (Nat.le_of_ble_eq_true rfl) ?_
  show wq_123 d Q 0 [oR 9 l0, oI l1] [] (sh_E h)
  refine ai_WP_steps mc_123 (sh_CM d) 2 (And.intro (fun c => ?_) (fun c => ?_))
  · replace H := sh_okT c H
    exact x_Text_isKind_b19 hd h hR H
  · replace H := sh_okF c H
    show wq_123 d Q 4 [oR 9 l0, oI l1] [] (sh_E h)
    refine ai_WP_steps mc_123 (sh_CM d) 4 (And.intro (Nat.le_of_ble_eq_true rfl) (x_Rows_size (Nat.le_trans (Nat.le_of_ble_eq_true rfl) hd) (7 * l0 + 0) h (sh_okB H) (fun v1 H => ?_)))
    show wq_123 d Q 12 [oR 9 l0, oI l1] [aI v1, aI l1] (sh_E h)
    refine ai_WP_steps mc_123 (sh_CM d) 1 (And.intro (fun c => ?_) (fun c => ?_))
    · replace H := sh_okT c H
      show wq_123 d Q 15 [oR 9 l0, oI l1] [] (sh_E h)
      exact ai_WP_steps mc_123 (sh_CM d) 3 (hR (ai_nar 1 (1 : Int32)) H)
    · replace H := sh_okF c H
      exact x_Text_isKind_b19 hd h hR H
def f_Text_isIsland_b20    (h : sh_H) : Option Int32 := (some (ai_nar 1 (0 : Int32)))
theorem x_Text_isIsland_b20 {d : Nat} (hd : 1 ≤ d) (h : sh_H) {Q : ai_Q} {R : Int32 → Prop} (hR : ∀ r, R r → Q (some (aI r)) (sh_E h))    {d0 d1 : Option ai_V} (H : sh_ok (f_Text_isIsland_b20 h) R) : wq_124 d Q 20 [d0, d1] [] (sh_E h) := by
  exact ai_WP_steps mc_124 (sh_CM d) 2 (hR (ai_nar 1 (0 : Int32)) H)
def f_Text_isIsland  (l0 : Nat) (l1 : Int32) (h : sh_H) : Option Int32 := (if l1 < (1 : Int32) then f_Text_isIsland_b20 h else (Option.bind (f_Rows_size (7 * l0 + 1) h) (fun v1 => (if v1 < l1 then f_Text_isIsland_b20 h else (some (ai_nar 1 (1 : Int32)))))))
theorem x_Text_isIsland {d : Nat} (hd : 2 ≤ d) (l0 : Nat) (l1 : Int32) (h : sh_H) {Q : ai_Q} {R : Int32 → Prop} (H : sh_ok (f_Text_isIsland l0 l1 h) R) (hR : ∀ r, R r → Q (some (aI r)) (sh_E h)) : ai_Ex sh_T d 124 [aR 9 l0, aI l1] (sh_E h) Q := by
  obtain ⟨d, rfl⟩ : ∃ e, d = e + 1 := ⟨d - 1, by omega⟩
  replace hd : 1 ≤ d := by omega
  refine And.intro (Nat.le_of_ble_eq_true rfl) ?_
  show wq_124 d Q 0 [oR 9 l0, oI l1] [] (sh_E h)
  refine ai_WP_steps mc_124 (sh_CM d) 3 (And.intro (fun c => ?_) (fun c => ?_))
  · replace H := sh_okT c H
    exact x_Text_isIsland_b20 hd h hR H
  · replace H := sh_okF c H
    show wq_124 d Q 5 [oR 9 l0, oI l1] [] (sh_E h)
    refine ai_WP_steps mc_124 (sh_CM d) 4 (And.intro (Nat.le_of_ble_eq_true rfl) (x_Rows_size (Nat.le_trans (Nat.le_of_ble_eq_true rfl) hd) (7 * l0 + 1) h (sh_okB H) (fun v1 H => ?_)))
    show wq_124 d Q 13 [oR 9 l0, oI l1] [aI v1, aI l1] (sh_E h)
    refine ai_WP_steps mc_124 (sh_CM d) 1 (And.intro (fun c => ?_) (fun c => ?_))
    · replace H := sh_okT c H
      exact x_Text_isIsland_b20 hd h hR H
    · replace H := sh_okF c H
      show wq_124 d Q 16 [oR 9 l0, oI l1] [] (sh_E h)
      exact ai_WP_steps mc_124 (sh_CM d) 3 (hR (ai_nar 1 (1 : Int32)) H)
def f_Text_isPlace_b19    (h : sh_H) : Option Int32 := (some (ai_nar 1 (0 : Int32)))
theorem x_Text_isPlace_b19 {d : Nat} (hd : 1 ≤ d) (h : sh_H) {Q : ai_Q} {R : Int32 → Prop} (hR : ∀ r, R r → Q (some (aI r)) (sh_E h))    {d0 d1 : Option ai_V} (H : sh_ok (f_Text_isPlace_b19 h) R) : wq_125 d Q 19 [d0, d1] [] (sh_E h) := by
  exact ai_WP_steps mc_125 (sh_CM d) 2 (hR (ai_nar 1 (0 : Int32)) H)
def f_Text_isPlace  (l0 : Nat) (l1 : Int32) (h : sh_H) : Option Int32 := (if l1 < 0 then f_Text_isPlace_b19 h else (Option.bind (f_Rows_size (7 * l0 + 1) h) (fun v1 => (if v1 < l1 then f_Text_isPlace_b19 h else (some (ai_nar 1 (1 : Int32)))))))
theorem x_Text_isPlace {d : Nat} (hd : 2 ≤ d) (l0 : Nat) (l1 : Int32) (h : sh_H) {Q : ai_Q} {R : Int32 → Prop} (H : sh_ok (f_Text_isPlace l0 l1 h) R) (hR : ∀ r, R r → Q (some (aI r)) (sh_E h)) : ai_Ex sh_T d 125 [aR 9 l0, aI l1] (sh_E h) Q := by
  obtain ⟨d, rfl⟩ : ∃ e, d = e + 1 := ⟨d - 1, by omega⟩
  replace hd : 1 ≤ d := by omega
  refine And.intro (Nat.le_of_ble_eq_true rfl) ?_
  show wq_125 d Q 0 [oR 9 l0, oI l1] [] (sh_E h)
  refine ai_WP_steps mc_125 (sh_CM d) 2 (And.intro (fun c => ?_) (fun c => ?_))
  · replace H := sh_okT c H
    exact x_Text_isPlace_b19 hd h hR H
  · replace H := sh_okF c H
    show wq_125 d Q 4 [oR 9 l0, oI l1] [] (sh_E h)
    refine ai_WP_steps mc_125 (sh_CM d) 4 (And.intro (Nat.le_of_ble_eq_true rfl) (x_Rows_size (Nat.le_trans (Nat.le_of_ble_eq_true rfl) hd) (7 * l0 + 1) h (sh_okB H) (fun v1 H => ?_)))
    show wq_125 d Q 12 [oR 9 l0, oI l1] [aI v1, aI l1] (sh_E h)
    refine ai_WP_steps mc_125 (sh_CM d) 1 (And.intro (fun c => ?_) (fun c => ?_))
    · replace H := sh_okT c H
      exact x_Text_isPlace_b19 hd h hR H
    · replace H := sh_okF c H
      show wq_125 d Q 15 [oR 9 l0, oI l1] [] (sh_E h)
      exact ai_WP_steps mc_125 (sh_CM d) 3 (hR (ai_nar 1 (1 : Int32)) H)
def f_CB_append_b49 (N : Nat)  (k3 : Int32 → Int32 → sh_H → Option sh_H) (l1 : Int32) (l2 : Int32) (h : sh_H) : Option sh_H := k3 l1 (l2 + (-8 : Int32)) h
theorem x_CB_append_b49 (N : Nat) {d : Nat} (hd : 0 ≤ d) {Q : ai_Q} {R : sh_H → Prop} (hR : ∀ h, R h → Q none (sh_E h))  (k3 : Int32 → Int32 → sh_H → Option sh_H) (hk3 : ∀ (l1 : Int32) (l2 : Int32) (h : sh_H), sh_ok (k3 l1 l2 h) R → wq_148 d Q 3 [oR 11 0, oI l1, oI l2] [] (sh_E h)) (l1 : Int32) (l2 : Int32) (h : sh_H) (H : sh_ok (f_CB_append_b49 N k3 l1 l2 h) R) : wq_148 d Q 49 [oR 11 0, oI l1, oI l2] [] (sh_E h) := by
  refine ai_WP_steps mc_148 (sh_CM d) 2 ?_
  exact hk3 l1 (l2 + (-8 : Int32)) h H
def f_CB_append_c3 (N : Nat)   (k3 : Int32 → Int32 → sh_H → Option sh_H) (l1 : Int32) (l2 : Int32) (h : sh_H) : Option sh_H := (if l2 < 0 then (some h) else (if (h.1 11 0 1) < 0 then f_CB_append_b49 N k3 l1 l2 h else (if (h.1 11 0 1) < (Int32.ofNat 2000) then (if ai_in (h.1 11 0 1) 2000 then (sh_let (sh_pI h 15 0 (h.1 11 0 1).toNatClampNeg (l1 >>> (l2 &&& 31)).toInt8.toInt32.toInt8.toInt32) (fun h1 => (sh_let (sh_pI h1 11 0 1 ((h1.1 11 0 1) + (1 : Int32))) (fun h2 => f_CB_append_b49 N k3 l1 l2 h2)))) else none) else f_CB_append_b49 N k3 l1 l2 h)))
def f_CB_append_l3 (N : Nat)   (n : Nat) : Int32 → Int32 → sh_H → Option sh_H := Nat.rec (motive := fun _ => Int32 → Int32 → sh_H → Option sh_H) (fun _ _ _ => none) (fun _ k3 => f_CB_append_c3 N k3) n
theorem x_CB_append_l3 (N : Nat) {d : Nat} (hd : 0 ≤ d) {Q : ai_Q} {R : sh_H → Prop} (hR : ∀ h, R h → Q none (sh_E h))   (n : Nat) : ∀ (l1 : Int32) (l2 : Int32) (h : sh_H), sh_ok (f_CB_append_l3 N n l1 l2 h) R → wq_148 d Q 3 [oR 11 0, oI l1, oI l2] [] (sh_E h) := by
  induction n with
  | zero => intro l1 l2 h H; exact H.elim
  | succ n ih =>
    intro l1 l2 h H
    have hk3 := @ih
    replace H : sh_ok (f_CB_append_c3 N (f_CB_append_l3 N n) l1 l2 h) R := H
    revert hk3 H
    generalize f_CB_append_l3 N n = k3
    intro hk3 H
    refine ai_WP_steps mc_148 (sh_CM d) 2 (And.intro (fun c => ?_) (fun c => ?_))
    · replace H := sh_okT c H
      show wq_148 d Q 55 [oR 11 0, oI l1, oI l2] [] (sh_E h)
      exact ai_WP_steps mc_148 (sh_CM d) 1 (hR h H)
    · replace H := sh_okF c H
      show wq_148 d Q 7 [oR 11 0, oI l1, oI l2] [] (sh_E h)
      refine ai_WP_steps mc_148 (sh_CM d) 3 (And.intro (fun c => ?_) (fun c => ?_))
      · replace H := sh_okT c H
        exact x_CB_append_b49 N hd hR k3 hk3 l1 l2 h H
      · replace H := sh_okF c H
        show wq_148 d Q 14 [oR 11 0, oI l1, oI l2] [] (sh_E h)
        refine ai_WP_steps mc_148 (sh_CM d) 6 (And.intro (fun c => ?_) (fun c => ?_))
        · replace H := sh_okT c H
          show wq_148 d Q 26 [oR 11 0, oI l1, oI l2] [] (sh_E h)
          have c := sh_okG H
          replace H := sh_okH H
          refine ai_WP_steps mc_148 (sh_CM d) 9 (And.intro c ?_)
          show wq_148 d Q 39 [oR 11 0, oI l1, oI l2] [] (sh_E (sh_pI h 15 0 (h.1 11 0 1).toNatClampNeg (l1 >>> (l2 &&& 31)).toInt8.toInt32.toInt8.toInt32))
          replace H := sh_okL H
          generalize sh_pI h 15 0 (h.1 11 0 1).toNatClampNeg (l1 >>> (l2 &&& 31)).toInt8.toInt32.toInt8.toInt32 = h1 at H ⊢
          refine ai_WP_steps mc_148 (sh_CM d) 6 (And.intro trivial ?_)
          show wq_148 d Q 49 [oR 11 0, oI l1, oI l2] [] (sh_E (sh_pI h1 11 0 1 ((h1.1 11 0 1) + (1 : Int32))))
          replace H := sh_okL H
          generalize sh_pI h1 11 0 1 ((h1.1 11 0 1) + (1 : Int32)) = h2 at H ⊢
          exact x_CB_append_b49 N hd hR k3 hk3 l1 l2 h2 H
        · replace H := sh_okF c H
          exact x_CB_append_b49 N hd hR k3 hk3 l1 l2 h H
def f_CB_append (N : Nat)  (l1 : Int32) (h : sh_H) : Option sh_H := f_CB_append_l3 N N l1 (24 : Int32) h
theorem x_CB_append (N : Nat) {d : Nat} (hd : 1 ≤ d) (l1 : Int32) (h : sh_H) {Q : ai_Q} {R : sh_H → Prop} (H : sh_ok (f_CB_append N l1 h) R) (hR : ∀ h, R h → Q none (sh_E h)) : ai_Ex sh_T d 148 [aR 11 0, aI l1] (sh_E h) Q := by
  obtain ⟨d, rfl⟩ : ∃ e, d = e + 1 := ⟨d - 1, by omega⟩
  replace hd : 0 ≤ d := by omega
  refine And.intro (Nat.le_of_ble_eq_true rfl) ?_
  show wq_148 d Q 0 [oR 11 0, oI l1, none] [] (sh_E h)
  refine ai_WP_steps mc_148 (sh_CM d) 2 ?_
  exact x_CB_append_l3 N hd hR N l1 (24 : Int32) h H
def f_CB_feed (N : Nat)  (l1 : Int32) (l2 : Int32) (l3 : Int32) (l4 : Int32) (l5 : Int32) (h : sh_H) : Option (Int32 × sh_H) := (if ((Int32.ofNat 2000) - (20 : Int32)) < (h.1 11 0 1) then (some ((-1 : Int32), h)) else (Option.bind (f_CB_append N l1 h) (fun h1 => (Option.bind (f_CB_append N l2 h1) (fun h2 => (Option.bind (f_CB_append N l3 h2) (fun h3 => (Option.bind (f_CB_append N l4 h3) (fun h4 => (Option.bind (f_CB_append N l5 h4) (fun h5 => (some ((h5.1 11 0 1), h5)))))))))))))
theorem x_CB_feed (N : Nat) {d : Nat} (hd : 2 ≤ d) (l1 : Int32) (l2 : Int32) (l3 : Int32) (l4 : Int32) (l5 : Int32) (h : sh_H) {Q : ai_Q} {R : Int32 × sh_H → Prop} (H : sh_ok (f_CB_feed N l1 l2 l3 l4 l5 h) R) (hR : ∀ r h, R (r, h) → Q (some (aI r)) (sh_E h)) : ai_Ex sh_T d 147 [aR 11 0, aI l1, aI l2, aI l3, aI l4, aI l5] (sh_E h) Q := by
  obtain ⟨d, rfl⟩ : ∃ e, d = e + 1 := ⟨d - 1, by omega⟩
  replace hd : 1 ≤ d := by omega
  refine And.intro (Nat.le_of_ble_eq_true rfl) ?_
  show wq_147 d Q 0 [oR 11 0, oI l1, oI l2, oI l3, oI l4, oI l5] [] (sh_E h)
  refine ai_WP_steps mc_147 (sh_CM d) 8 (And.intro (fun c => ?_) (fun c => ?_))
  · replace H := sh_okT c H
    show wq_147 d Q 15 [oR 11 0, oI l1, oI l2, oI l3, oI l4, oI l5] [] (sh_E h)
    exact ai_WP_steps mc_147 (sh_CM d) 2 (hR (-1 : Int32) h H)
  · replace H := sh_okF c H
    show wq_147 d Q 17 [oR 11 0, oI l1, oI l2, oI l3, oI l4, oI l5] [] (sh_E h)
    refine ai_WP_steps mc_147 (sh_CM d) 3 (And.intro (Nat.le_of_ble_eq_true rfl) (x_CB_append N (Nat.le_trans (Nat.le_of_ble_eq_true rfl) hd) l1 h (sh_okB H) (fun h1 H => ?_)))
    show wq_147 d Q 22 [oR 11 0, oI l1, oI l2, oI l3, oI l4, oI l5] [] (sh_E h1)
    refine ai_WP_steps mc_147 (sh_CM d) 3 (And.intro (Nat.le_of_ble_eq_true rfl) (x_CB_append N (Nat.le_trans (Nat.le_of_ble_eq_true rfl) hd) l2 h1 (sh_okB H) (fun h2 H => ?_)))
    show wq_147 d Q 27 [oR 11 0, oI l1, oI l2, oI l3, oI l4, oI l5] [] (sh_E h2)
    refine ai_WP_steps mc_147 (sh_CM d) 3 (And.intro (Nat.le_of_ble_eq_true rfl) (x_CB_append N (Nat.le_trans (Nat.le_of_ble_eq_true rfl) hd) l3 h2 (sh_okB H) (fun h3 H => ?_)))
    show wq_147 d Q 32 [oR 11 0, oI l1, oI l2, oI l3, oI l4, oI l5] [] (sh_E h3)
    refine ai_WP_steps mc_147 (sh_CM d) 3 (And.intro (Nat.le_of_ble_eq_true rfl) (x_CB_append N (Nat.le_trans (Nat.le_of_ble_eq_true rfl) hd) l4 h3 (sh_okB H) (fun h4 H => ?_)))
    show wq_147 d Q 38 [oR 11 0, oI l1, oI l2, oI l3, oI l4, oI l5] [] (sh_E h4)
    refine ai_WP_steps mc_147 (sh_CM d) 3 (And.intro (Nat.le_of_ble_eq_true rfl) (x_CB_append N (Nat.le_trans (Nat.le_of_ble_eq_true rfl) hd) l5 h4 (sh_okB H) (fun h5 H => ?_)))
    show wq_147 d Q 44 [oR 11 0, oI l1, oI l2, oI l3, oI l4, oI l5] [] (sh_E h5)
    exact ai_WP_steps mc_147 (sh_CM d) 3 (hR (h5.1 11 0 1) h5 H)
def f_CB_back  (l1 : Int32) (h : sh_H) : Option (Int32 × sh_H) := (if l1 < 0 then (some ((-1 : Int32), h)) else (if (h.1 11 0 1) < l1 then (some ((-1 : Int32), h)) else (sh_let (sh_pI h 11 0 1 ((h.1 11 0 1) - l1)) (fun h1 => (some ((h1.1 11 0 1), h1))))))
theorem x_CB_back {d : Nat} (hd : 1 ≤ d) (l1 : Int32) (h : sh_H) {Q : ai_Q} {R : Int32 × sh_H → Prop} (H : sh_ok (f_CB_back l1 h) R) (hR : ∀ r h, R (r, h) → Q (some (aI r)) (sh_E h)) : ai_Ex sh_T d 149 [aR 11 0, aI l1] (sh_E h) Q := by
  obtain ⟨d, rfl⟩ : ∃ e, d = e + 1 := ⟨d - 1, by omega⟩
  replace hd : 0 ≤ d := by omega
  refine And.intro (Nat.le_of_ble_eq_true rfl) ?_
  show wq_149 d Q 0 [oR 11 0, oI l1] [] (sh_E h)
  refine ai_WP_steps mc_149 (sh_CM d) 2 (And.intro (fun c => ?_) (fun c => ?_))
  · replace H := sh_okT c H
    show wq_149 d Q 12 [oR 11 0, oI l1] [] (sh_E h)
    exact ai_WP_steps mc_149 (sh_CM d) 2 (hR (-1 : Int32) h H)
  · replace H := sh_okF c H
    show wq_149 d Q 4 [oR 11 0, oI l1] [] (sh_E h)
    refine ai_WP_steps mc_149 (sh_CM d) 4 (And.intro (fun c => ?_) (fun c => ?_))
    · replace H := sh_okT c H
      show wq_149 d Q 12 [oR 11 0, oI l1] [] (sh_E h)
      exact ai_WP_steps mc_149 (sh_CM d) 2 (hR (-1 : Int32) h H)
    · replace H := sh_okF c H
      show wq_149 d Q 14 [oR 11 0, oI l1] [] (sh_E h)
      refine ai_WP_steps mc_149 (sh_CM d) 6 (And.intro trivial ?_)
      show wq_149 d Q 24 [oR 11 0, oI l1] [] (sh_E (sh_pI h 11 0 1 ((h.1 11 0 1) - l1)))
      replace H := sh_okL H
      generalize sh_pI h 11 0 1 ((h.1 11 0 1) - l1) = h1 at H ⊢
      exact ai_WP_steps mc_149 (sh_CM d) 3 (hR (h1.1 11 0 1) h1 H)
def f_CB_read (N : Nat)   (h : sh_H) : Option (Int32 × sh_H) := (sh_b2 (f_Reader_examine N (h.1 11 0 1) h.2.2.2.1 h) (fun v1 h2 => (Option.bind (f_Reader_faultPlace h2) (fun v3 => (sh_let (sh_pI h2 11 0 2 v3) (fun h4 => (sh_let (sh_pI h4 11 0 1 (0 : Int32)) (fun h5 => (if v1 = 0 then (sh_let (sh_pX h5 h5.2.2.2.1) (fun h6 => (sh_let (sh_pS h6 h5.2.2.1) (fun h7 => (Option.bind (f_State_clear N 0 h7) (fun h8 => (Option.bind (f_State_clear N 1 h8) (fun h9 => (Option.bind (f_State_clear N 2 h9) (fun h10 => (some ((0 : Int32), h10)))))))))))) else (some (v1, h5)))))))))))
theorem x_CB_read (N : Nat) {d : Nat} (hd : 67 ≤ d)  (h : sh_H) {Q : ai_Q} {R : Int32 × sh_H → Prop} (H : sh_ok (f_CB_read N h) R) (hR : ∀ r h, R (r, h) → Q (some (aI r)) (sh_E h)) : ai_Ex sh_T d 150 [aR 11 0] (sh_E h) Q := by
  obtain ⟨d, rfl⟩ : ∃ e, d = e + 1 := ⟨d - 1, by omega⟩
  replace hd : 66 ≤ d := by omega
  refine And.intro (Nat.le_of_ble_eq_true rfl) ?_
  show wq_150 d Q 0 [oR 11 0, none, none] [] (sh_E h)
  refine ai_WP_steps mc_150 (sh_CM d) 9 (And.intro (Nat.le_of_ble_eq_true rfl) (x_Reader_examine N (Nat.le_trans (Nat.le_of_ble_eq_true rfl) hd) (h.1 11 0 1) h.2.2.2.1 h (sh_okB H) (fun v1 h2 H => ?_)))
  show wq_150 d Q 19 [oR 11 0, _, _] [aI v1] (sh_E h2)
  refine ai_WP_steps mc_150 (sh_CM d) 5 (And.intro (Nat.le_of_ble_eq_true rfl) (x_Reader_faultPlace (Nat.le_trans (Nat.le_of_ble_eq_true rfl) hd) h2 (sh_okB H) (fun v3 H => ?_)))
  show wq_150 d Q 28 [oR 11 0, oI v1, _] [aI v3, aR 11 0] (sh_E h2)
  refine ai_WP_steps mc_150 (sh_CM d) 1 (And.intro trivial ?_)
  show wq_150 d Q 31 [oR 11 0, oI v1, _] [] (sh_E (sh_pI h2 11 0 2 v3))
  replace H := sh_okL H
  generalize sh_pI h2 11 0 2 v3 = h4 at H ⊢
  refine ai_WP_steps mc_150 (sh_CM d) 3 (And.intro trivial ?_)
  show wq_150 d Q 36 [oR 11 0, oI v1, _] [] (sh_E (sh_pI h4 11 0 1 (0 : Int32)))
  replace H := sh_okL H
  generalize sh_pI h4 11 0 1 (0 : Int32) = h5 at H ⊢
  refine ai_WP_steps mc_150 (sh_CM d) 2 (And.intro (fun c => ?_) (fun c => ?_))
  · replace H := sh_okT c H
    show wq_150 d Q 42 [oR 11 0, oI v1, _] [] (sh_E h5)
    refine ai_WP_steps mc_150 (sh_CM d) 7 ?_
    show ai_WP cd_150 (ai_Ex sh_T d) Q 0 0 55 [oR 11 0, _, oR 9 h5.2.2.1] [] ((sh_E h5).1, (sh_E h5).2.1, ai_up3 (sh_E h5).2.2.1 11 0 3 (h5.2.2.2.1 + 1), (sh_E h5).2.2.2)
    rw [sh_E_pX]
    show wq_150 d Q 55 [oR 11 0, _, oR 9 h5.2.2.1] [] (sh_E (sh_pX h5 h5.2.2.2.1))
    replace H := sh_okL H
    generalize sh_pX h5 h5.2.2.2.1 = h6 at H ⊢
    refine ai_WP_steps mc_150 (sh_CM d) 3 ?_
    show ai_WP cd_150 (ai_Ex sh_T d) Q 0 0 60 [oR 11 0, _, oR 9 h5.2.2.1] [] ((sh_E h6).1, (sh_E h6).2.1, ai_up3 (sh_E h6).2.2.1 11 0 4 (h5.2.2.1 + 1), (sh_E h6).2.2.2)
    rw [sh_E_pS]
    show wq_150 d Q 60 [oR 11 0, _, oR 9 h5.2.2.1] [] (sh_E (sh_pS h6 h5.2.2.1))
    replace H := sh_okL H
    generalize sh_pS h6 h5.2.2.1 = h7 at H ⊢
    refine ai_WP_steps mc_150 (sh_CM d) 3 (And.intro (Nat.le_of_ble_eq_true rfl) (x_State_clear N (Nat.le_trans (Nat.le_of_ble_eq_true rfl) hd) 0 h7 (sh_okB H) (fun h8 H => ?_)))
    show wq_150 d Q 67 [oR 11 0, _, oR 9 h5.2.2.1] [] (sh_E h8)
    refine ai_WP_steps mc_150 (sh_CM d) 3 (And.intro (Nat.le_of_ble_eq_true rfl) (x_State_clear N (Nat.le_trans (Nat.le_of_ble_eq_true rfl) hd) 1 h8 (sh_okB H) (fun h9 H => ?_)))
    show wq_150 d Q 74 [oR 11 0, _, oR 9 h5.2.2.1] [] (sh_E h9)
    refine ai_WP_steps mc_150 (sh_CM d) 3 (And.intro (Nat.le_of_ble_eq_true rfl) (x_State_clear N (Nat.le_trans (Nat.le_of_ble_eq_true rfl) hd) 2 h9 (sh_okB H) (fun h10 H => ?_)))
    show wq_150 d Q 81 [oR 11 0, _, oR 9 h5.2.2.1] [] (sh_E h10)
    exact ai_WP_steps mc_150 (sh_CM d) 2 (hR (0 : Int32) h10 H)
  · replace H := sh_okF c H
    show wq_150 d Q 40 [oR 11 0, oI v1, _] [] (sh_E h5)
    exact ai_WP_steps mc_150 (sh_CM d) 2 (hR v1 h5 H)
def f_CB_place   (h : sh_H) : Option Int32 := (some (h.1 11 0 2))
theorem x_CB_place {d : Nat} (hd : 1 ≤ d)  (h : sh_H) {Q : ai_Q} {R : Int32 → Prop} (H : sh_ok (f_CB_place h) R) (hR : ∀ r, R r → Q (some (aI r)) (sh_E h)) : ai_Ex sh_T d 151 [aR 11 0] (sh_E h) Q := by
  obtain ⟨d, rfl⟩ : ∃ e, d = e + 1 := ⟨d - 1, by omega⟩
  replace hd : 0 ≤ d := by omega
  refine And.intro (Nat.le_of_ble_eq_true rfl) ?_
  show wq_151 d Q 0 [oR 11 0] [] (sh_E h)
  exact ai_WP_steps mc_151 (sh_CM d) 3 (hR (h.1 11 0 2) H)
def f_CB_within_b14    (h : sh_H) : Option Int32 := (some (ai_nar 1 (0 : Int32)))
theorem x_CB_within_b14 {d : Nat} (hd : 0 ≤ d) (h : sh_H) {Q : ai_Q} {R : Int32 → Prop} (hR : ∀ r, R r → Q (some (aI r)) (sh_E h))    {d0 d1 d2 : Option ai_V} (H : sh_ok (f_CB_within_b14 h) R) : wq_204 d Q 14 [d0, d1, d2] [] (sh_E h) := by
  exact ai_WP_steps mc_204 (sh_CM d) 2 (hR (ai_nar 1 (0 : Int32)) H)
def f_CB_within  (l0 : Int32) (l1 : Int32) (l2 : Int32) (h : sh_H) : Option Int32 := (if l0 < l1 then f_CB_within_b14 h else (if l2 < l0 then f_CB_within_b14 h else (some (ai_nar 1 (1 : Int32)))))
theorem x_CB_within {d : Nat} (hd : 1 ≤ d) (l0 : Int32) (l1 : Int32) (l2 : Int32) (h : sh_H) {Q : ai_Q} {R : Int32 → Prop} (H : sh_ok (f_CB_within l0 l1 l2 h) R) (hR : ∀ r, R r → Q (some (aI r)) (sh_E h)) : ai_Ex sh_T d 204 [aI l0, aI l1, aI l2] (sh_E h) Q := by
  obtain ⟨d, rfl⟩ : ∃ e, d = e + 1 := ⟨d - 1, by omega⟩
  replace hd : 0 ≤ d := by omega
  refine And.intro (Nat.le_of_ble_eq_true rfl) ?_
  show wq_204 d Q 0 [oI l0, oI l1, oI l2] [] (sh_E h)
  refine ai_WP_steps mc_204 (sh_CM d) 3 (And.intro (fun c => ?_) (fun c => ?_))
  · replace H := sh_okT c H
    exact x_CB_within_b14 hd h hR H
  · replace H := sh_okF c H
    show wq_204 d Q 5 [oI l0, oI l1, oI l2] [] (sh_E h)
    refine ai_WP_steps mc_204 (sh_CM d) 3 (And.intro (fun c => ?_) (fun c => ?_))
    · replace H := sh_okT c H
      exact x_CB_within_b14 hd h hR H
    · replace H := sh_okF c H
      show wq_204 d Q 10 [oI l0, oI l1, oI l2] [] (sh_E h)
      exact ai_WP_steps mc_204 (sh_CM d) 3 (hR (ai_nar 1 (1 : Int32)) H)
def f_CB_kind_b25   (l1 : Int32) (l2 : Int32) (s0 : Int32) (h : sh_H) : Option Int32 := (if s0 = 0 then (some (-1 : Int32)) else (Option.bind (f_Rows_get (7 * h.2.2.1 + 0) l1 l2 h) (fun v1 => (some v1))))
theorem x_CB_kind_b25 {d : Nat} (hd : 2 ≤ d) (h : sh_H) {Q : ai_Q} {R : Int32 → Prop} (hR : ∀ r, R r → Q (some (aI r)) (sh_E h))   (l1 : Int32) (l2 : Int32) (s0 : Int32) {d3 : Option ai_V} (H : sh_ok (f_CB_kind_b25 l1 l2 s0 h) R) : wq_152 d Q 25 [oR 11 0, oI l1, oI l2, d3] [aI s0] (sh_E h) := by
  refine ai_WP_steps mc_152 (sh_CM d) 3 (And.intro (fun c => ?_) (fun c => ?_))
  · replace H := sh_okT c H
    show wq_152 d Q 45 [oR 11 0, oI l1, oI l2, oI s0] [] (sh_E h)
    exact ai_WP_steps mc_152 (sh_CM d) 2 (hR (-1 : Int32) H)
  · replace H := sh_okF c H
    show wq_152 d Q 30 [oR 11 0, oI l1, oI l2, oI s0] [] (sh_E h)
    refine ai_WP_steps mc_152 (sh_CM d) 6 (And.intro (Nat.le_of_ble_eq_true rfl) (x_Rows_get (Nat.le_trans (Nat.le_of_ble_eq_true rfl) hd) (7 * h.2.2.1 + 0) l1 l2 h (sh_okB H) (fun v1 H => ?_)))
    show wq_152 d Q 42 [oR 11 0, oI l1, oI l2, oI s0] [aI v1] (sh_E h)
    exact ai_WP_steps mc_152 (sh_CM d) 2 (hR v1 H)
def f_CB_kind_b24   (l1 : Int32) (l2 : Int32) (h : sh_H) : Option Int32 := f_CB_kind_b25 l1 l2 (0 : Int32) h
theorem x_CB_kind_b24 {d : Nat} (hd : 2 ≤ d) (h : sh_H) {Q : ai_Q} {R : Int32 → Prop} (hR : ∀ r, R r → Q (some (aI r)) (sh_E h))   (l1 : Int32) (l2 : Int32) {d3 : Option ai_V} (H : sh_ok (f_CB_kind_b24 l1 l2 h) R) : wq_152 d Q 24 [oR 11 0, oI l1, oI l2, d3] [] (sh_E h) := by
  refine ai_WP_steps mc_152 (sh_CM d) 1 ?_
  exact x_CB_kind_b25 hd h hR l1 l2 (0 : Int32) H
def f_CB_kind  (l1 : Int32) (l2 : Int32) (h : sh_H) : Option Int32 := (Option.bind (f_Text_isKind h.2.2.1 l1 h) (fun v2 => (if v2 = 0 then f_CB_kind_b24 l1 l2 h else (Option.bind (f_CB_within l2 (0 : Int32) (2 : Int32) h) (fun v3 => (if v3 = 0 then f_CB_kind_b24 l1 l2 h else f_CB_kind_b25 l1 l2 (1 : Int32) h))))))
theorem x_CB_kind {d : Nat} (hd : 3 ≤ d) (l1 : Int32) (l2 : Int32) (h : sh_H) {Q : ai_Q} {R : Int32 → Prop} (H : sh_ok (f_CB_kind l1 l2 h) R) (hR : ∀ r, R r → Q (some (aI r)) (sh_E h)) : ai_Ex sh_T d 152 [aR 11 0, aI l1, aI l2] (sh_E h) Q := by
  obtain ⟨d, rfl⟩ : ∃ e, d = e + 1 := ⟨d - 1, by omega⟩
  replace hd : 2 ≤ d := by omega
  refine And.intro (Nat.le_of_ble_eq_true rfl) ?_
  show wq_152 d Q 0 [oR 11 0, oI l1, oI l2, none] [] (sh_E h)
  refine ai_WP_steps mc_152 (sh_CM d) 4 (And.intro (Nat.le_of_ble_eq_true rfl) (x_Text_isKind (Nat.le_trans (Nat.le_of_ble_eq_true rfl) hd) h.2.2.1 l1 h (sh_okB H) (fun v2 H => ?_)))
  show wq_152 d Q 8 [oR 11 0, oI l1, oI l2, _] [aI v2] (sh_E h)
  refine ai_WP_steps mc_152 (sh_CM d) 1 (And.intro (fun c => ?_) (fun c => ?_))
  · replace H := sh_okT c H
    exact x_CB_kind_b24 hd h hR l1 l2 H
  · replace H := sh_okF c H
    show wq_152 d Q 11 [oR 11 0, oI l1, oI l2, _] [] (sh_E h)
    refine ai_WP_steps mc_152 (sh_CM d) 4 (And.intro (Nat.le_of_ble_eq_true rfl) (x_CB_within (Nat.le_trans (Nat.le_of_ble_eq_true rfl) hd) l2 (0 : Int32) (2 : Int32) h (sh_okB H) (fun v3 H => ?_)))
    show wq_152 d Q 17 [oR 11 0, oI l1, oI l2, _] [aI v3] (sh_E h)
    refine ai_WP_steps mc_152 (sh_CM d) 1 (And.intro (fun c => ?_) (fun c => ?_))
    · replace H := sh_okT c H
      exact x_CB_kind_b24 hd h hR l1 l2 H
    · replace H := sh_okF c H
      show wq_152 d Q 20 [oR 11 0, oI l1, oI l2, _] [] (sh_E h)
      refine ai_WP_steps mc_152 (sh_CM d) 2 ?_
      exact x_CB_kind_b25 hd h hR l1 l2 (1 : Int32) H
def f_CB_island_b25   (l1 : Int32) (l2 : Int32) (s0 : Int32) (h : sh_H) : Option Int32 := (if s0 = 0 then (some (-1 : Int32)) else (Option.bind (f_Rows_get (7 * h.2.2.1 + 1) (l1 - (1 : Int32)) l2 h) (fun v1 => (some v1))))
theorem x_CB_island_b25 {d : Nat} (hd : 2 ≤ d) (h : sh_H) {Q : ai_Q} {R : Int32 → Prop} (hR : ∀ r, R r → Q (some (aI r)) (sh_E h))   (l1 : Int32) (l2 : Int32) (s0 : Int32) {d3 : Option ai_V} (H : sh_ok (f_CB_island_b25 l1 l2 s0 h) R) : wq_153 d Q 25 [oR 11 0, oI l1, oI l2, d3] [aI s0] (sh_E h) := by
  refine ai_WP_steps mc_153 (sh_CM d) 3 (And.intro (fun c => ?_) (fun c => ?_))
  · replace H := sh_okT c H
    show wq_153 d Q 47 [oR 11 0, oI l1, oI l2, oI s0] [] (sh_E h)
    exact ai_WP_steps mc_153 (sh_CM d) 2 (hR (-1 : Int32) H)
  · replace H := sh_okF c H
    show wq_153 d Q 30 [oR 11 0, oI l1, oI l2, oI s0] [] (sh_E h)
    refine ai_WP_steps mc_153 (sh_CM d) 8 (And.intro (Nat.le_of_ble_eq_true rfl) (x_Rows_get (Nat.le_trans (Nat.le_of_ble_eq_true rfl) hd) (7 * h.2.2.1 + 1) (l1 - (1 : Int32)) l2 h (sh_okB H) (fun v1 H => ?_)))
    show wq_153 d Q 44 [oR 11 0, oI l1, oI l2, oI s0] [aI v1] (sh_E h)
    exact ai_WP_steps mc_153 (sh_CM d) 2 (hR v1 H)
def f_CB_island_b24   (l1 : Int32) (l2 : Int32) (h : sh_H) : Option Int32 := f_CB_island_b25 l1 l2 (0 : Int32) h
theorem x_CB_island_b24 {d : Nat} (hd : 2 ≤ d) (h : sh_H) {Q : ai_Q} {R : Int32 → Prop} (hR : ∀ r, R r → Q (some (aI r)) (sh_E h))   (l1 : Int32) (l2 : Int32) {d3 : Option ai_V} (H : sh_ok (f_CB_island_b24 l1 l2 h) R) : wq_153 d Q 24 [oR 11 0, oI l1, oI l2, d3] [] (sh_E h) := by
  refine ai_WP_steps mc_153 (sh_CM d) 1 ?_
  exact x_CB_island_b25 hd h hR l1 l2 (0 : Int32) H
def f_CB_island  (l1 : Int32) (l2 : Int32) (h : sh_H) : Option Int32 := (Option.bind (f_Text_isIsland h.2.2.1 l1 h) (fun v2 => (if v2 = 0 then f_CB_island_b24 l1 l2 h else (Option.bind (f_CB_within l2 (0 : Int32) (1 : Int32) h) (fun v3 => (if v3 = 0 then f_CB_island_b24 l1 l2 h else f_CB_island_b25 l1 l2 (1 : Int32) h))))))
theorem x_CB_island {d : Nat} (hd : 3 ≤ d) (l1 : Int32) (l2 : Int32) (h : sh_H) {Q : ai_Q} {R : Int32 → Prop} (H : sh_ok (f_CB_island l1 l2 h) R) (hR : ∀ r, R r → Q (some (aI r)) (sh_E h)) : ai_Ex sh_T d 153 [aR 11 0, aI l1, aI l2] (sh_E h) Q := by
  obtain ⟨d, rfl⟩ : ∃ e, d = e + 1 := ⟨d - 1, by omega⟩
  replace hd : 2 ≤ d := by omega
  refine And.intro (Nat.le_of_ble_eq_true rfl) ?_
  show wq_153 d Q 0 [oR 11 0, oI l1, oI l2, none] [] (sh_E h)
  refine ai_WP_steps mc_153 (sh_CM d) 4 (And.intro (Nat.le_of_ble_eq_true rfl) (x_Text_isIsland (Nat.le_trans (Nat.le_of_ble_eq_true rfl) hd) h.2.2.1 l1 h (sh_okB H) (fun v2 H => ?_)))
  show wq_153 d Q 8 [oR 11 0, oI l1, oI l2, _] [aI v2] (sh_E h)
  refine ai_WP_steps mc_153 (sh_CM d) 1 (And.intro (fun c => ?_) (fun c => ?_))
  · replace H := sh_okT c H
    exact x_CB_island_b24 hd h hR l1 l2 H
  · replace H := sh_okF c H
    show wq_153 d Q 11 [oR 11 0, oI l1, oI l2, _] [] (sh_E h)
    refine ai_WP_steps mc_153 (sh_CM d) 4 (And.intro (Nat.le_of_ble_eq_true rfl) (x_CB_within (Nat.le_trans (Nat.le_of_ble_eq_true rfl) hd) l2 (0 : Int32) (1 : Int32) h (sh_okB H) (fun v3 H => ?_)))
    show wq_153 d Q 17 [oR 11 0, oI l1, oI l2, _] [aI v3] (sh_E h)
    refine ai_WP_steps mc_153 (sh_CM d) 1 (And.intro (fun c => ?_) (fun c => ?_))
    · replace H := sh_okT c H
      exact x_CB_island_b24 hd h hR l1 l2 H
    · replace H := sh_okF c H
      show wq_153 d Q 20 [oR 11 0, oI l1, oI l2, _] [] (sh_E h)
      refine ai_WP_steps mc_153 (sh_CM d) 2 ?_
      exact x_CB_island_b25 hd h hR l1 l2 (1 : Int32) H
def f_CB_isMonth  (l0 : Int32) (h : sh_H) : Option Int32 := (Option.bind (f_CB_within l0 (0 : Int32) (11 : Int32) h) (fun v1 => (some (ai_nar 1 v1))))
theorem x_CB_isMonth {d : Nat} (hd : 2 ≤ d) (l0 : Int32) (h : sh_H) {Q : ai_Q} {R : Int32 → Prop} (H : sh_ok (f_CB_isMonth l0 h) R) (hR : ∀ r, R r → Q (some (aI r)) (sh_E h)) : ai_Ex sh_T d 203 [aI l0] (sh_E h) Q := by
  obtain ⟨d, rfl⟩ : ∃ e, d = e + 1 := ⟨d - 1, by omega⟩
  replace hd : 1 ≤ d := by omega
  refine And.intro (Nat.le_of_ble_eq_true rfl) ?_
  show wq_203 d Q 0 [oI l0] [] (sh_E h)
  refine ai_WP_steps mc_203 (sh_CM d) 4 (And.intro (Nat.le_of_ble_eq_true rfl) (x_CB_within (Nat.le_trans (Nat.le_of_ble_eq_true rfl) hd) l0 (0 : Int32) (11 : Int32) h (sh_okB H) (fun v1 H => ?_)))
  show wq_203 d Q 7 [oI l0] [aI v1] (sh_E h)
  exact ai_WP_steps mc_203 (sh_CM d) 1 (hR (ai_nar 1 v1) H)
def f_CB_boat (N : Nat)  (l1 : Int32) (l2 : Int32) (h : sh_H) : Option Int32 := (Option.bind (f_Text_isIsland h.2.2.1 l1 h) (fun v1 => (if v1 = 0 then (some (-1 : Int32)) else (Option.bind (f_CB_isMonth l2 h) (fun v2 => (if v2 = 0 then (some (-1 : Int32)) else (Option.bind (f_Text_boatOf N h.2.2.1 l1 l2 h) (fun v3 => (if v3 = (-1 : Int32) then (some (-2 : Int32)) else (some v3))))))))))
theorem x_CB_boat (N : Nat) {d : Nat} (hd : 4 ≤ d) (l1 : Int32) (l2 : Int32) (h : sh_H) {Q : ai_Q} {R : Int32 → Prop} (H : sh_ok (f_CB_boat N l1 l2 h) R) (hR : ∀ r, R r → Q (some (aI r)) (sh_E h)) : ai_Ex sh_T d 154 [aR 11 0, aI l1, aI l2] (sh_E h) Q := by
  obtain ⟨d, rfl⟩ : ∃ e, d = e + 1 := ⟨d - 1, by omega⟩
  replace hd : 3 ≤ d := by omega
  refine And.intro (Nat.le_of_ble_eq_true rfl) ?_
  show wq_154 d Q 0 [oR 11 0, oI l1, oI l2, none] [] (sh_E h)
  refine ai_WP_steps mc_154 (sh_CM d) 4 (And.intro (Nat.le_of_ble_eq_true rfl) (x_Text_isIsland (Nat.le_trans (Nat.le_of_ble_eq_true rfl) hd) h.2.2.1 l1 h (sh_okB H) (fun v1 H => ?_)))
  show wq_154 d Q 8 [oR 11 0, oI l1, oI l2, _] [aI v1] (sh_E h)
  refine ai_WP_steps mc_154 (sh_CM d) 1 (And.intro (fun c => ?_) (fun c => ?_))
  · replace H := sh_okT c H
    show wq_154 d Q 18 [oR 11 0, oI l1, oI l2, _] [] (sh_E h)
    exact ai_WP_steps mc_154 (sh_CM d) 2 (hR (-1 : Int32) H)
  · replace H := sh_okF c H
    show wq_154 d Q 11 [oR 11 0, oI l1, oI l2, _] [] (sh_E h)
    refine ai_WP_steps mc_154 (sh_CM d) 2 (And.intro (Nat.le_of_ble_eq_true rfl) (x_CB_isMonth (Nat.le_trans (Nat.le_of_ble_eq_true rfl) hd) l2 h (sh_okB H) (fun v2 H => ?_)))
    show wq_154 d Q 15 [oR 11 0, oI l1, oI l2, _] [aI v2] (sh_E h)
    refine ai_WP_steps mc_154 (sh_CM d) 1 (And.intro (fun c => ?_) (fun c => ?_))
    · replace H := sh_okT c H
      show wq_154 d Q 18 [oR 11 0, oI l1, oI l2, _] [] (sh_E h)
      exact ai_WP_steps mc_154 (sh_CM d) 2 (hR (-1 : Int32) H)
    · replace H := sh_okF c H
      show wq_154 d Q 20 [oR 11 0, oI l1, oI l2, _] [] (sh_E h)
      refine ai_WP_steps mc_154 (sh_CM d) 5 (And.intro (Nat.le_of_ble_eq_true rfl) (x_Text_boatOf N (Nat.le_trans (Nat.le_of_ble_eq_true rfl) hd) h.2.2.1 l1 l2 h (sh_okB H) (fun v3 H => ?_)))
      show wq_154 d Q 29 [oR 11 0, oI l1, oI l2, _] [aI v3] (sh_E h)
      refine ai_WP_steps mc_154 (sh_CM d) 4 (And.intro (fun c => ?_) (fun c => ?_))
      · replace H := sh_okT c H
        show wq_154 d Q 35 [oR 11 0, oI l1, _, oI v3] [] (sh_E h)
        exact ai_WP_steps mc_154 (sh_CM d) 3 (hR (-2 : Int32) H)
      · replace H := sh_okF c H
        show wq_154 d Q 40 [oR 11 0, oI l1, _, oI v3] [] (sh_E h)
        exact ai_WP_steps mc_154 (sh_CM d) 2 (hR v3 H)
def f_CB_isOf_b26    (h : sh_H) : Option Int32 := (some (ai_nar 1 (0 : Int32)))
theorem x_CB_isOf_b26 {d : Nat} (hd : 2 ≤ d) (h : sh_H) {Q : ai_Q} {R : Int32 → Prop} (hR : ∀ r, R r → Q (some (aI r)) (sh_E h))    {d0 d1 d2 : Option ai_V} (H : sh_ok (f_CB_isOf_b26 h) R) : wq_196 d Q 26 [d0, d1, d2] [] (sh_E h) := by
  exact ai_WP_steps mc_196 (sh_CM d) 2 (hR (ai_nar 1 (0 : Int32)) H)
def f_CB_isOf  (l1 : Int32) (l2 : Int32) (h : sh_H) : Option Int32 := (Option.bind (f_Text_isIsland h.2.2.1 l1 h) (fun v1 => (if v1 = 0 then f_CB_isOf_b26 h else (Option.bind (f_Text_isKind h.2.2.1 l2 h) (fun v2 => (if v2 = 0 then f_CB_isOf_b26 h else (some (ai_nar 1 (1 : Int32)))))))))
theorem x_CB_isOf {d : Nat} (hd : 3 ≤ d) (l1 : Int32) (l2 : Int32) (h : sh_H) {Q : ai_Q} {R : Int32 → Prop} (H : sh_ok (f_CB_isOf l1 l2 h) R) (hR : ∀ r, R r → Q (some (aI r)) (sh_E h)) : ai_Ex sh_T d 196 [aR 11 0, aI l1, aI l2] (sh_E h) Q := by
  obtain ⟨d, rfl⟩ : ∃ e, d = e + 1 := ⟨d - 1, by omega⟩
  replace hd : 2 ≤ d := by omega
  refine And.intro (Nat.le_of_ble_eq_true rfl) ?_
  show wq_196 d Q 0 [oR 11 0, oI l1, oI l2] [] (sh_E h)
  refine ai_WP_steps mc_196 (sh_CM d) 4 (And.intro (Nat.le_of_ble_eq_true rfl) (x_Text_isIsland (Nat.le_trans (Nat.le_of_ble_eq_true rfl) hd) h.2.2.1 l1 h (sh_okB H) (fun v1 H => ?_)))
  show wq_196 d Q 8 [oR 11 0, oI l1, oI l2] [aI v1] (sh_E h)
  refine ai_WP_steps mc_196 (sh_CM d) 1 (And.intro (fun c => ?_) (fun c => ?_))
  · replace H := sh_okT c H
    exact x_CB_isOf_b26 hd h hR H
  · replace H := sh_okF c H
    show wq_196 d Q 11 [oR 11 0, oI l1, oI l2] [] (sh_E h)
    refine ai_WP_steps mc_196 (sh_CM d) 4 (And.intro (Nat.le_of_ble_eq_true rfl) (x_Text_isKind (Nat.le_trans (Nat.le_of_ble_eq_true rfl) hd) h.2.2.1 l2 h (sh_okB H) (fun v2 H => ?_)))
    show wq_196 d Q 19 [oR 11 0, oI l1, oI l2] [aI v2] (sh_E h)
    refine ai_WP_steps mc_196 (sh_CM d) 1 (And.intro (fun c => ?_) (fun c => ?_))
    · replace H := sh_okT c H
      exact x_CB_isOf_b26 hd h hR H
    · replace H := sh_okF c H
      show wq_196 d Q 22 [oR 11 0, oI l1, oI l2] [] (sh_E h)
      exact ai_WP_steps mc_196 (sh_CM d) 3 (hR (ai_nar 1 (1 : Int32)) H)
def f_CB_want_b21 (N : Nat)   (l1 : Int32) (l2 : Int32) (l3 : Int32) (s0 : Int32) (h : sh_H) : Option (Int32 × sh_H) := (if s0 = 0 then (some ((-1 : Int32), h)) else (sh_b2 (f_Text_wanted N h.2.2.1 l1 l2 l3 h) (fun v1 h2 => (some (v1, h2)))))
theorem x_CB_want_b21 (N : Nat) {d : Nat} (hd : 4 ≤ d) {Q : ai_Q} {R : Int32 × sh_H → Prop} (hR : ∀ r h, R (r, h) → Q (some (aI r)) (sh_E h))   (l1 : Int32) (l2 : Int32) (l3 : Int32) (s0 : Int32) {d4 : Option ai_V} (h : sh_H) (H : sh_ok (f_CB_want_b21 N l1 l2 l3 s0 h) R) : wq_155 d Q 21 [oR 11 0, oI l1, oI l2, oI l3, d4] [aI s0] (sh_E h) := by
  refine ai_WP_steps mc_155 (sh_CM d) 3 (And.intro (fun c => ?_) (fun c => ?_))
  · replace H := sh_okT c H
    show wq_155 d Q 41 [oR 11 0, oI l1, oI l2, oI l3, oI s0] [] (sh_E h)
    exact ai_WP_steps mc_155 (sh_CM d) 2 (hR (-1 : Int32) h H)
  · replace H := sh_okF c H
    show wq_155 d Q 28 [oR 11 0, oI l1, oI l2, oI l3, oI s0] [] (sh_E h)
    refine ai_WP_steps mc_155 (sh_CM d) 6 (And.intro (Nat.le_of_ble_eq_true rfl) (x_Text_wanted N (Nat.le_trans (Nat.le_of_ble_eq_true rfl) hd) h.2.2.1 l1 l2 l3 h (sh_okB H) (fun v1 h2 H => ?_)))
    show wq_155 d Q 38 [oR 11 0, oI l1, oI l2, oI l3, oI s0] [aI v1] (sh_E h2)
    exact ai_WP_steps mc_155 (sh_CM d) 2 (hR v1 h2 H)
def f_CB_want_b20 (N : Nat)   (l1 : Int32) (l2 : Int32) (l3 : Int32) (h : sh_H) : Option (Int32 × sh_H) := f_CB_want_b21 N l1 l2 l3 (0 : Int32) h
theorem x_CB_want_b20 (N : Nat) {d : Nat} (hd : 4 ≤ d) {Q : ai_Q} {R : Int32 × sh_H → Prop} (hR : ∀ r h, R (r, h) → Q (some (aI r)) (sh_E h))   (l1 : Int32) (l2 : Int32) (l3 : Int32) {d4 : Option ai_V} (h : sh_H) (H : sh_ok (f_CB_want_b20 N l1 l2 l3 h) R) : wq_155 d Q 20 [oR 11 0, oI l1, oI l2, oI l3, d4] [] (sh_E h) := by
  refine ai_WP_steps mc_155 (sh_CM d) 1 ?_
  exact x_CB_want_b21 N hd hR l1 l2 l3 (0 : Int32) h H
def f_CB_want (N : Nat)  (l1 : Int32) (l2 : Int32) (l3 : Int32) (h : sh_H) : Option (Int32 × sh_H) := (Option.bind (f_CB_isOf l1 l2 h) (fun v3 => (if v3 = 0 then f_CB_want_b20 N l1 l2 l3 h else (Option.bind (f_CB_isMonth l3 h) (fun v4 => (if v4 = 0 then f_CB_want_b20 N l1 l2 l3 h else f_CB_want_b21 N l1 l2 l3 (1 : Int32) h))))))
theorem x_CB_want (N : Nat) {d : Nat} (hd : 5 ≤ d) (l1 : Int32) (l2 : Int32) (l3 : Int32) (h : sh_H) {Q : ai_Q} {R : Int32 × sh_H → Prop} (H : sh_ok (f_CB_want N l1 l2 l3 h) R) (hR : ∀ r h, R (r, h) → Q (some (aI r)) (sh_E h)) : ai_Ex sh_T d 155 [aR 11 0, aI l1, aI l2, aI l3] (sh_E h) Q := by
  obtain ⟨d, rfl⟩ : ∃ e, d = e + 1 := ⟨d - 1, by omega⟩
  replace hd : 4 ≤ d := by omega
  refine And.intro (Nat.le_of_ble_eq_true rfl) ?_
  show wq_155 d Q 0 [oR 11 0, oI l1, oI l2, oI l3, none] [] (sh_E h)
  refine ai_WP_steps mc_155 (sh_CM d) 4 (And.intro (Nat.le_of_ble_eq_true rfl) (x_CB_isOf (Nat.le_trans (Nat.le_of_ble_eq_true rfl) hd) l1 l2 h (sh_okB H) (fun v3 H => ?_)))
  show wq_155 d Q 6 [oR 11 0, oI l1, oI l2, oI l3, _] [aI v3] (sh_E h)
  refine ai_WP_steps mc_155 (sh_CM d) 1 (And.intro (fun c => ?_) (fun c => ?_))
  · replace H := sh_okT c H
    exact x_CB_want_b20 N hd hR l1 l2 l3 h H
  · replace H := sh_okF c H
    show wq_155 d Q 9 [oR 11 0, oI l1, oI l2, oI l3, _] [] (sh_E h)
    refine ai_WP_steps mc_155 (sh_CM d) 2 (And.intro (Nat.le_of_ble_eq_true rfl) (x_CB_isMonth (Nat.le_trans (Nat.le_of_ble_eq_true rfl) hd) l3 h (sh_okB H) (fun v4 H => ?_)))
    show wq_155 d Q 13 [oR 11 0, oI l1, oI l2, oI l3, _] [aI v4] (sh_E h)
    refine ai_WP_steps mc_155 (sh_CM d) 1 (And.intro (fun c => ?_) (fun c => ?_))
    · replace H := sh_okT c H
      exact x_CB_want_b20 N hd hR l1 l2 l3 h H
    · replace H := sh_okF c H
      show wq_155 d Q 16 [oR 11 0, oI l1, oI l2, oI l3, _] [] (sh_E h)
      refine ai_WP_steps mc_155 (sh_CM d) 2 ?_
      exact x_CB_want_b21 N hd hR l1 l2 l3 (1 : Int32) h H
def f_CB_strike (N : Nat)  (l1 : Int32) (l2 : Int32) (h : sh_H) : Option (Int32 × sh_H) := (Option.bind (f_Text_isKind h.2.2.1 l1 h) (fun v1 => (if v1 = 0 then (some ((-1 : Int32), h)) else (Option.bind (f_CB_within l2 (1 : Int32) (9999 : Int32) h) (fun v2 => (if v2 = 0 then (some ((-1 : Int32), h)) else (Option.bind (f_Pieces_get 0 (0 : Int32) l1 (0 : Int32) h) (fun v3 => (if ((999999 : Int32) - l2) < v3 then (some ((-1 : Int32), h)) else (Option.bind (f_Pieces_add 0 (0 : Int32) l1 (0 : Int32) l2 h) (fun h4 => (Option.bind (f_Rows_get (7 * h4.2.2.1 + 0) l1 (2 : Int32) h4) (fun v5 => (sh_let (sh_pJ h4 7 0 7 ((h4.2.1 7 0 7) + (l2.toInt64 * v5.toInt64))) (fun h6 => (Option.bind (f_Pieces_all N 0 (0 : Int32) l1 h6) (fun v7 => (some (v7, h6)))))))))))))))))))
theorem x_CB_strike (N : Nat) {d : Nat} (hd : 5 ≤ d) (l1 : Int32) (l2 : Int32) (h : sh_H) {Q : ai_Q} {R : Int32 × sh_H → Prop} (H : sh_ok (f_CB_strike N l1 l2 h) R) (hR : ∀ r h, R (r, h) → Q (some (aI r)) (sh_E h)) : ai_Ex sh_T d 156 [aR 11 0, aI l1, aI l2] (sh_E h) Q := by
  obtain ⟨d, rfl⟩ : ∃ e, d = e + 1 := ⟨d - 1, by omega⟩
  replace hd : 4 ≤ d := by omega
  refine And.intro (Nat.le_of_ble_eq_true rfl) ?_
  show wq_156 d Q 0 [oR 11 0, oI l1, oI l2] [] (sh_E h)
  refine ai_WP_steps mc_156 (sh_CM d) 4 (And.intro (Nat.le_of_ble_eq_true rfl) (x_Text_isKind (Nat.le_trans (Nat.le_of_ble_eq_true rfl) hd) h.2.2.1 l1 h (sh_okB H) (fun v1 H => ?_)))
  show wq_156 d Q 8 [oR 11 0, oI l1, oI l2] [aI v1] (sh_E h)
  refine ai_WP_steps mc_156 (sh_CM d) 1 (And.intro (fun c => ?_) (fun c => ?_))
  · replace H := sh_okT c H
    show wq_156 d Q 42 [oR 11 0, oI l1, oI l2] [] (sh_E h)
    exact ai_WP_steps mc_156 (sh_CM d) 2 (hR (-1 : Int32) h H)
  · replace H := sh_okF c H
    show wq_156 d Q 11 [oR 11 0, oI l1, oI l2] [] (sh_E h)
    refine ai_WP_steps mc_156 (sh_CM d) 4 (And.intro (Nat.le_of_ble_eq_true rfl) (x_CB_within (Nat.le_trans (Nat.le_of_ble_eq_true rfl) hd) l2 (1 : Int32) (9999 : Int32) h (sh_okB H) (fun v2 H => ?_)))
    show wq_156 d Q 19 [oR 11 0, oI l1, oI l2] [aI v2] (sh_E h)
    refine ai_WP_steps mc_156 (sh_CM d) 1 (And.intro (fun c => ?_) (fun c => ?_))
    · replace H := sh_okT c H
      show wq_156 d Q 42 [oR 11 0, oI l1, oI l2] [] (sh_E h)
      exact ai_WP_steps mc_156 (sh_CM d) 2 (hR (-1 : Int32) h H)
    · replace H := sh_okF c H
      show wq_156 d Q 22 [oR 11 0, oI l1, oI l2] [] (sh_E h)
      refine ai_WP_steps mc_156 (sh_CM d) 7 (And.intro (Nat.le_of_ble_eq_true rfl) (x_Pieces_get (Nat.le_trans (Nat.le_of_ble_eq_true rfl) hd) 0 (0 : Int32) l1 (0 : Int32) h (sh_okB H) (fun v3 H => ?_)))
      show wq_156 d Q 35 [oR 11 0, oI l1, oI l2] [aI v3] (sh_E h)
      refine ai_WP_steps mc_156 (sh_CM d) 4 (And.intro (fun c => ?_) (fun c => ?_))
      · replace H := sh_okT c H
        show wq_156 d Q 42 [oR 11 0, oI l1, oI l2] [] (sh_E h)
        exact ai_WP_steps mc_156 (sh_CM d) 2 (hR (-1 : Int32) h H)
      · replace H := sh_okF c H
        show wq_156 d Q 44 [oR 11 0, oI l1, oI l2] [] (sh_E h)
        refine ai_WP_steps mc_156 (sh_CM d) 8 (And.intro (Nat.le_of_ble_eq_true rfl) (x_Pieces_add (Nat.le_trans (Nat.le_of_ble_eq_true rfl) hd) 0 (0 : Int32) l1 (0 : Int32) l2 h (sh_okB H) (fun h4 H => ?_)))
        show wq_156 d Q 58 [oR 11 0, oI l1, oI l2] [] (sh_E h4)
        refine ai_WP_steps mc_156 (sh_CM d) 12 (And.intro (Nat.le_of_ble_eq_true rfl) (x_Rows_get (Nat.le_trans (Nat.le_of_ble_eq_true rfl) hd) (7 * h4.2.2.1 + 0) l1 (2 : Int32) h4 (sh_okB H) (fun v5 H => ?_)))
        show wq_156 d Q 80 [oR 11 0, oI l1, oI l2] [aI v5, aL l2.toInt64, aL (h4.2.1 7 0 7), aR 7 0] (sh_E h4)
        refine ai_WP_steps mc_156 (sh_CM d) 4 ?_
        show wq_156 d Q 86 [oR 11 0, oI l1, oI l2] [] (sh_E (sh_pJ h4 7 0 7 ((h4.2.1 7 0 7) + (l2.toInt64 * v5.toInt64))))
        replace H := sh_okL H
        generalize sh_pJ h4 7 0 7 ((h4.2.1 7 0 7) + (l2.toInt64 * v5.toInt64)) = h6 at H ⊢
        refine ai_WP_steps mc_156 (sh_CM d) 6 (And.intro (Nat.le_of_ble_eq_true rfl) (x_Pieces_all N (Nat.le_trans (Nat.le_of_ble_eq_true rfl) hd) 0 (0 : Int32) l1 h6 (sh_okB H) (fun v7 H => ?_)))
        show wq_156 d Q 98 [oR 11 0, oI l1, oI l2] [aI v7] (sh_E h6)
        exact ai_WP_steps mc_156 (sh_CM d) 1 (hR v7 h6 H)
def f_CB_burn_c27 (N : Nat)   (k27 : Int32 → Int32 → Int32 → sh_H → Option (Int32 × sh_H)) (l1 : Int32) (l3 : Int32) (l4 : Int32) (h : sh_H) : Option (Int32 × sh_H) := (if l4 < (4 : Int32) then (Option.bind (f_Pieces_get 0 (0 : Int32) l1 l4 h) (fun v1 => (Option.bind (f_Pieces_add 0 (0 : Int32) l1 l4 (-v1) h) (fun h2 => k27 l1 (l3 + v1) (l4 + (1 : Int32)) h2)))) else (some (l3, h)))
def f_CB_burn_l27 (N : Nat)   (n : Nat) : Int32 → Int32 → Int32 → sh_H → Option (Int32 × sh_H) := Nat.rec (motive := fun _ => Int32 → Int32 → Int32 → sh_H → Option (Int32 × sh_H)) (fun _ _ _ _ => none) (fun _ k27 => f_CB_burn_c27 N k27) n
theorem x_CB_burn_l27 (N : Nat) {d : Nat} (hd : 3 ≤ d) {Q : ai_Q} {R : Int32 × sh_H → Prop} (hR : ∀ r h, R (r, h) → Q (some (aI r)) (sh_E h))   (n : Nat) : ∀ (l1 : Int32) (l3 : Int32) (l4 : Int32) {d2 d5 : Option ai_V} (h : sh_H), sh_ok (f_CB_burn_l27 N n l1 l3 l4 h) R → wq_157 d Q 27 [oR 11 0, oI l1, d2, oI l3, oI l4, d5] [] (sh_E h) := by
  induction n with
  | zero => intro l1 l3 l4 d2 d5 h H; exact H.elim
  | succ n ih =>
    intro l1 l3 l4 d2 d5 h H
    have hk27 := @ih
    replace H : sh_ok (f_CB_burn_c27 N (f_CB_burn_l27 N n) l1 l3 l4 h) R := H
    revert hk27 H
    generalize f_CB_burn_l27 N n = k27
    intro hk27 H
    refine ai_WP_steps mc_157 (sh_CM d) 3 (And.intro (fun c => ?_) (fun c => ?_))
    · replace H := sh_okT c H
      show wq_157 d Q 33 [oR 11 0, oI l1, _, oI l3, oI l4, _] [] (sh_E h)
      refine ai_WP_steps mc_157 (sh_CM d) 7 (And.intro (Nat.le_of_ble_eq_true rfl) (x_Pieces_get (Nat.le_trans (Nat.le_of_ble_eq_true rfl) hd) 0 (0 : Int32) l1 l4 h (sh_okB H) (fun v1 H => ?_)))
      show wq_157 d Q 47 [oR 11 0, oI l1, _, oI l3, oI l4, _] [aI v1] (sh_E h)
      refine ai_WP_steps mc_157 (sh_CM d) 10 (And.intro (Nat.le_of_ble_eq_true rfl) (x_Pieces_add (Nat.le_trans (Nat.le_of_ble_eq_true rfl) hd) 0 (0 : Int32) l1 l4 (-v1) h (sh_okB H) (fun h2 H => ?_)))
      show wq_157 d Q 66 [oR 11 0, oI l1, _, oI l3, oI l4, oI v1] [] (sh_E h2)
      refine ai_WP_steps mc_157 (sh_CM d) 6 ?_
      exact hk27 l1 (l3 + v1) (l4 + (1 : Int32)) h2 H
    · replace H := sh_okF c H
      show wq_157 d Q 77 [oR 11 0, oI l1, _, oI l3, oI l4, _] [] (sh_E h)
      exact ai_WP_steps mc_157 (sh_CM d) 2 (hR l3 h H)
def f_CB_burn (N : Nat)  (l1 : Int32) (l2 : Int32) (h : sh_H) : Option (Int32 × sh_H) := (Option.bind (f_Text_isKind h.2.2.1 l1 h) (fun v3 => (if v3 = 0 then (some ((-1 : Int32), h)) else (Option.bind (f_CB_within l2 (0 : Int32) (3 : Int32) h) (fun v4 => (if v4 = 0 then (some ((-1 : Int32), h)) else f_CB_burn_l27 N N l1 (0 : Int32) l2 h))))))
theorem x_CB_burn (N : Nat) {d : Nat} (hd : 4 ≤ d) (l1 : Int32) (l2 : Int32) (h : sh_H) {Q : ai_Q} {R : Int32 × sh_H → Prop} (H : sh_ok (f_CB_burn N l1 l2 h) R) (hR : ∀ r h, R (r, h) → Q (some (aI r)) (sh_E h)) : ai_Ex sh_T d 157 [aR 11 0, aI l1, aI l2] (sh_E h) Q := by
  obtain ⟨d, rfl⟩ : ∃ e, d = e + 1 := ⟨d - 1, by omega⟩
  replace hd : 3 ≤ d := by omega
  refine And.intro (Nat.le_of_ble_eq_true rfl) ?_
  show wq_157 d Q 0 [oR 11 0, oI l1, oI l2, none, none, none] [] (sh_E h)
  refine ai_WP_steps mc_157 (sh_CM d) 4 (And.intro (Nat.le_of_ble_eq_true rfl) (x_Text_isKind (Nat.le_trans (Nat.le_of_ble_eq_true rfl) hd) h.2.2.1 l1 h (sh_okB H) (fun v3 H => ?_)))
  show wq_157 d Q 8 [oR 11 0, oI l1, oI l2, _, _, _] [aI v3] (sh_E h)
  refine ai_WP_steps mc_157 (sh_CM d) 1 (And.intro (fun c => ?_) (fun c => ?_))
  · replace H := sh_okT c H
    show wq_157 d Q 20 [oR 11 0, oI l1, oI l2, _, _, _] [] (sh_E h)
    exact ai_WP_steps mc_157 (sh_CM d) 2 (hR (-1 : Int32) h H)
  · replace H := sh_okF c H
    show wq_157 d Q 11 [oR 11 0, oI l1, oI l2, _, _, _] [] (sh_E h)
    refine ai_WP_steps mc_157 (sh_CM d) 4 (And.intro (Nat.le_of_ble_eq_true rfl) (x_CB_within (Nat.le_trans (Nat.le_of_ble_eq_true rfl) hd) l2 (0 : Int32) (3 : Int32) h (sh_okB H) (fun v4 H => ?_)))
    show wq_157 d Q 17 [oR 11 0, oI l1, oI l2, _, _, _] [aI v4] (sh_E h)
    refine ai_WP_steps mc_157 (sh_CM d) 1 (And.intro (fun c => ?_) (fun c => ?_))
    · replace H := sh_okT c H
      show wq_157 d Q 20 [oR 11 0, oI l1, oI l2, _, _, _] [] (sh_E h)
      exact ai_WP_steps mc_157 (sh_CM d) 2 (hR (-1 : Int32) h H)
    · replace H := sh_okF c H
      show wq_157 d Q 22 [oR 11 0, oI l1, oI l2, _, _, _] [] (sh_E h)
      refine ai_WP_steps mc_157 (sh_CM d) 4 ?_
      exact x_CB_burn_l27 N hd hR N l1 (0 : Int32) l2 h H
def f_CB_lay  (l1 : Int32) (l2 : Int32) (l3 : Int32) (l4 : Int32) (h : sh_H) : Option (Int32 × sh_H) := (Option.bind (f_Text_isPlace h.2.2.1 l1 h) (fun v1 => (if v1 = 0 then (some ((-1 : Int32), h)) else (Option.bind (f_Text_isKind h.2.2.1 l2 h) (fun v2 => (if v2 = 0 then (some ((-1 : Int32), h)) else (Option.bind (f_CB_within l3 (0 : Int32) (3 : Int32) h) (fun v3 => (if v3 = 0 then (some ((-1 : Int32), h)) else (Option.bind (f_CB_within l4 (0 : Int32) (9999 : Int32) h) (fun v4 => (if v4 = 0 then (some ((-1 : Int32), h)) else (Option.bind (f_Pieces_get 0 l1 l2 l3 h) (fun v5 => (if ((999999 : Int32) - l4) < v5 then (some ((-1 : Int32), h)) else (Option.bind (f_Pieces_add 0 l1 l2 l3 l4 h) (fun h6 => (Option.bind (f_Pieces_get 0 l1 l2 l3 h6) (fun v7 => (some (v7, h6)))))))))))))))))))))
theorem x_CB_lay {d : Nat} (hd : 4 ≤ d) (l1 : Int32) (l2 : Int32) (l3 : Int32) (l4 : Int32) (h : sh_H) {Q : ai_Q} {R : Int32 × sh_H → Prop} (H : sh_ok (f_CB_lay l1 l2 l3 l4 h) R) (hR : ∀ r h, R (r, h) → Q (some (aI r)) (sh_E h)) : ai_Ex sh_T d 158 [aR 11 0, aI l1, aI l2, aI l3, aI l4] (sh_E h) Q := by
  obtain ⟨d, rfl⟩ : ∃ e, d = e + 1 := ⟨d - 1, by omega⟩
  replace hd : 3 ≤ d := by omega
  refine And.intro (Nat.le_of_ble_eq_true rfl) ?_
  show wq_158 d Q 0 [oR 11 0, oI l1, oI l2, oI l3, oI l4] [] (sh_E h)
  refine ai_WP_steps mc_158 (sh_CM d) 4 (And.intro (Nat.le_of_ble_eq_true rfl) (x_Text_isPlace (Nat.le_trans (Nat.le_of_ble_eq_true rfl) hd) h.2.2.1 l1 h (sh_okB H) (fun v1 H => ?_)))
  show wq_158 d Q 8 [oR 11 0, oI l1, oI l2, oI l3, oI l4] [aI v1] (sh_E h)
  refine ai_WP_steps mc_158 (sh_CM d) 1 (And.intro (fun c => ?_) (fun c => ?_))
  · replace H := sh_okT c H
    show wq_158 d Q 64 [oR 11 0, oI l1, oI l2, oI l3, oI l4] [] (sh_E h)
    exact ai_WP_steps mc_158 (sh_CM d) 2 (hR (-1 : Int32) h H)
  · replace H := sh_okF c H
    show wq_158 d Q 11 [oR 11 0, oI l1, oI l2, oI l3, oI l4] [] (sh_E h)
    refine ai_WP_steps mc_158 (sh_CM d) 4 (And.intro (Nat.le_of_ble_eq_true rfl) (x_Text_isKind (Nat.le_trans (Nat.le_of_ble_eq_true rfl) hd) h.2.2.1 l2 h (sh_okB H) (fun v2 H => ?_)))
    show wq_158 d Q 19 [oR 11 0, oI l1, oI l2, oI l3, oI l4] [aI v2] (sh_E h)
    refine ai_WP_steps mc_158 (sh_CM d) 1 (And.intro (fun c => ?_) (fun c => ?_))
    · replace H := sh_okT c H
      show wq_158 d Q 64 [oR 11 0, oI l1, oI l2, oI l3, oI l4] [] (sh_E h)
      exact ai_WP_steps mc_158 (sh_CM d) 2 (hR (-1 : Int32) h H)
    · replace H := sh_okF c H
      show wq_158 d Q 22 [oR 11 0, oI l1, oI l2, oI l3, oI l4] [] (sh_E h)
      refine ai_WP_steps mc_158 (sh_CM d) 4 (And.intro (Nat.le_of_ble_eq_true rfl) (x_CB_within (Nat.le_trans (Nat.le_of_ble_eq_true rfl) hd) l3 (0 : Int32) (3 : Int32) h (sh_okB H) (fun v3 H => ?_)))
      show wq_158 d Q 28 [oR 11 0, oI l1, oI l2, oI l3, oI l4] [aI v3] (sh_E h)
      refine ai_WP_steps mc_158 (sh_CM d) 1 (And.intro (fun c => ?_) (fun c => ?_))
      · replace H := sh_okT c H
        show wq_158 d Q 64 [oR 11 0, oI l1, oI l2, oI l3, oI l4] [] (sh_E h)
        exact ai_WP_steps mc_158 (sh_CM d) 2 (hR (-1 : Int32) h H)
      · replace H := sh_okF c H
        show wq_158 d Q 31 [oR 11 0, oI l1, oI l2, oI l3, oI l4] [] (sh_E h)
        refine ai_WP_steps mc_158 (sh_CM d) 4 (And.intro (Nat.le_of_ble_eq_true rfl) (x_CB_within (Nat.le_trans (Nat.le_of_ble_eq_true rfl) hd) l4 (0 : Int32) (9999 : Int32) h (sh_okB H) (fun v4 H => ?_)))
        show wq_158 d Q 40 [oR 11 0, oI l1, oI l2, oI l3, oI l4] [aI v4] (sh_E h)
        refine ai_WP_steps mc_158 (sh_CM d) 1 (And.intro (fun c => ?_) (fun c => ?_))
        · replace H := sh_okT c H
          show wq_158 d Q 64 [oR 11 0, oI l1, oI l2, oI l3, oI l4] [] (sh_E h)
          exact ai_WP_steps mc_158 (sh_CM d) 2 (hR (-1 : Int32) h H)
        · replace H := sh_okF c H
          show wq_158 d Q 43 [oR 11 0, oI l1, oI l2, oI l3, oI l4] [] (sh_E h)
          refine ai_WP_steps mc_158 (sh_CM d) 7 (And.intro (Nat.le_of_ble_eq_true rfl) (x_Pieces_get (Nat.le_trans (Nat.le_of_ble_eq_true rfl) hd) 0 l1 l2 l3 h (sh_okB H) (fun v5 H => ?_)))
          show wq_158 d Q 56 [oR 11 0, oI l1, oI l2, oI l3, oI l4] [aI v5] (sh_E h)
          refine ai_WP_steps mc_158 (sh_CM d) 4 (And.intro (fun c => ?_) (fun c => ?_))
          · replace H := sh_okT c H
            show wq_158 d Q 64 [oR 11 0, oI l1, oI l2, oI l3, oI l4] [] (sh_E h)
            exact ai_WP_steps mc_158 (sh_CM d) 2 (hR (-1 : Int32) h H)
          · replace H := sh_okF c H
            show wq_158 d Q 66 [oR 11 0, oI l1, oI l2, oI l3, oI l4] [] (sh_E h)
            refine ai_WP_steps mc_158 (sh_CM d) 8 (And.intro (Nat.le_of_ble_eq_true rfl) (x_Pieces_add (Nat.le_trans (Nat.le_of_ble_eq_true rfl) hd) 0 l1 l2 l3 l4 h (sh_okB H) (fun h6 H => ?_)))
            show wq_158 d Q 81 [oR 11 0, oI l1, oI l2, oI l3, oI l4] [] (sh_E h6)
            refine ai_WP_steps mc_158 (sh_CM d) 7 (And.intro (Nat.le_of_ble_eq_true rfl) (x_Pieces_get (Nat.le_trans (Nat.le_of_ble_eq_true rfl) hd) 0 l1 l2 l3 h6 (sh_okB H) (fun v7 H => ?_)))
            show wq_158 d Q 94 [oR 11 0, oI l1, oI l2, oI l3, oI l4] [aI v7] (sh_E h6)
            exact ai_WP_steps mc_158 (sh_CM d) 1 (hR v7 h6 H)
def f_CB_has (N : Nat)  (l1 : Int32) (l2 : Int32) (l3 : Int32) (h : sh_H) : Option Int32 := (Option.bind (f_Text_isPlace h.2.2.1 l1 h) (fun v1 => (if v1 = 0 then (some (-1 : Int32)) else (Option.bind (f_Text_isKind h.2.2.1 l2 h) (fun v2 => (if v2 = 0 then (some (-1 : Int32)) else (Option.bind (f_CB_within l3 (-1 : Int32) (3 : Int32) h) (fun v3 => (if v3 = 0 then (some (-1 : Int32)) else (if l3 = (-1 : Int32) then (Option.bind (f_Pieces_all N 0 l1 l2 h) (fun v4 => (some v4))) else (Option.bind (f_Pieces_get 0 l1 l2 l3 h) (fun v5 => (some v5)))))))))))))
theorem x_CB_has (N : Nat) {d : Nat} (hd : 5 ≤ d) (l1 : Int32) (l2 : Int32) (l3 : Int32) (h : sh_H) {Q : ai_Q} {R : Int32 → Prop} (H : sh_ok (f_CB_has N l1 l2 l3 h) R) (hR : ∀ r, R r → Q (some (aI r)) (sh_E h)) : ai_Ex sh_T d 159 [aR 11 0, aI l1, aI l2, aI l3] (sh_E h) Q := by
  obtain ⟨d, rfl⟩ : ∃ e, d = e + 1 := ⟨d - 1, by omega⟩
  replace hd : 4 ≤ d := by omega
  refine And.intro (Nat.le_of_ble_eq_true rfl) ?_
  show wq_159 d Q 0 [oR 11 0, oI l1, oI l2, oI l3] [] (sh_E h)
  refine ai_WP_steps mc_159 (sh_CM d) 4 (And.intro (Nat.le_of_ble_eq_true rfl) (x_Text_isPlace (Nat.le_trans (Nat.le_of_ble_eq_true rfl) hd) h.2.2.1 l1 h (sh_okB H) (fun v1 H => ?_)))
  show wq_159 d Q 8 [oR 11 0, oI l1, oI l2, oI l3] [aI v1] (sh_E h)
  refine ai_WP_steps mc_159 (sh_CM d) 1 (And.intro (fun c => ?_) (fun c => ?_))
  · replace H := sh_okT c H
    show wq_159 d Q 31 [oR 11 0, oI l1, oI l2, oI l3] [] (sh_E h)
    exact ai_WP_steps mc_159 (sh_CM d) 2 (hR (-1 : Int32) H)
  · replace H := sh_okF c H
    show wq_159 d Q 11 [oR 11 0, oI l1, oI l2, oI l3] [] (sh_E h)
    refine ai_WP_steps mc_159 (sh_CM d) 4 (And.intro (Nat.le_of_ble_eq_true rfl) (x_Text_isKind (Nat.le_trans (Nat.le_of_ble_eq_true rfl) hd) h.2.2.1 l2 h (sh_okB H) (fun v2 H => ?_)))
    show wq_159 d Q 19 [oR 11 0, oI l1, oI l2, oI l3] [aI v2] (sh_E h)
    refine ai_WP_steps mc_159 (sh_CM d) 1 (And.intro (fun c => ?_) (fun c => ?_))
    · replace H := sh_okT c H
      show wq_159 d Q 31 [oR 11 0, oI l1, oI l2, oI l3] [] (sh_E h)
      exact ai_WP_steps mc_159 (sh_CM d) 2 (hR (-1 : Int32) H)
    · replace H := sh_okF c H
      show wq_159 d Q 22 [oR 11 0, oI l1, oI l2, oI l3] [] (sh_E h)
      refine ai_WP_steps mc_159 (sh_CM d) 4 (And.intro (Nat.le_of_ble_eq_true rfl) (x_CB_within (Nat.le_trans (Nat.le_of_ble_eq_true rfl) hd) l3 (-1 : Int32) (3 : Int32) h (sh_okB H) (fun v3 H => ?_)))
      show wq_159 d Q 28 [oR 11 0, oI l1, oI l2, oI l3] [aI v3] (sh_E h)
      refine ai_WP_steps mc_159 (sh_CM d) 1 (And.intro (fun c => ?_) (fun c => ?_))
      · replace H := sh_okT c H
        show wq_159 d Q 31 [oR 11 0, oI l1, oI l2, oI l3] [] (sh_E h)
        exact ai_WP_steps mc_159 (sh_CM d) 2 (hR (-1 : Int32) H)
      · replace H := sh_okF c H
        show wq_159 d Q 33 [oR 11 0, oI l1, oI l2, oI l3] [] (sh_E h)
        refine ai_WP_steps mc_159 (sh_CM d) 3 (And.intro (fun c => ?_) (fun c => ?_))
        · replace H := sh_okT c H
          show wq_159 d Q 38 [oR 11 0, oI l1, oI l2, oI l3] [] (sh_E h)
          refine ai_WP_steps mc_159 (sh_CM d) 6 (And.intro (Nat.le_of_ble_eq_true rfl) (x_Pieces_all N (Nat.le_trans (Nat.le_of_ble_eq_true rfl) hd) 0 l1 l2 h (sh_okB H) (fun v4 H => ?_)))
          show wq_159 d Q 50 [oR 11 0, oI l1, oI l2, oI l3] [aI v4] (sh_E h)
          exact ai_WP_steps mc_159 (sh_CM d) 2 (hR v4 H)
        · replace H := sh_okF c H
          show wq_159 d Q 53 [oR 11 0, oI l1, oI l2, oI l3] [] (sh_E h)
          refine ai_WP_steps mc_159 (sh_CM d) 7 (And.intro (Nat.le_of_ble_eq_true rfl) (x_Pieces_get (Nat.le_trans (Nat.le_of_ble_eq_true rfl) hd) 0 l1 l2 l3 h (sh_okB H) (fun v5 H => ?_)))
          show wq_159 d Q 66 [oR 11 0, oI l1, oI l2, oI l3] [aI v5] (sh_E h)
          exact ai_WP_steps mc_159 (sh_CM d) 1 (hR v5 H)
def f_CB_send_b142 (N : Nat)   (l6 : Int32) (s0 : Nat) (s1 : Int32) (s2 : Int32) (s3 : Int32) (h : sh_H) : Option (Int32 × sh_H) := (Option.bind (f_Rows_put s0 s1 s2 s3 h) (fun h1 => (Option.bind (f_Rows_put (4 * 0 + 15) l6 (5 : Int32) (-2 : Int32) h1) (fun h2 => (some (l6, h2))))))
theorem x_CB_send_b142 (N : Nat) {d : Nat} (hd : 3 ≤ d) {Q : ai_Q} {R : Int32 × sh_H → Prop} (hR : ∀ r h, R (r, h) → Q (some (aI r)) (sh_E h))   (l6 : Int32) (s0 : Nat) (s1 : Int32) (s2 : Int32) (s3 : Int32) {d1 d2 d3 d4 d5 : Option ai_V} (h : sh_H) (H : sh_ok (f_CB_send_b142 N l6 s0 s1 s2 s3 h) R) : wq_160 d Q 142 [oR 11 0, d1, d2, d3, d4, d5, oI l6] [aI s3, aI s2, aI s1, aR 6 s0] (sh_E h) := by
  refine ai_WP_steps mc_160 (sh_CM d) 1 (And.intro (Nat.le_of_ble_eq_true rfl) (x_Rows_put (Nat.le_trans (Nat.le_of_ble_eq_true rfl) hd) s0 s1 s2 s3 h (sh_okB H) (fun h1 H => ?_)))
  show wq_160 d Q 145 [oR 11 0, _, _, _, _, _, oI l6] [] (sh_E h1)
  refine ai_WP_steps mc_160 (sh_CM d) 7 (And.intro (Nat.le_of_ble_eq_true rfl) (x_Rows_put (Nat.le_trans (Nat.le_of_ble_eq_true rfl) hd) (4 * 0 + 15) l6 (5 : Int32) (-2 : Int32) h1 (sh_okB H) (fun h2 H => ?_)))
  show wq_160 d Q 160 [oR 11 0, _, _, _, _, _, oI l6] [] (sh_E h2)
  exact ai_WP_steps mc_160 (sh_CM d) 2 (hR l6 h2 H)
def f_CB_send (N : Nat)  (l1 : Int32) (l2 : Int32) (l3 : Int32) (l4 : Int32) (l5 : Int32) (h : sh_H) : Option (Int32 × sh_H) := (Option.bind (f_CB_within l1 (h.1 7 0 4) (239 : Int32) h) (fun v3 => (if v3 = 0 then (some ((-1 : Int32), h)) else (Option.bind (f_CB_isOf l2 l3 h) (fun v4 => (if v4 = 0 then (some ((-1 : Int32), h)) else (Option.bind (f_CB_within l4 (1 : Int32) (9999 : Int32) h) (fun v5 => (if v5 = 0 then (some ((-1 : Int32), h)) else (Option.bind (f_Rows_isFull (4 * 0 + 15) h) (fun v6 => (if v6 = 0 then (sh_b2 (f_Rows_add N (4 * 0 + 15) h) (fun v7 h8 => (Option.bind (f_Rows_put (4 * 0 + 15) v7 (0 : Int32) l2 h8) (fun h9 => (Option.bind (f_Rows_put (4 * 0 + 15) v7 (1 : Int32) l3 h9) (fun h10 => (Option.bind (f_Rows_put (4 * 0 + 15) v7 (2 : Int32) l1 h10) (fun h11 => (Option.bind (f_Rows_put (4 * 0 + 15) v7 (3 : Int32) l4 h11) (fun h12 => (if l5 = 0 then f_CB_send_b142 N v7 (4 * 0 + 15) v7 (4 : Int32) (0 : Int32) h12 else f_CB_send_b142 N v7 (4 * 0 + 15) v7 (4 : Int32) (1 : Int32) h12))))))))))) else (some ((-1 : Int32), h))))))))))))))
theorem x_CB_send (N : Nat) {d : Nat} (hd : 4 ≤ d) (l1 : Int32) (l2 : Int32) (l3 : Int32) (l4 : Int32) (l5 : Int32) (h : sh_H) {Q : ai_Q} {R : Int32 × sh_H → Prop} (H : sh_ok (f_CB_send N l1 l2 l3 l4 l5 h) R) (hR : ∀ r h, R (r, h) → Q (some (aI r)) (sh_E h)) : ai_Ex sh_T d 160 [aR 11 0, aI l1, aI l2, aI l3, aI l4, aI l5] (sh_E h) Q := by
  obtain ⟨d, rfl⟩ : ∃ e, d = e + 1 := ⟨d - 1, by omega⟩
  replace hd : 3 ≤ d := by omega
  refine And.intro (Nat.le_of_ble_eq_true rfl) ?_
  show wq_160 d Q 0 [oR 11 0, oI l1, oI l2, oI l3, oI l4, oI l5, none] [] (sh_E h)
  refine ai_WP_steps mc_160 (sh_CM d) 6 (And.intro (Nat.le_of_ble_eq_true rfl) (x_CB_within (Nat.le_trans (Nat.le_of_ble_eq_true rfl) hd) l1 (h.1 7 0 4) (239 : Int32) h (sh_okB H) (fun v3 H => ?_)))
  show wq_160 d Q 14 [oR 11 0, oI l1, oI l2, oI l3, oI l4, oI l5, _] [aI v3] (sh_E h)
  refine ai_WP_steps mc_160 (sh_CM d) 1 (And.intro (fun c => ?_) (fun c => ?_))
  · replace H := sh_okT c H
    show wq_160 d Q 51 [oR 11 0, oI l1, oI l2, oI l3, oI l4, oI l5, _] [] (sh_E h)
    exact ai_WP_steps mc_160 (sh_CM d) 2 (hR (-1 : Int32) h H)
  · replace H := sh_okF c H
    show wq_160 d Q 17 [oR 11 0, oI l1, oI l2, oI l3, oI l4, oI l5, _] [] (sh_E h)
    refine ai_WP_steps mc_160 (sh_CM d) 4 (And.intro (Nat.le_of_ble_eq_true rfl) (x_CB_isOf (Nat.le_trans (Nat.le_of_ble_eq_true rfl) hd) l2 l3 h (sh_okB H) (fun v4 H => ?_)))
    show wq_160 d Q 23 [oR 11 0, oI l1, oI l2, oI l3, oI l4, oI l5, _] [aI v4] (sh_E h)
    refine ai_WP_steps mc_160 (sh_CM d) 1 (And.intro (fun c => ?_) (fun c => ?_))
    · replace H := sh_okT c H
      show wq_160 d Q 51 [oR 11 0, oI l1, oI l2, oI l3, oI l4, oI l5, _] [] (sh_E h)
      exact ai_WP_steps mc_160 (sh_CM d) 2 (hR (-1 : Int32) h H)
    · replace H := sh_okF c H
      show wq_160 d Q 26 [oR 11 0, oI l1, oI l2, oI l3, oI l4, oI l5, _] [] (sh_E h)
      refine ai_WP_steps mc_160 (sh_CM d) 4 (And.intro (Nat.le_of_ble_eq_true rfl) (x_CB_within (Nat.le_trans (Nat.le_of_ble_eq_true rfl) hd) l4 (1 : Int32) (9999 : Int32) h (sh_okB H) (fun v5 H => ?_)))
      show wq_160 d Q 35 [oR 11 0, oI l1, oI l2, oI l3, oI l4, oI l5, _] [aI v5] (sh_E h)
      refine ai_WP_steps mc_160 (sh_CM d) 1 (And.intro (fun c => ?_) (fun c => ?_))
      · replace H := sh_okT c H
        show wq_160 d Q 51 [oR 11 0, oI l1, oI l2, oI l3, oI l4, oI l5, _] [] (sh_E h)
        exact ai_WP_steps mc_160 (sh_CM d) 2 (hR (-1 : Int32) h H)
      · replace H := sh_okF c H
        show wq_160 d Q 38 [oR 11 0, oI l1, oI l2, oI l3, oI l4, oI l5, _] [] (sh_E h)
        refine ai_WP_steps mc_160 (sh_CM d) 4 (And.intro (Nat.le_of_ble_eq_true rfl) (x_Rows_isFull (Nat.le_trans (Nat.le_of_ble_eq_true rfl) hd) (4 * 0 + 15) h (sh_okB H) (fun v6 H => ?_)))
        show wq_160 d Q 48 [oR 11 0, oI l1, oI l2, oI l3, oI l4, oI l5, _] [aI v6] (sh_E h)
        refine ai_WP_steps mc_160 (sh_CM d) 1 (And.intro (fun c => ?_) (fun c => ?_))
        · replace H := sh_okT c H
          show wq_160 d Q 53 [oR 11 0, oI l1, oI l2, oI l3, oI l4, oI l5, _] [] (sh_E h)
          refine ai_WP_steps mc_160 (sh_CM d) 4 (And.intro (Nat.le_of_ble_eq_true rfl) (x_Rows_add N (Nat.le_trans (Nat.le_of_ble_eq_true rfl) hd) (4 * 0 + 15) h (sh_okB H) (fun v7 h8 H => ?_)))
          show wq_160 d Q 63 [oR 11 0, oI l1, oI l2, oI l3, oI l4, oI l5, _] [aI v7] (sh_E h8)
          refine ai_WP_steps mc_160 (sh_CM d) 8 (And.intro (Nat.le_of_ble_eq_true rfl) (x_Rows_put (Nat.le_trans (Nat.le_of_ble_eq_true rfl) hd) (4 * 0 + 15) v7 (0 : Int32) l2 h8 (sh_okB H) (fun h9 H => ?_)))
          show wq_160 d Q 79 [oR 11 0, oI l1, oI l2, oI l3, oI l4, oI l5, oI v7] [] (sh_E h9)
          refine ai_WP_steps mc_160 (sh_CM d) 7 (And.intro (Nat.le_of_ble_eq_true rfl) (x_Rows_put (Nat.le_trans (Nat.le_of_ble_eq_true rfl) hd) (4 * 0 + 15) v7 (1 : Int32) l3 h9 (sh_okB H) (fun h10 H => ?_)))
          show wq_160 d Q 93 [oR 11 0, oI l1, oI l2, oI l3, oI l4, oI l5, oI v7] [] (sh_E h10)
          refine ai_WP_steps mc_160 (sh_CM d) 7 (And.intro (Nat.le_of_ble_eq_true rfl) (x_Rows_put (Nat.le_trans (Nat.le_of_ble_eq_true rfl) hd) (4 * 0 + 15) v7 (2 : Int32) l1 h10 (sh_okB H) (fun h11 H => ?_)))
          show wq_160 d Q 107 [oR 11 0, oI l1, oI l2, oI l3, oI l4, oI l5, oI v7] [] (sh_E h11)
          refine ai_WP_steps mc_160 (sh_CM d) 7 (And.intro (Nat.le_of_ble_eq_true rfl) (x_Rows_put (Nat.le_trans (Nat.le_of_ble_eq_true rfl) hd) (4 * 0 + 15) v7 (3 : Int32) l4 h11 (sh_okB H) (fun h12 H => ?_)))
          show wq_160 d Q 122 [oR 11 0, oI l1, oI l2, oI l3, oI l4, oI l5, oI v7] [] (sh_E h12)
          refine ai_WP_steps mc_160 (sh_CM d) 7 (And.intro (fun c => ?_) (fun c => ?_))
          · replace H := sh_okT c H
            show wq_160 d Q 141 [oR 11 0, oI l1, oI l2, oI l3, oI l4, oI l5, oI v7] [aI (4 : Int32), aI v7, aR 6 (4 * 0 + 15)] (sh_E h12)
            refine ai_WP_steps mc_160 (sh_CM d) 1 ?_
            exact x_CB_send_b142 N hd hR v7 (4 * 0 + 15) v7 (4 : Int32) (0 : Int32) h12 H
          · replace H := sh_okF c H
            show wq_160 d Q 137 [oR 11 0, oI l1, oI l2, oI l3, oI l4, oI l5, oI v7] [aI (4 : Int32), aI v7, aR 6 (4 * 0 + 15)] (sh_E h12)
            refine ai_WP_steps mc_160 (sh_CM d) 2 ?_
            exact x_CB_send_b142 N hd hR v7 (4 * 0 + 15) v7 (4 : Int32) (1 : Int32) h12 H
        · replace H := sh_okF c H
          show wq_160 d Q 51 [oR 11 0, oI l1, oI l2, oI l3, oI l4, oI l5, _] [] (sh_E h)
          exact ai_WP_steps mc_160 (sh_CM d) 2 (hR (-1 : Int32) h H)
def f_CB_done_b23   (l1 : Int32) (s0 : Int32) (h : sh_H) : Option Int32 := (if s0 = 0 then (some (-1 : Int32)) else (Option.bind (f_Rows_get (4 * 0 + 15) l1 (5 : Int32) h) (fun v1 => (some v1))))
theorem x_CB_done_b23 {d : Nat} (hd : 2 ≤ d) (h : sh_H) {Q : ai_Q} {R : Int32 → Prop} (hR : ∀ r, R r → Q (some (aI r)) (sh_E h))   (l1 : Int32) (s0 : Int32) {d2 : Option ai_V} (H : sh_ok (f_CB_done_b23 l1 s0 h) R) : wq_161 d Q 23 [oR 11 0, oI l1, d2] [aI s0] (sh_E h) := by
  refine ai_WP_steps mc_161 (sh_CM d) 3 (And.intro (fun c => ?_) (fun c => ?_))
  · replace H := sh_okT c H
    show wq_161 d Q 43 [oR 11 0, oI l1, oI s0] [] (sh_E h)
    exact ai_WP_steps mc_161 (sh_CM d) 2 (hR (-1 : Int32) H)
  · replace H := sh_okF c H
    show wq_161 d Q 28 [oR 11 0, oI l1, oI s0] [] (sh_E h)
    refine ai_WP_steps mc_161 (sh_CM d) 6 (And.intro (Nat.le_of_ble_eq_true rfl) (x_Rows_get (Nat.le_trans (Nat.le_of_ble_eq_true rfl) hd) (4 * 0 + 15) l1 (5 : Int32) h (sh_okB H) (fun v1 H => ?_)))
    show wq_161 d Q 40 [oR 11 0, oI l1, oI s0] [aI v1] (sh_E h)
    exact ai_WP_steps mc_161 (sh_CM d) 2 (hR v1 H)
def f_CB_done_b22   (l1 : Int32) (h : sh_H) : Option Int32 := f_CB_done_b23 l1 (0 : Int32) h
theorem x_CB_done_b22 {d : Nat} (hd : 2 ≤ d) (h : sh_H) {Q : ai_Q} {R : Int32 → Prop} (hR : ∀ r, R r → Q (some (aI r)) (sh_E h))   (l1 : Int32) {d2 : Option ai_V} (H : sh_ok (f_CB_done_b22 l1 h) R) : wq_161 d Q 22 [oR 11 0, oI l1, d2] [] (sh_E h) := by
  refine ai_WP_steps mc_161 (sh_CM d) 1 ?_
  exact x_CB_done_b23 hd h hR l1 (0 : Int32) H
def f_CB_done  (l1 : Int32) (h : sh_H) : Option Int32 := (if l1 < 0 then f_CB_done_b22 l1 h else (Option.bind (f_Rows_size (4 * 0 + 15) h) (fun v2 => (if l1 < v2 then f_CB_done_b23 l1 (1 : Int32) h else f_CB_done_b22 l1 h))))
theorem x_CB_done {d : Nat} (hd : 3 ≤ d) (l1 : Int32) (h : sh_H) {Q : ai_Q} {R : Int32 → Prop} (H : sh_ok (f_CB_done l1 h) R) (hR : ∀ r, R r → Q (some (aI r)) (sh_E h)) : ai_Ex sh_T d 161 [aR 11 0, aI l1] (sh_E h) Q := by
  obtain ⟨d, rfl⟩ : ∃ e, d = e + 1 := ⟨d - 1, by omega⟩
  replace hd : 2 ≤ d := by omega
  refine And.intro (Nat.le_of_ble_eq_true rfl) ?_
  show wq_161 d Q 0 [oR 11 0, oI l1, none] [] (sh_E h)
  refine ai_WP_steps mc_161 (sh_CM d) 2 (And.intro (fun c => ?_) (fun c => ?_))
  · replace H := sh_okT c H
    exact x_CB_done_b22 hd h hR l1 H
  · replace H := sh_okF c H
    show wq_161 d Q 4 [oR 11 0, oI l1, _] [] (sh_E h)
    refine ai_WP_steps mc_161 (sh_CM d) 5 (And.intro (Nat.le_of_ble_eq_true rfl) (x_Rows_size (Nat.le_trans (Nat.le_of_ble_eq_true rfl) hd) (4 * 0 + 15) h (sh_okB H) (fun v2 H => ?_)))
    show wq_161 d Q 15 [oR 11 0, oI l1, _] [aI v2, aI l1] (sh_E h)
    refine ai_WP_steps mc_161 (sh_CM d) 1 (And.intro (fun c => ?_) (fun c => ?_))
    · replace H := sh_okT c H
      show wq_161 d Q 18 [oR 11 0, oI l1, _] [] (sh_E h)
      refine ai_WP_steps mc_161 (sh_CM d) 2 ?_
      exact x_CB_done_b23 hd h hR l1 (1 : Int32) H
    · replace H := sh_okF c H
      exact x_CB_done_b22 hd h hR l1 H
def f_CB_judge (N : Nat)   (h : sh_H) : Option (Int32 × sh_H) := (sh_b2 (f_Calendar_firstUndone N h.2.2.1 0 h) (fun v1 h2 => (some (v1, h2))))
theorem x_CB_judge (N : Nat) {d : Nat} (hd : 7 ≤ d)  (h : sh_H) {Q : ai_Q} {R : Int32 × sh_H → Prop} (H : sh_ok (f_CB_judge N h) R) (hR : ∀ r h, R (r, h) → Q (some (aI r)) (sh_E h)) : ai_Ex sh_T d 162 [aR 11 0] (sh_E h) Q := by
  obtain ⟨d, rfl⟩ : ∃ e, d = e + 1 := ⟨d - 1, by omega⟩
  replace hd : 6 ≤ d := by omega
  refine And.intro (Nat.le_of_ble_eq_true rfl) ?_
  show wq_162 d Q 0 [oR 11 0] [] (sh_E h)
  refine ai_WP_steps mc_162 (sh_CM d) 7 (And.intro (Nat.le_of_ble_eq_true rfl) (x_Calendar_firstUndone N (Nat.le_trans (Nat.le_of_ble_eq_true rfl) hd) h.2.2.1 0 h (sh_okB H) (fun v1 h2 H => ?_)))
  show wq_162 d Q 15 [oR 11 0] [aI v1] (sh_E h2)
  exact ai_WP_steps mc_162 (sh_CM d) 1 (hR v1 h2 H)
def f_CB_why (N : Nat)   (h : sh_H) : Option (Int32 × sh_H) := (sh_b2 (f_Calendar_firstUndone N h.2.2.1 0 h) (fun v1 h2 => (Option.bind (f_Calendar_reason h2) (fun v3 => (some (v3, h2))))))
theorem x_CB_why (N : Nat) {d : Nat} (hd : 7 ≤ d)  (h : sh_H) {Q : ai_Q} {R : Int32 × sh_H → Prop} (H : sh_ok (f_CB_why N h) R) (hR : ∀ r h, R (r, h) → Q (some (aI r)) (sh_E h)) : ai_Ex sh_T d 163 [aR 11 0] (sh_E h) Q := by
  obtain ⟨d, rfl⟩ : ∃ e, d = e + 1 := ⟨d - 1, by omega⟩
  replace hd : 6 ≤ d := by omega
  refine And.intro (Nat.le_of_ble_eq_true rfl) ?_
  show wq_163 d Q 0 [oR 11 0] [] (sh_E h)
  refine ai_WP_steps mc_163 (sh_CM d) 7 (And.intro (Nat.le_of_ble_eq_true rfl) (x_Calendar_firstUndone N (Nat.le_trans (Nat.le_of_ble_eq_true rfl) hd) h.2.2.1 0 h (sh_okB H) (fun v1 h2 H => ?_)))
  show wq_163 d Q 15 [oR 11 0] [aI v1] (sh_E h2)
  refine ai_WP_steps mc_163 (sh_CM d) 4 (And.intro (Nat.le_of_ble_eq_true rfl) (x_Calendar_reason (Nat.le_trans (Nat.le_of_ble_eq_true rfl) hd) h2 (sh_okB H) (fun v3 H => ?_)))
  show wq_163 d Q 23 [oR 11 0] [aI v3] (sh_E h2)
  exact ai_WP_steps mc_163 (sh_CM d) 1 (hR v3 h2 H)
def f_CB_months_c32 (N : Nat)   (k32 : Int32 → Int32 → Int32 → Int32 → sh_H → Option (Int32 × sh_H)) (l1 : Int32) (l2 : Int32) (l3 : Int32) (l4 : Int32) (h : sh_H) : Option (Int32 × sh_H) := (if l4 < l2 then (sh_b2 (f_Calendar_pass N h.2.2.1 0 l1 h) (fun v1 h2 => k32 l1 l2 (l3 + v1) (l4 + (1 : Int32)) h2)) else (some (l3, h)))
def f_CB_months_l32 (N : Nat)   (n : Nat) : Int32 → Int32 → Int32 → Int32 → sh_H → Option (Int32 × sh_H) := Nat.rec (motive := fun _ => Int32 → Int32 → Int32 → Int32 → sh_H → Option (Int32 × sh_H)) (fun _ _ _ _ _ => none) (fun _ k32 => f_CB_months_c32 N k32) n
theorem x_CB_months_l32 (N : Nat) {d : Nat} (hd : 7 ≤ d) {Q : ai_Q} {R : Int32 × sh_H → Prop} (hR : ∀ r h, R (r, h) → Q (some (aI r)) (sh_E h))   (n : Nat) : ∀ (l1 : Int32) (l2 : Int32) (l3 : Int32) (l4 : Int32) (h : sh_H), sh_ok (f_CB_months_l32 N n l1 l2 l3 l4 h) R → wq_164 d Q 32 [oR 11 0, oI l1, oI l2, oI l3, oI l4] [] (sh_E h) := by
  induction n with
  | zero => intro l1 l2 l3 l4 h H; exact H.elim
  | succ n ih =>
    intro l1 l2 l3 l4 h H
    have hk32 := @ih
    replace H : sh_ok (f_CB_months_c32 N (f_CB_months_l32 N n) l1 l2 l3 l4 h) R := H
    revert hk32 H
    generalize f_CB_months_l32 N n = k32
    intro hk32 H
    refine ai_WP_steps mc_164 (sh_CM d) 3 (And.intro (fun c => ?_) (fun c => ?_))
    · replace H := sh_okT c H
      show wq_164 d Q 38 [oR 11 0, oI l1, oI l2, oI l3, oI l4] [] (sh_E h)
      refine ai_WP_steps mc_164 (sh_CM d) 9 (And.intro (Nat.le_of_ble_eq_true rfl) (x_Calendar_pass N (Nat.le_trans (Nat.le_of_ble_eq_true rfl) hd) h.2.2.1 0 l1 h (sh_okB H) (fun v1 h2 H => ?_)))
      show wq_164 d Q 55 [oR 11 0, oI l1, oI l2, oI l3, oI l4] [aI v1, aI l3] (sh_E h2)
      refine ai_WP_steps mc_164 (sh_CM d) 4 ?_
      exact hk32 l1 l2 (l3 + v1) (l4 + (1 : Int32)) h2 H
    · replace H := sh_okF c H
      show wq_164 d Q 63 [oR 11 0, oI l1, oI l2, oI l3, oI l4] [] (sh_E h)
      exact ai_WP_steps mc_164 (sh_CM d) 2 (hR l3 h H)
def f_CB_months (N : Nat)  (l1 : Int32) (l2 : Int32) (h : sh_H) : Option (Int32 × sh_H) := (Option.bind (f_CB_within l2 (1 : Int32) (24 : Int32) h) (fun v3 => (if v3 = 0 then (some ((-1 : Int32), h)) else (if (240 : Int32) < ((h.1 7 0 4) + l2) then (some ((-1 : Int32), h)) else f_CB_months_l32 N N l1 l2 (0 : Int32) (0 : Int32) h))))
theorem x_CB_months (N : Nat) {d : Nat} (hd : 8 ≤ d) (l1 : Int32) (l2 : Int32) (h : sh_H) {Q : ai_Q} {R : Int32 × sh_H → Prop} (H : sh_ok (f_CB_months N l1 l2 h) R) (hR : ∀ r h, R (r, h) → Q (some (aI r)) (sh_E h)) : ai_Ex sh_T d 164 [aR 11 0, aI l1, aI l2] (sh_E h) Q := by
  obtain ⟨d, rfl⟩ : ∃ e, d = e + 1 := ⟨d - 1, by omega⟩
  replace hd : 7 ≤ d := by omega
  refine And.intro (Nat.le_of_ble_eq_true rfl) ?_
  show wq_164 d Q 0 [oR 11 0, oI l1, oI l2, none, none] [] (sh_E h)
  refine ai_WP_steps mc_164 (sh_CM d) 4 (And.intro (Nat.le_of_ble_eq_true rfl) (x_CB_within (Nat.le_trans (Nat.le_of_ble_eq_true rfl) hd) l2 (1 : Int32) (24 : Int32) h (sh_okB H) (fun v3 H => ?_)))
  show wq_164 d Q 7 [oR 11 0, oI l1, oI l2, _, _] [aI v3] (sh_E h)
  refine ai_WP_steps mc_164 (sh_CM d) 1 (And.intro (fun c => ?_) (fun c => ?_))
  · replace H := sh_okT c H
    show wq_164 d Q 25 [oR 11 0, oI l1, oI l2, _, _] [] (sh_E h)
    exact ai_WP_steps mc_164 (sh_CM d) 2 (hR (-1 : Int32) h H)
  · replace H := sh_okF c H
    show wq_164 d Q 10 [oR 11 0, oI l1, oI l2, _, _] [] (sh_E h)
    refine ai_WP_steps mc_164 (sh_CM d) 7 (And.intro (fun c => ?_) (fun c => ?_))
    · replace H := sh_okT c H
      show wq_164 d Q 25 [oR 11 0, oI l1, oI l2, _, _] [] (sh_E h)
      exact ai_WP_steps mc_164 (sh_CM d) 2 (hR (-1 : Int32) h H)
    · replace H := sh_okF c H
      show wq_164 d Q 27 [oR 11 0, oI l1, oI l2, _, _] [] (sh_E h)
      refine ai_WP_steps mc_164 (sh_CM d) 4 ?_
      exact x_CB_months_l32 N hd hR N l1 l2 (0 : Int32) (0 : Int32) h H
def f_CB_lacks  (l1 : Int32) (l2 : Int32) (h : sh_H) : Option Int32 := (Option.bind (f_CB_isOf l1 l2 h) (fun v1 => (if v1 = 0 then (some (-1 : Int32)) else (Option.bind (f_Rows_get (4 * 0 + 17) (l1 - (1 : Int32)) l2 h) (fun v2 => (some v2))))))
theorem x_CB_lacks {d : Nat} (hd : 4 ≤ d) (l1 : Int32) (l2 : Int32) (h : sh_H) {Q : ai_Q} {R : Int32 → Prop} (H : sh_ok (f_CB_lacks l1 l2 h) R) (hR : ∀ r, R r → Q (some (aI r)) (sh_E h)) : ai_Ex sh_T d 165 [aR 11 0, aI l1, aI l2] (sh_E h) Q := by
  obtain ⟨d, rfl⟩ : ∃ e, d = e + 1 := ⟨d - 1, by omega⟩
  replace hd : 3 ≤ d := by omega
  refine And.intro (Nat.le_of_ble_eq_true rfl) ?_
  show wq_165 d Q 0 [oR 11 0, oI l1, oI l2] [] (sh_E h)
  refine ai_WP_steps mc_165 (sh_CM d) 4 (And.intro (Nat.le_of_ble_eq_true rfl) (x_CB_isOf (Nat.le_trans (Nat.le_of_ble_eq_true rfl) hd) l1 l2 h (sh_okB H) (fun v1 H => ?_)))
  show wq_165 d Q 6 [oR 11 0, oI l1, oI l2] [aI v1] (sh_E h)
  refine ai_WP_steps mc_165 (sh_CM d) 1 (And.intro (fun c => ?_) (fun c => ?_))
  · replace H := sh_okT c H
    show wq_165 d Q 26 [oR 11 0, oI l1, oI l2] [] (sh_E h)
    exact ai_WP_steps mc_165 (sh_CM d) 2 (hR (-1 : Int32) H)
  · replace H := sh_okF c H
    show wq_165 d Q 9 [oR 11 0, oI l1, oI l2] [] (sh_E h)
    refine ai_WP_steps mc_165 (sh_CM d) 8 (And.intro (Nat.le_of_ble_eq_true rfl) (x_Rows_get (Nat.le_trans (Nat.le_of_ble_eq_true rfl) hd) (4 * 0 + 17) (l1 - (1 : Int32)) l2 h (sh_okB H) (fun v2 H => ?_)))
    show wq_165 d Q 23 [oR 11 0, oI l1, oI l2] [aI v2] (sh_E h)
    exact ai_WP_steps mc_165 (sh_CM d) 2 (hR v2 H)
def f_CB_spent  (l1 : Int32) (h : sh_H) : Option Int64 := (if l1 = (0 : Int32) then (some (((h.2.1 7 0 5) + (h.2.1 7 0 6)) + (h.2.1 7 0 7))) else (if l1 = (1 : Int32) then (some (h.2.1 7 0 5)) else (if l1 = (2 : Int32) then (some (h.2.1 7 0 6)) else (if l1 = (3 : Int32) then (some (h.2.1 7 0 7)) else (some (-1 : Int64))))))
theorem x_CB_spent {d : Nat} (hd : 1 ≤ d) (l1 : Int32) (h : sh_H) {Q : ai_Q} {R : Int64 → Prop} (H : sh_ok (f_CB_spent l1 h) R) (hR : ∀ r, R r → Q (some (aL r)) (sh_E h)) : ai_Ex sh_T d 166 [aR 11 0, aI l1] (sh_E h) Q := by
  obtain ⟨d, rfl⟩ : ∃ e, d = e + 1 := ⟨d - 1, by omega⟩
  replace hd : 0 ≤ d := by omega
  refine And.intro (Nat.le_of_ble_eq_true rfl) ?_
  show wq_166 d Q 0 [oR 11 0, oI l1] [] (sh_E h)
  refine ai_WP_steps mc_166 (sh_CM d) 2 (And.intro (fun c => ?_) (fun c => ?_))
  · replace H := sh_okT c H
    show wq_166 d Q 32 [oR 11 0, oI l1] [] (sh_E h)
    exact ai_WP_steps mc_166 (sh_CM d) 12 (hR (((h.2.1 7 0 5) + (h.2.1 7 0 6)) + (h.2.1 7 0 7)) H)
  replace H := sh_okF c H
  refine And.intro (fun c => ?_) (fun c => ?_)
  · replace H := sh_okT c H
    show wq_166 d Q 56 [oR 11 0, oI l1] [] (sh_E h)
    exact ai_WP_steps mc_166 (sh_CM d) 4 (hR (h.2.1 7 0 5) H)
  replace H := sh_okF c H
  refine And.intro (fun c => ?_) (fun c => ?_)
  · replace H := sh_okT c H
    show wq_166 d Q 64 [oR 11 0, oI l1] [] (sh_E h)
    exact ai_WP_steps mc_166 (sh_CM d) 4 (hR (h.2.1 7 0 6) H)
  replace H := sh_okF c H
  refine And.intro (fun c => ?_) (fun c => ?_)
  · replace H := sh_okT c H
    show wq_166 d Q 72 [oR 11 0, oI l1] [] (sh_E h)
    exact ai_WP_steps mc_166 (sh_CM d) 4 (hR (h.2.1 7 0 7) H)
  replace H := sh_okF c H
  show wq_166 d Q 80 [oR 11 0, oI l1] [] (sh_E h)
  exact ai_WP_steps mc_166 (sh_CM d) 2 (hR (-1 : Int64) H)
def f_CB_isSum  (l0 : Int32) (h : sh_H) : Option Int32 := (Option.bind (f_CB_within l0 (1 : Int32) (2000 : Int32) h) (fun v1 => (some (ai_nar 1 v1))))
theorem x_CB_isSum {d : Nat} (hd : 2 ≤ d) (l0 : Int32) (h : sh_H) {Q : ai_Q} {R : Int32 → Prop} (H : sh_ok (f_CB_isSum l0 h) R) (hR : ∀ r, R r → Q (some (aI r)) (sh_E h)) : ai_Ex sh_T d 202 [aI l0] (sh_E h) Q := by
  obtain ⟨d, rfl⟩ : ∃ e, d = e + 1 := ⟨d - 1, by omega⟩
  replace hd : 1 ≤ d := by omega
  refine And.intro (Nat.le_of_ble_eq_true rfl) ?_
  show wq_202 d Q 0 [oI l0] [] (sh_E h)
  refine ai_WP_steps mc_202 (sh_CM d) 4 (And.intro (Nat.le_of_ble_eq_true rfl) (x_CB_within (Nat.le_trans (Nat.le_of_ble_eq_true rfl) hd) l0 (1 : Int32) (2000 : Int32) h (sh_okB H) (fun v1 H => ?_)))
  show wq_202 d Q 8 [oI l0] [aI v1] (sh_E h)
  exact ai_WP_steps mc_202 (sh_CM d) 1 (hR (ai_nar 1 v1) H)
def f_CB_pay_b38 (N : Nat)   (l1 : Int32) (l2 : Int32) (l3 : Int32) (h : sh_H) : Option (Int32 × sh_H) := (Option.bind (f_Coins_look N h.2.2.1 0 l1 (0 : Int32) h) (fun h1 => (sh_b2 (f_Coins_fewestOfTill N l2 h1) (fun v2 h3 => (if v2 = (-2 : Int32) then (some (v2, h3)) else (if l3 = 0 then (some (v2, h3)) else (sh_b2 (f_Coins_ofTill N l2 (l3 - (10 : Int32)) h3) (fun v4 h5 => (some (v4, h5))))))))))
theorem x_CB_pay_b38 (N : Nat) {d : Nat} (hd : 5 ≤ d) {Q : ai_Q} {R : Int32 × sh_H → Prop} (hR : ∀ r h, R (r, h) → Q (some (aI r)) (sh_E h))   (l1 : Int32) (l2 : Int32) (l3 : Int32) {d4 : Option ai_V} (h : sh_H) (H : sh_ok (f_CB_pay_b38 N l1 l2 l3 h) R) : wq_167 d Q 38 [oR 11 0, oI l1, oI l2, oI l3, d4] [] (sh_E h) := by
  refine ai_WP_steps mc_167 (sh_CM d) 10 (And.intro (Nat.le_of_ble_eq_true rfl) (x_Coins_look N (Nat.le_trans (Nat.le_of_ble_eq_true rfl) hd) h.2.2.1 0 l1 (0 : Int32) h (sh_okB H) (fun h1 H => ?_)))
  show wq_167 d Q 58 [oR 11 0, oI l1, oI l2, oI l3, _] [] (sh_E h1)
  refine ai_WP_steps mc_167 (sh_CM d) 4 (And.intro (Nat.le_of_ble_eq_true rfl) (x_Coins_fewestOfTill N (Nat.le_trans (Nat.le_of_ble_eq_true rfl) hd) l2 h1 (sh_okB H) (fun v2 h3 H => ?_)))
  show wq_167 d Q 66 [oR 11 0, oI l1, oI l2, oI l3, _] [aI v2] (sh_E h3)
  refine ai_WP_steps mc_167 (sh_CM d) 4 (And.intro (fun c => ?_) (fun c => ?_))
  · replace H := sh_okT c H
    show wq_167 d Q 79 [oR 11 0, oI l1, oI l2, oI l3, oI v2] [] (sh_E h3)
    exact ai_WP_steps mc_167 (sh_CM d) 2 (hR v2 h3 H)
  · replace H := sh_okF c H
    show wq_167 d Q 75 [oR 11 0, oI l1, oI l2, oI l3, oI v2] [] (sh_E h3)
    refine ai_WP_steps mc_167 (sh_CM d) 2 (And.intro (fun c => ?_) (fun c => ?_))
    · replace H := sh_okT c H
      show wq_167 d Q 79 [oR 11 0, oI l1, oI l2, oI l3, oI v2] [] (sh_E h3)
      exact ai_WP_steps mc_167 (sh_CM d) 2 (hR v2 h3 H)
    · replace H := sh_okF c H
      show wq_167 d Q 82 [oR 11 0, oI l1, oI l2, oI l3, oI v2] [] (sh_E h3)
      refine ai_WP_steps mc_167 (sh_CM d) 7 (And.intro (Nat.le_of_ble_eq_true rfl) (x_Coins_ofTill N (Nat.le_trans (Nat.le_of_ble_eq_true rfl) hd) l2 (l3 - (10 : Int32)) h3 (sh_okB H) (fun v4 h5 H => ?_)))
      show wq_167 d Q 94 [oR 11 0, oI l1, oI l2, oI l3, oI v2] [aI v4] (sh_E h5)
      exact ai_WP_steps mc_167 (sh_CM d) 1 (hR v4 h5 H)
def f_CB_pay (N : Nat)  (l1 : Int32) (l2 : Int32) (l3 : Int32) (h : sh_H) : Option (Int32 × sh_H) := (Option.bind (f_Text_isPlace h.2.2.1 l1 h) (fun v6 => (if v6 = 0 then (some ((-1 : Int32), h)) else (Option.bind (f_CB_isSum l2 h) (fun v7 => (if v7 = 0 then (some ((-1 : Int32), h)) else (if l3 = 0 then f_CB_pay_b38 N l1 l2 l3 h else (Option.bind (f_Text_isKind h.2.2.1 (l3 - (10 : Int32)) h) (fun v8 => (if v8 = 0 then (some ((-1 : Int32), h)) else f_CB_pay_b38 N l1 l2 l3 h))))))))))
theorem x_CB_pay (N : Nat) {d : Nat} (hd : 6 ≤ d) (l1 : Int32) (l2 : Int32) (l3 : Int32) (h : sh_H) {Q : ai_Q} {R : Int32 × sh_H → Prop} (H : sh_ok (f_CB_pay N l1 l2 l3 h) R) (hR : ∀ r h, R (r, h) → Q (some (aI r)) (sh_E h)) : ai_Ex sh_T d 167 [aR 11 0, aI l1, aI l2, aI l3] (sh_E h) Q := by
  obtain ⟨d, rfl⟩ : ∃ e, d = e + 1 := ⟨d - 1, by omega⟩
  replace hd : 5 ≤ d := by omega
  refine And.intro (Nat.le_of_ble_eq_true rfl) ?_
  show wq_167 d Q 0 [oR 11 0, oI l1, oI l2, oI l3, none] [] (sh_E h)
  refine ai_WP_steps mc_167 (sh_CM d) 4 (And.intro (Nat.le_of_ble_eq_true rfl) (x_Text_isPlace (Nat.le_trans (Nat.le_of_ble_eq_true rfl) hd) h.2.2.1 l1 h (sh_okB H) (fun v6 H => ?_)))
  show wq_167 d Q 8 [oR 11 0, oI l1, oI l2, oI l3, _] [aI v6] (sh_E h)
  refine ai_WP_steps mc_167 (sh_CM d) 1 (And.intro (fun c => ?_) (fun c => ?_))
  · replace H := sh_okT c H
    show wq_167 d Q 36 [oR 11 0, oI l1, oI l2, oI l3, _] [] (sh_E h)
    exact ai_WP_steps mc_167 (sh_CM d) 2 (hR (-1 : Int32) h H)
  · replace H := sh_okF c H
    show wq_167 d Q 11 [oR 11 0, oI l1, oI l2, oI l3, _] [] (sh_E h)
    refine ai_WP_steps mc_167 (sh_CM d) 2 (And.intro (Nat.le_of_ble_eq_true rfl) (x_CB_isSum (Nat.le_trans (Nat.le_of_ble_eq_true rfl) hd) l2 h (sh_okB H) (fun v7 H => ?_)))
    show wq_167 d Q 15 [oR 11 0, oI l1, oI l2, oI l3, _] [aI v7] (sh_E h)
    refine ai_WP_steps mc_167 (sh_CM d) 1 (And.intro (fun c => ?_) (fun c => ?_))
    · replace H := sh_okT c H
      show wq_167 d Q 36 [oR 11 0, oI l1, oI l2, oI l3, _] [] (sh_E h)
      exact ai_WP_steps mc_167 (sh_CM d) 2 (hR (-1 : Int32) h H)
    · replace H := sh_okF c H
      show wq_167 d Q 18 [oR 11 0, oI l1, oI l2, oI l3, _] [] (sh_E h)
      refine ai_WP_steps mc_167 (sh_CM d) 2 (And.intro (fun c => ?_) (fun c => ?_))
      · replace H := sh_okT c H
        exact x_CB_pay_b38 N hd hR l1 l2 l3 h H
      · replace H := sh_okF c H
        show wq_167 d Q 22 [oR 11 0, oI l1, oI l2, oI l3, _] [] (sh_E h)
        refine ai_WP_steps mc_167 (sh_CM d) 6 (And.intro (Nat.le_of_ble_eq_true rfl) (x_Text_isKind (Nat.le_trans (Nat.le_of_ble_eq_true rfl) hd) h.2.2.1 (l3 - (10 : Int32)) h (sh_okB H) (fun v8 H => ?_)))
        show wq_167 d Q 33 [oR 11 0, oI l1, oI l2, oI l3, _] [aI v8] (sh_E h)
        refine ai_WP_steps mc_167 (sh_CM d) 1 (And.intro (fun c => ?_) (fun c => ?_))
        · replace H := sh_okT c H
          show wq_167 d Q 36 [oR 11 0, oI l1, oI l2, oI l3, _] [] (sh_E h)
          exact ai_WP_steps mc_167 (sh_CM d) 2 (hR (-1 : Int32) h H)
        · replace H := sh_okF c H
          exact x_CB_pay_b38 N hd hR l1 l2 l3 h H
def f_CB_change_b73 (N : Nat)   (l1 : Int32) (l2 : Int32) (l3 : Int32) (l4 : Int32) (l5 : Int32) (l6 : Int32) (h : sh_H) : Option (Int32 × sh_H) := (Option.bind (f_Coins_look N h.2.2.1 0 l1 l3 h) (fun h1 => (sh_b2 (f_Coins_leastGiven N l2 h1) (fun v2 h3 => (if v2 = (-2 : Int32) then (some ((-2 : Int32), h3)) else (if l5 = 0 then (if l6 = 0 then (Option.bind (f_Coins_bothWays h3) (fun v4 => (some (v4, h3)))) else (sh_b2 (f_Coins_ofTill N (v2 - l2) (l4 - (20 : Int32)) h3) (fun v5 h6 => (some (v5, h6))))) else (sh_b2 (f_Coins_ofPurse N v2 (l4 - (10 : Int32)) h3) (fun v7 h8 => (some (v7, h8))))))))))
theorem x_CB_change_b73 (N : Nat) {d : Nat} (hd : 5 ≤ d) {Q : ai_Q} {R : Int32 × sh_H → Prop} (hR : ∀ r h, R (r, h) → Q (some (aI r)) (sh_E h))   (l1 : Int32) (l2 : Int32) (l3 : Int32) (l4 : Int32) (l5 : Int32) (l6 : Int32) {d7 : Option ai_V} (h : sh_H) (H : sh_ok (f_CB_change_b73 N l1 l2 l3 l4 l5 l6 h) R) : wq_168 d Q 73 [oR 11 0, oI l1, oI l2, oI l3, oI l4, oI l5, oI l6, d7] [] (sh_E h) := by
  refine ai_WP_steps mc_168 (sh_CM d) 10 (And.intro (Nat.le_of_ble_eq_true rfl) (x_Coins_look N (Nat.le_trans (Nat.le_of_ble_eq_true rfl) hd) h.2.2.1 0 l1 l3 h (sh_okB H) (fun h1 H => ?_)))
  show wq_168 d Q 93 [oR 11 0, oI l1, oI l2, oI l3, oI l4, oI l5, oI l6, _] [] (sh_E h1)
  refine ai_WP_steps mc_168 (sh_CM d) 4 (And.intro (Nat.le_of_ble_eq_true rfl) (x_Coins_leastGiven N (Nat.le_trans (Nat.le_of_ble_eq_true rfl) hd) l2 h1 (sh_okB H) (fun v2 h3 H => ?_)))
  show wq_168 d Q 101 [oR 11 0, oI l1, oI l2, oI l3, oI l4, oI l5, oI l6, _] [aI v2] (sh_E h3)
  refine ai_WP_steps mc_168 (sh_CM d) 4 (And.intro (fun c => ?_) (fun c => ?_))
  · replace H := sh_okT c H
    show wq_168 d Q 110 [oR 11 0, oI l1, oI l2, oI l3, oI l4, oI l5, oI l6, oI v2] [] (sh_E h3)
    exact ai_WP_steps mc_168 (sh_CM d) 2 (hR (-2 : Int32) h3 H)
  · replace H := sh_okF c H
    show wq_168 d Q 113 [oR 11 0, oI l1, oI l2, oI l3, oI l4, oI l5, oI l6, oI v2] [] (sh_E h3)
    refine ai_WP_steps mc_168 (sh_CM d) 2 (And.intro (fun c => ?_) (fun c => ?_))
    · replace H := sh_okT c H
      show wq_168 d Q 133 [oR 11 0, oI l1, oI l2, oI l3, oI l4, oI l5, oI l6, oI v2] [] (sh_E h3)
      refine ai_WP_steps mc_168 (sh_CM d) 2 (And.intro (fun c => ?_) (fun c => ?_))
      · replace H := sh_okT c H
        show wq_168 d Q 157 [oR 11 0, oI l1, oI l2, oI l3, oI l4, oI l5, oI l6, oI v2] [] (sh_E h3)
        refine ai_WP_steps mc_168 (sh_CM d) 3 (And.intro (Nat.le_of_ble_eq_true rfl) (x_Coins_bothWays (Nat.le_trans (Nat.le_of_ble_eq_true rfl) hd) h3 (sh_okB H) (fun v4 H => ?_)))
        show wq_168 d Q 164 [oR 11 0, oI l1, oI l2, oI l3, oI l4, oI l5, oI l6, oI v2] [aI v4] (sh_E h3)
        exact ai_WP_steps mc_168 (sh_CM d) 1 (hR v4 h3 H)
      · replace H := sh_okF c H
        show wq_168 d Q 138 [oR 11 0, oI l1, oI l2, oI l3, oI l4, oI l5, oI l6, oI v2] [] (sh_E h3)
        refine ai_WP_steps mc_168 (sh_CM d) 9 (And.intro (Nat.le_of_ble_eq_true rfl) (x_Coins_ofTill N (Nat.le_trans (Nat.le_of_ble_eq_true rfl) hd) (v2 - l2) (l4 - (20 : Int32)) h3 (sh_okB H) (fun v5 h6 H => ?_)))
        show wq_168 d Q 154 [oR 11 0, oI l1, oI l2, oI l3, oI l4, oI l5, oI l6, oI v2] [aI v5] (sh_E h6)
        exact ai_WP_steps mc_168 (sh_CM d) 2 (hR v5 h6 H)
    · replace H := sh_okF c H
      show wq_168 d Q 118 [oR 11 0, oI l1, oI l2, oI l3, oI l4, oI l5, oI l6, oI v2] [] (sh_E h3)
      refine ai_WP_steps mc_168 (sh_CM d) 7 (And.intro (Nat.le_of_ble_eq_true rfl) (x_Coins_ofPurse N (Nat.le_trans (Nat.le_of_ble_eq_true rfl) hd) v2 (l4 - (10 : Int32)) h3 (sh_okB H) (fun v7 h8 H => ?_)))
      show wq_168 d Q 132 [oR 11 0, oI l1, oI l2, oI l3, oI l4, oI l5, oI l6, oI v2] [aI v7] (sh_E h8)
      exact ai_WP_steps mc_168 (sh_CM d) 1 (hR v7 h8 H)
def f_CB_change (N : Nat)  (l1 : Int32) (l2 : Int32) (l3 : Int32) (l4 : Int32) (h : sh_H) : Option (Int32 × sh_H) := (Option.bind (f_Text_isKind h.2.2.1 (l4 - (10 : Int32)) h) (fun v9 => (Option.bind (f_Text_isKind h.2.2.1 (l4 - (20 : Int32)) h) (fun v10 => (Option.bind (f_Text_isPlace h.2.2.1 l1 h) (fun v11 => (if v11 = 0 then (some ((-1 : Int32), h)) else (Option.bind (f_CB_isSum l2 h) (fun v12 => (if v12 = 0 then (some ((-1 : Int32), h)) else (Option.bind (f_CB_within l3 (0 : Int32) (9 : Int32) h) (fun v13 => (if v13 = 0 then (some ((-1 : Int32), h)) else (if l4 = 0 then f_CB_change_b73 N l1 l2 l3 l4 v9 v10 h else (if v9 = 0 then (if v10 = 0 then (some ((-1 : Int32), h)) else f_CB_change_b73 N l1 l2 l3 l4 v9 v10 h) else f_CB_change_b73 N l1 l2 l3 l4 v9 v10 h)))))))))))))))
theorem x_CB_change (N : Nat) {d : Nat} (hd : 6 ≤ d) (l1 : Int32) (l2 : Int32) (l3 : Int32) (l4 : Int32) (h : sh_H) {Q : ai_Q} {R : Int32 × sh_H → Prop} (H : sh_ok (f_CB_change N l1 l2 l3 l4 h) R) (hR : ∀ r h, R (r, h) → Q (some (aI r)) (sh_E h)) : ai_Ex sh_T d 168 [aR 11 0, aI l1, aI l2, aI l3, aI l4] (sh_E h) Q := by
  obtain ⟨d, rfl⟩ : ∃ e, d = e + 1 := ⟨d - 1, by omega⟩
  replace hd : 5 ≤ d := by omega
  refine And.intro (Nat.le_of_ble_eq_true rfl) ?_
  show wq_168 d Q 0 [oR 11 0, oI l1, oI l2, oI l3, oI l4, none, none, none] [] (sh_E h)
  refine ai_WP_steps mc_168 (sh_CM d) 6 (And.intro (Nat.le_of_ble_eq_true rfl) (x_Text_isKind (Nat.le_trans (Nat.le_of_ble_eq_true rfl) hd) h.2.2.1 (l4 - (10 : Int32)) h (sh_okB H) (fun v9 H => ?_)))
  show wq_168 d Q 12 [oR 11 0, oI l1, oI l2, oI l3, oI l4, _, _, _] [aI v9] (sh_E h)
  refine ai_WP_steps mc_168 (sh_CM d) 7 (And.intro (Nat.le_of_ble_eq_true rfl) (x_Text_isKind (Nat.le_trans (Nat.le_of_ble_eq_true rfl) hd) h.2.2.1 (l4 - (20 : Int32)) h (sh_okB H) (fun v10 H => ?_)))
  show wq_168 d Q 26 [oR 11 0, oI l1, oI l2, oI l3, oI l4, oI v9, _, _] [aI v10] (sh_E h)
  refine ai_WP_steps mc_168 (sh_CM d) 5 (And.intro (Nat.le_of_ble_eq_true rfl) (x_Text_isPlace (Nat.le_trans (Nat.le_of_ble_eq_true rfl) hd) h.2.2.1 l1 h (sh_okB H) (fun v11 H => ?_)))
  show wq_168 d Q 36 [oR 11 0, oI l1, oI l2, oI l3, oI l4, oI v9, oI v10, _] [aI v11] (sh_E h)
  refine ai_WP_steps mc_168 (sh_CM d) 1 (And.intro (fun c => ?_) (fun c => ?_))
  · replace H := sh_okT c H
    show wq_168 d Q 71 [oR 11 0, oI l1, oI l2, oI l3, oI l4, oI v9, oI v10, _] [] (sh_E h)
    exact ai_WP_steps mc_168 (sh_CM d) 2 (hR (-1 : Int32) h H)
  · replace H := sh_okF c H
    show wq_168 d Q 39 [oR 11 0, oI l1, oI l2, oI l3, oI l4, oI v9, oI v10, _] [] (sh_E h)
    refine ai_WP_steps mc_168 (sh_CM d) 2 (And.intro (Nat.le_of_ble_eq_true rfl) (x_CB_isSum (Nat.le_trans (Nat.le_of_ble_eq_true rfl) hd) l2 h (sh_okB H) (fun v12 H => ?_)))
    show wq_168 d Q 43 [oR 11 0, oI l1, oI l2, oI l3, oI l4, oI v9, oI v10, _] [aI v12] (sh_E h)
    refine ai_WP_steps mc_168 (sh_CM d) 1 (And.intro (fun c => ?_) (fun c => ?_))
    · replace H := sh_okT c H
      show wq_168 d Q 71 [oR 11 0, oI l1, oI l2, oI l3, oI l4, oI v9, oI v10, _] [] (sh_E h)
      exact ai_WP_steps mc_168 (sh_CM d) 2 (hR (-1 : Int32) h H)
    · replace H := sh_okF c H
      show wq_168 d Q 46 [oR 11 0, oI l1, oI l2, oI l3, oI l4, oI v9, oI v10, _] [] (sh_E h)
      refine ai_WP_steps mc_168 (sh_CM d) 4 (And.intro (Nat.le_of_ble_eq_true rfl) (x_CB_within (Nat.le_trans (Nat.le_of_ble_eq_true rfl) hd) l3 (0 : Int32) (9 : Int32) h (sh_okB H) (fun v13 H => ?_)))
      show wq_168 d Q 53 [oR 11 0, oI l1, oI l2, oI l3, oI l4, oI v9, oI v10, _] [aI v13] (sh_E h)
      refine ai_WP_steps mc_168 (sh_CM d) 1 (And.intro (fun c => ?_) (fun c => ?_))
      · replace H := sh_okT c H
        show wq_168 d Q 71 [oR 11 0, oI l1, oI l2, oI l3, oI l4, oI v9, oI v10, _] [] (sh_E h)
        exact ai_WP_steps mc_168 (sh_CM d) 2 (hR (-1 : Int32) h H)
      · replace H := sh_okF c H
        show wq_168 d Q 56 [oR 11 0, oI l1, oI l2, oI l3, oI l4, oI v9, oI v10, _] [] (sh_E h)
        refine ai_WP_steps mc_168 (sh_CM d) 2 (And.intro (fun c => ?_) (fun c => ?_))
        · replace H := sh_okT c H
          exact x_CB_change_b73 N hd hR l1 l2 l3 l4 v9 v10 h H
        · replace H := sh_okF c H
          show wq_168 d Q 61 [oR 11 0, oI l1, oI l2, oI l3, oI l4, oI v9, oI v10, _] [] (sh_E h)
          refine ai_WP_steps mc_168 (sh_CM d) 2 (And.intro (fun c => ?_) (fun c => ?_))
          · replace H := sh_okT c H
            show wq_168 d Q 66 [oR 11 0, oI l1, oI l2, oI l3, oI l4, oI v9, oI v10, _] [] (sh_E h)
            refine ai_WP_steps mc_168 (sh_CM d) 2 (And.intro (fun c => ?_) (fun c => ?_))
            · replace H := sh_okT c H
              show wq_168 d Q 71 [oR 11 0, oI l1, oI l2, oI l3, oI l4, oI v9, oI v10, _] [] (sh_E h)
              exact ai_WP_steps mc_168 (sh_CM d) 2 (hR (-1 : Int32) h H)
            · replace H := sh_okF c H
              exact x_CB_change_b73 N hd hR l1 l2 l3 l4 v9 v10 h H
          · replace H := sh_okF c H
            exact x_CB_change_b73 N hd hR l1 l2 l3 l4 v9 v10 h H
def f_CB_which (N : Nat)  (l1 : Int32) (l2 : Int32) (h : sh_H) : Option (Int32 × sh_H) := (Option.bind (f_CB_within l1 (1 : Int32) (400 : Int32) h) (fun v1 => (if v1 = 0 then (some ((-1 : Int32), h)) else (Option.bind (f_CB_within l2 (0 : Int32) (99 : Int32) h) (fun v2 => (if v2 = 0 then (some ((-1 : Int32), h)) else (Option.bind (f_Coins_look N h.2.2.1 0 (0 : Int32) (0 : Int32) h) (fun h3 => (sh_b2 (f_Coins_bestSet N l1 l2 h3) (fun v4 h5 => (some (v4, h5))))))))))))
theorem x_CB_which (N : Nat) {d : Nat} (hd : 6 ≤ d) (l1 : Int32) (l2 : Int32) (h : sh_H) {Q : ai_Q} {R : Int32 × sh_H → Prop} (H : sh_ok (f_CB_which N l1 l2 h) R) (hR : ∀ r h, R (r, h) → Q (some (aI r)) (sh_E h)) : ai_Ex sh_T d 169 [aR 11 0, aI l1, aI l2] (sh_E h) Q := by
  obtain ⟨d, rfl⟩ : ∃ e, d = e + 1 := ⟨d - 1, by omega⟩
  replace hd : 5 ≤ d := by omega
  refine And.intro (Nat.le_of_ble_eq_true rfl) ?_
  show wq_169 d Q 0 [oR 11 0, oI l1, oI l2] [] (sh_E h)
  refine ai_WP_steps mc_169 (sh_CM d) 4 (And.intro (Nat.le_of_ble_eq_true rfl) (x_CB_within (Nat.le_trans (Nat.le_of_ble_eq_true rfl) hd) l1 (1 : Int32) (400 : Int32) h (sh_okB H) (fun v1 H => ?_)))
  show wq_169 d Q 8 [oR 11 0, oI l1, oI l2] [aI v1] (sh_E h)
  refine ai_WP_steps mc_169 (sh_CM d) 1 (And.intro (fun c => ?_) (fun c => ?_))
  · replace H := sh_okT c H
    show wq_169 d Q 21 [oR 11 0, oI l1, oI l2] [] (sh_E h)
    exact ai_WP_steps mc_169 (sh_CM d) 2 (hR (-1 : Int32) h H)
  · replace H := sh_okF c H
    show wq_169 d Q 11 [oR 11 0, oI l1, oI l2] [] (sh_E h)
    refine ai_WP_steps mc_169 (sh_CM d) 4 (And.intro (Nat.le_of_ble_eq_true rfl) (x_CB_within (Nat.le_trans (Nat.le_of_ble_eq_true rfl) hd) l2 (0 : Int32) (99 : Int32) h (sh_okB H) (fun v2 H => ?_)))
    show wq_169 d Q 18 [oR 11 0, oI l1, oI l2] [aI v2] (sh_E h)
    refine ai_WP_steps mc_169 (sh_CM d) 1 (And.intro (fun c => ?_) (fun c => ?_))
    · replace H := sh_okT c H
      show wq_169 d Q 21 [oR 11 0, oI l1, oI l2] [] (sh_E h)
      exact ai_WP_steps mc_169 (sh_CM d) 2 (hR (-1 : Int32) h H)
    · replace H := sh_okF c H
      show wq_169 d Q 23 [oR 11 0, oI l1, oI l2] [] (sh_E h)
      refine ai_WP_steps mc_169 (sh_CM d) 10 (And.intro (Nat.le_of_ble_eq_true rfl) (x_Coins_look N (Nat.le_trans (Nat.le_of_ble_eq_true rfl) hd) h.2.2.1 0 (0 : Int32) (0 : Int32) h (sh_okB H) (fun h3 H => ?_)))
      show wq_169 d Q 43 [oR 11 0, oI l1, oI l2] [] (sh_E h3)
      refine ai_WP_steps mc_169 (sh_CM d) 5 (And.intro (Nat.le_of_ble_eq_true rfl) (x_Coins_bestSet N (Nat.le_trans (Nat.le_of_ble_eq_true rfl) hd) l1 l2 h3 (sh_okB H) (fun v4 h5 H => ?_)))
      show wq_169 d Q 52 [oR 11 0, oI l1, oI l2] [aI v4] (sh_E h5)
      exact ai_WP_steps mc_169 (sh_CM d) 1 (hR v4 h5 H)
def f_CB_whichSum (N : Nat)  (l1 : Int32) (l2 : Int32) (h : sh_H) : Option (Int32 × sh_H) := (sh_b2 (f_CB_which N l1 l2 h) (fun v1 h2 => (if v1 < 0 then (some (v1, h2)) else (sh_b2 (f_Coins_sumOf N v1 l1 l2 h2) (fun v3 h4 => (some (v3, h4)))))))
theorem x_CB_whichSum (N : Nat) {d : Nat} (hd : 7 ≤ d) (l1 : Int32) (l2 : Int32) (h : sh_H) {Q : ai_Q} {R : Int32 × sh_H → Prop} (H : sh_ok (f_CB_whichSum N l1 l2 h) R) (hR : ∀ r h, R (r, h) → Q (some (aI r)) (sh_E h)) : ai_Ex sh_T d 170 [aR 11 0, aI l1, aI l2] (sh_E h) Q := by
  obtain ⟨d, rfl⟩ : ∃ e, d = e + 1 := ⟨d - 1, by omega⟩
  replace hd : 6 ≤ d := by omega
  refine And.intro (Nat.le_of_ble_eq_true rfl) ?_
  show wq_170 d Q 0 [oR 11 0, oI l1, oI l2, none] [] (sh_E h)
  refine ai_WP_steps mc_170 (sh_CM d) 4 (And.intro (Nat.le_of_ble_eq_true rfl) (x_CB_which N (Nat.le_trans (Nat.le_of_ble_eq_true rfl) hd) l1 l2 h (sh_okB H) (fun v1 h2 H => ?_)))
  show wq_170 d Q 6 [oR 11 0, oI l1, oI l2, _] [aI v1] (sh_E h2)
  refine ai_WP_steps mc_170 (sh_CM d) 3 (And.intro (fun c => ?_) (fun c => ?_))
  · replace H := sh_okT c H
    show wq_170 d Q 11 [oR 11 0, oI l1, oI l2, oI v1] [] (sh_E h2)
    exact ai_WP_steps mc_170 (sh_CM d) 3 (hR v1 h2 H)
  · replace H := sh_okF c H
    show wq_170 d Q 15 [oR 11 0, oI l1, oI l2, oI v1] [] (sh_E h2)
    refine ai_WP_steps mc_170 (sh_CM d) 6 (And.intro (Nat.le_of_ble_eq_true rfl) (x_Coins_sumOf N (Nat.le_trans (Nat.le_of_ble_eq_true rfl) hd) v1 l1 l2 h2 (sh_okB H) (fun v3 h4 H => ?_)))
    show wq_170 d Q 25 [oR 11 0, oI l1, oI l2, oI v1] [aI v3] (sh_E h4)
    exact ai_WP_steps mc_170 (sh_CM d) 1 (hR v3 h4 H)
def f_CB_isPlan_b41    (h : sh_H) : Option Int32 := (some (ai_nar 1 (0 : Int32)))
theorem x_CB_isPlan_b41 {d : Nat} (hd : 3 ≤ d) (h : sh_H) {Q : ai_Q} {R : Int32 → Prop} (hR : ∀ r, R r → Q (some (aI r)) (sh_E h))    {d0 d1 d2 d3 d4 d5 : Option ai_V} (H : sh_ok (f_CB_isPlan_b41 h) R) : wq_198 d Q 41 [d0, d1, d2, d3, d4, d5] [] (sh_E h) := by
  exact ai_WP_steps mc_198 (sh_CM d) 2 (hR (ai_nar 1 (0 : Int32)) H)
def f_CB_isPlan  (l1 : Int32) (l2 : Int32) (l3 : Int32) (l4 : Int32) (l5 : Int32) (h : sh_H) : Option Int32 := (Option.bind (f_CB_isOf l1 l2 h) (fun v1 => (if v1 = 0 then f_CB_isPlan_b41 h else (Option.bind (f_CB_isMonth l3 h) (fun v2 => (if v2 = 0 then f_CB_isPlan_b41 h else (Option.bind (f_CB_within l4 (1 : Int32) (12 : Int32) h) (fun v3 => (if v3 = 0 then f_CB_isPlan_b41 h else (Option.bind (f_CB_within l5 (0 : Int32) (3 : Int32) h) (fun v4 => (if v4 = 0 then f_CB_isPlan_b41 h else (some (ai_nar 1 (1 : Int32)))))))))))))))
theorem x_CB_isPlan {d : Nat} (hd : 4 ≤ d) (l1 : Int32) (l2 : Int32) (l3 : Int32) (l4 : Int32) (l5 : Int32) (h : sh_H) {Q : ai_Q} {R : Int32 → Prop} (H : sh_ok (f_CB_isPlan l1 l2 l3 l4 l5 h) R) (hR : ∀ r, R r → Q (some (aI r)) (sh_E h)) : ai_Ex sh_T d 198 [aR 11 0, aI l1, aI l2, aI l3, aI l4, aI l5] (sh_E h) Q := by
  obtain ⟨d, rfl⟩ : ∃ e, d = e + 1 := ⟨d - 1, by omega⟩
  replace hd : 3 ≤ d := by omega
  refine And.intro (Nat.le_of_ble_eq_true rfl) ?_
  show wq_198 d Q 0 [oR 11 0, oI l1, oI l2, oI l3, oI l4, oI l5] [] (sh_E h)
  refine ai_WP_steps mc_198 (sh_CM d) 4 (And.intro (Nat.le_of_ble_eq_true rfl) (x_CB_isOf (Nat.le_trans (Nat.le_of_ble_eq_true rfl) hd) l1 l2 h (sh_okB H) (fun v1 H => ?_)))
  show wq_198 d Q 6 [oR 11 0, oI l1, oI l2, oI l3, oI l4, oI l5] [aI v1] (sh_E h)
  refine ai_WP_steps mc_198 (sh_CM d) 1 (And.intro (fun c => ?_) (fun c => ?_))
  · replace H := sh_okT c H
    exact x_CB_isPlan_b41 hd h hR H
  · replace H := sh_okF c H
    show wq_198 d Q 9 [oR 11 0, oI l1, oI l2, oI l3, oI l4, oI l5] [] (sh_E h)
    refine ai_WP_steps mc_198 (sh_CM d) 2 (And.intro (Nat.le_of_ble_eq_true rfl) (x_CB_isMonth (Nat.le_trans (Nat.le_of_ble_eq_true rfl) hd) l3 h (sh_okB H) (fun v2 H => ?_)))
    show wq_198 d Q 13 [oR 11 0, oI l1, oI l2, oI l3, oI l4, oI l5] [aI v2] (sh_E h)
    refine ai_WP_steps mc_198 (sh_CM d) 1 (And.intro (fun c => ?_) (fun c => ?_))
    · replace H := sh_okT c H
      exact x_CB_isPlan_b41 hd h hR H
    · replace H := sh_okF c H
      show wq_198 d Q 16 [oR 11 0, oI l1, oI l2, oI l3, oI l4, oI l5] [] (sh_E h)
      refine ai_WP_steps mc_198 (sh_CM d) 4 (And.intro (Nat.le_of_ble_eq_true rfl) (x_CB_within (Nat.le_trans (Nat.le_of_ble_eq_true rfl) hd) l4 (1 : Int32) (12 : Int32) h (sh_okB H) (fun v3 H => ?_)))
      show wq_198 d Q 24 [oR 11 0, oI l1, oI l2, oI l3, oI l4, oI l5] [aI v3] (sh_E h)
      refine ai_WP_steps mc_198 (sh_CM d) 1 (And.intro (fun c => ?_) (fun c => ?_))
      · replace H := sh_okT c H
        exact x_CB_isPlan_b41 hd h hR H
      · replace H := sh_okF c H
        show wq_198 d Q 27 [oR 11 0, oI l1, oI l2, oI l3, oI l4, oI l5] [] (sh_E h)
        refine ai_WP_steps mc_198 (sh_CM d) 4 (And.intro (Nat.le_of_ble_eq_true rfl) (x_CB_within (Nat.le_trans (Nat.le_of_ble_eq_true rfl) hd) l5 (0 : Int32) (3 : Int32) h (sh_okB H) (fun v4 H => ?_)))
        show wq_198 d Q 34 [oR 11 0, oI l1, oI l2, oI l3, oI l4, oI l5] [aI v4] (sh_E h)
        refine ai_WP_steps mc_198 (sh_CM d) 1 (And.intro (fun c => ?_) (fun c => ?_))
        · replace H := sh_okT c H
          exact x_CB_isPlan_b41 hd h hR H
        · replace H := sh_okF c H
          show wq_198 d Q 37 [oR 11 0, oI l1, oI l2, oI l3, oI l4, oI l5] [] (sh_E h)
          exact ai_WP_steps mc_198 (sh_CM d) 3 (hR (ai_nar 1 (1 : Int32)) H)
def f_CB_least_b25 (N : Nat)    (h : sh_H) : Option (Int64 × sh_H) := (some ((-1 : Int64), h))
theorem x_CB_least_b25 (N : Nat) {d : Nat} (hd : 5 ≤ d) {Q : ai_Q} {R : Int64 × sh_H → Prop} (hR : ∀ r h, R (r, h) → Q (some (aL r)) (sh_E h))    {d0 d1 d2 d3 d4 d5 d6 : Option ai_V} (h : sh_H) (H : sh_ok (f_CB_least_b25 N h) R) : wq_171 d Q 25 [d0, d1, d2, d3, d4, d5, d6] [] (sh_E h) := by
  exact ai_WP_steps mc_171 (sh_CM d) 2 (hR (-1 : Int64) h H)
def f_CB_least (N : Nat)  (l1 : Int32) (l2 : Int32) (l3 : Int32) (l4 : Int32) (l5 : Int32) (l6 : Int32) (h : sh_H) : Option (Int64 × sh_H) := (Option.bind (f_CB_isPlan l1 l2 l3 l4 l6 h) (fun v1 => (if v1 = 0 then f_CB_least_b25 N h else (Option.bind (f_CB_within l5 (0 : Int32) (60 : Int32) h) (fun v2 => (if v2 = 0 then f_CB_least_b25 N h else (Option.bind (f_Stocks_plan N h.2.2.1 l1 l2 l3 l4 l6 h) (fun h3 => (Option.bind (f_Stocks_cost l5 h3) (fun v4 => (some (v4, h3))))))))))))
theorem x_CB_least (N : Nat) {d : Nat} (hd : 6 ≤ d) (l1 : Int32) (l2 : Int32) (l3 : Int32) (l4 : Int32) (l5 : Int32) (l6 : Int32) (h : sh_H) {Q : ai_Q} {R : Int64 × sh_H → Prop} (H : sh_ok (f_CB_least N l1 l2 l3 l4 l5 l6 h) R) (hR : ∀ r h, R (r, h) → Q (some (aL r)) (sh_E h)) : ai_Ex sh_T d 171 [aR 11 0, aI l1, aI l2, aI l3, aI l4, aI l5, aI l6] (sh_E h) Q := by
  obtain ⟨d, rfl⟩ : ∃ e, d = e + 1 := ⟨d - 1, by omega⟩
  replace hd : 5 ≤ d := by omega
  refine And.intro (Nat.le_of_ble_eq_true rfl) ?_
  show wq_171 d Q 0 [oR 11 0, oI l1, oI l2, oI l3, oI l4, oI l5, oI l6] [] (sh_E h)
  refine ai_WP_steps mc_171 (sh_CM d) 7 (And.intro (Nat.le_of_ble_eq_true rfl) (x_CB_isPlan (Nat.le_trans (Nat.le_of_ble_eq_true rfl) hd) l1 l2 l3 l4 l6 h (sh_okB H) (fun v1 H => ?_)))
  show wq_171 d Q 11 [oR 11 0, oI l1, oI l2, oI l3, oI l4, oI l5, oI l6] [aI v1] (sh_E h)
  refine ai_WP_steps mc_171 (sh_CM d) 1 (And.intro (fun c => ?_) (fun c => ?_))
  · replace H := sh_okT c H
    exact x_CB_least_b25 N hd hR h H
  · replace H := sh_okF c H
    show wq_171 d Q 14 [oR 11 0, oI l1, oI l2, oI l3, oI l4, oI l5, oI l6] [] (sh_E h)
    refine ai_WP_steps mc_171 (sh_CM d) 4 (And.intro (Nat.le_of_ble_eq_true rfl) (x_CB_within (Nat.le_trans (Nat.le_of_ble_eq_true rfl) hd) l5 (0 : Int32) (60 : Int32) h (sh_okB H) (fun v2 H => ?_)))
    show wq_171 d Q 22 [oR 11 0, oI l1, oI l2, oI l3, oI l4, oI l5, oI l6] [aI v2] (sh_E h)
    refine ai_WP_steps mc_171 (sh_CM d) 1 (And.intro (fun c => ?_) (fun c => ?_))
    · replace H := sh_okT c H
      exact x_CB_least_b25 N hd hR h H
    · replace H := sh_okF c H
      show wq_171 d Q 29 [oR 11 0, oI l1, oI l2, oI l3, oI l4, oI l5, oI l6] [] (sh_E h)
      refine ai_WP_steps mc_171 (sh_CM d) 10 (And.intro (Nat.le_of_ble_eq_true rfl) (x_Stocks_plan N (Nat.le_trans (Nat.le_of_ble_eq_true rfl) hd) h.2.2.1 l1 l2 l3 l4 l6 h (sh_okB H) (fun h3 H => ?_)))
      show wq_171 d Q 47 [oR 11 0, oI l1, oI l2, oI l3, oI l4, oI l5, oI l6] [] (sh_E h3)
      refine ai_WP_steps mc_171 (sh_CM d) 4 (And.intro (Nat.le_of_ble_eq_true rfl) (x_Stocks_cost (Nat.le_trans (Nat.le_of_ble_eq_true rfl) hd) l5 h3 (sh_okB H) (fun v4 H => ?_)))
      show wq_171 d Q 56 [oR 11 0, oI l1, oI l2, oI l3, oI l4, oI l5, oI l6] [aL v4] (sh_E h3)
      exact ai_WP_steps mc_171 (sh_CM d) 1 (hR v4 h3 H)
def f_CB_order (N : Nat)  (l1 : Int32) (l2 : Int32) (l3 : Int32) (l4 : Int32) (l5 : Int32) (l6 : Int32) (h : sh_H) : Option (Int32 × sh_H) := (Option.bind (f_CB_isPlan l1 l2 l3 l4 l6 h) (fun v1 => (if v1 = 0 then (some ((-1 : Int32), h)) else (Option.bind (f_CB_within l5 (0 : Int32) (60 : Int32) h) (fun v2 => (if v2 = 0 then (some ((-1 : Int32), h)) else (Option.bind (f_Stocks_plan N h.2.2.1 l1 l2 l3 l4 l6 h) (fun h3 => (Option.bind (f_Stocks_brings l5 h3) (fun v4 => (some (v4, h3))))))))))))
theorem x_CB_order (N : Nat) {d : Nat} (hd : 6 ≤ d) (l1 : Int32) (l2 : Int32) (l3 : Int32) (l4 : Int32) (l5 : Int32) (l6 : Int32) (h : sh_H) {Q : ai_Q} {R : Int32 × sh_H → Prop} (H : sh_ok (f_CB_order N l1 l2 l3 l4 l5 l6 h) R) (hR : ∀ r h, R (r, h) → Q (some (aI r)) (sh_E h)) : ai_Ex sh_T d 172 [aR 11 0, aI l1, aI l2, aI l3, aI l4, aI l5, aI l6] (sh_E h) Q := by
  obtain ⟨d, rfl⟩ : ∃ e, d = e + 1 := ⟨d - 1, by omega⟩
  replace hd : 5 ≤ d := by omega
  refine And.intro (Nat.le_of_ble_eq_true rfl) ?_
  show wq_172 d Q 0 [oR 11 0, oI l1, oI l2, oI l3, oI l4, oI l5, oI l6] [] (sh_E h)
  refine ai_WP_steps mc_172 (sh_CM d) 7 (And.intro (Nat.le_of_ble_eq_true rfl) (x_CB_isPlan (Nat.le_trans (Nat.le_of_ble_eq_true rfl) hd) l1 l2 l3 l4 l6 h (sh_okB H) (fun v1 H => ?_)))
  show wq_172 d Q 11 [oR 11 0, oI l1, oI l2, oI l3, oI l4, oI l5, oI l6] [aI v1] (sh_E h)
  refine ai_WP_steps mc_172 (sh_CM d) 1 (And.intro (fun c => ?_) (fun c => ?_))
  · replace H := sh_okT c H
    show wq_172 d Q 25 [oR 11 0, oI l1, oI l2, oI l3, oI l4, oI l5, oI l6] [] (sh_E h)
    exact ai_WP_steps mc_172 (sh_CM d) 2 (hR (-1 : Int32) h H)
  · replace H := sh_okF c H
    show wq_172 d Q 14 [oR 11 0, oI l1, oI l2, oI l3, oI l4, oI l5, oI l6] [] (sh_E h)
    refine ai_WP_steps mc_172 (sh_CM d) 4 (And.intro (Nat.le_of_ble_eq_true rfl) (x_CB_within (Nat.le_trans (Nat.le_of_ble_eq_true rfl) hd) l5 (0 : Int32) (60 : Int32) h (sh_okB H) (fun v2 H => ?_)))
    show wq_172 d Q 22 [oR 11 0, oI l1, oI l2, oI l3, oI l4, oI l5, oI l6] [aI v2] (sh_E h)
    refine ai_WP_steps mc_172 (sh_CM d) 1 (And.intro (fun c => ?_) (fun c => ?_))
    · replace H := sh_okT c H
      show wq_172 d Q 25 [oR 11 0, oI l1, oI l2, oI l3, oI l4, oI l5, oI l6] [] (sh_E h)
      exact ai_WP_steps mc_172 (sh_CM d) 2 (hR (-1 : Int32) h H)
    · replace H := sh_okF c H
      show wq_172 d Q 27 [oR 11 0, oI l1, oI l2, oI l3, oI l4, oI l5, oI l6] [] (sh_E h)
      refine ai_WP_steps mc_172 (sh_CM d) 10 (And.intro (Nat.le_of_ble_eq_true rfl) (x_Stocks_plan N (Nat.le_trans (Nat.le_of_ble_eq_true rfl) hd) h.2.2.1 l1 l2 l3 l4 l6 h (sh_okB H) (fun h3 H => ?_)))
      show wq_172 d Q 45 [oR 11 0, oI l1, oI l2, oI l3, oI l4, oI l5, oI l6] [] (sh_E h3)
      refine ai_WP_steps mc_172 (sh_CM d) 4 (And.intro (Nat.le_of_ble_eq_true rfl) (x_Stocks_brings (Nat.le_trans (Nat.le_of_ble_eq_true rfl) hd) l5 h3 (sh_okB H) (fun v4 H => ?_)))
      show wq_172 d Q 54 [oR 11 0, oI l1, oI l2, oI l3, oI l4, oI l5, oI l6] [aI v4] (sh_E h3)
      exact ai_WP_steps mc_172 (sh_CM d) 1 (hR v4 h3 H)
def f_CB_price_b25 (N : Nat)    (h : sh_H) : Option (Int64 × sh_H) := (some ((-1 : Int64), h))
theorem x_CB_price_b25 (N : Nat) {d : Nat} (hd : 5 ≤ d) {Q : ai_Q} {R : Int64 × sh_H → Prop} (hR : ∀ r h, R (r, h) → Q (some (aL r)) (sh_E h))    {d0 d1 d2 d3 d4 d5 d6 : Option ai_V} (h : sh_H) (H : sh_ok (f_CB_price_b25 N h) R) : wq_173 d Q 25 [d0, d1, d2, d3, d4, d5, d6] [] (sh_E h) := by
  exact ai_WP_steps mc_173 (sh_CM d) 2 (hR (-1 : Int64) h H)
def f_CB_price (N : Nat)  (l1 : Int32) (l2 : Int32) (l3 : Int32) (l4 : Int32) (l5 : Int32) (l6 : Int32) (h : sh_H) : Option (Int64 × sh_H) := (Option.bind (f_CB_isPlan l1 l2 l3 l4 l6 h) (fun v1 => (if v1 = 0 then f_CB_price_b25 N h else (Option.bind (f_CB_within l5 (0 : Int32) (59 : Int32) h) (fun v2 => (if v2 = 0 then f_CB_price_b25 N h else (Option.bind (f_Stocks_plan N h.2.2.1 l1 l2 l3 l4 l6 h) (fun h3 => (Option.bind (f_Stocks_cost l5 h3) (fun v4 => (Option.bind (f_Stocks_cost (l5 + (1 : Int32)) h3) (fun v5 => (some ((v4 - v5), h3))))))))))))))
theorem x_CB_price (N : Nat) {d : Nat} (hd : 6 ≤ d) (l1 : Int32) (l2 : Int32) (l3 : Int32) (l4 : Int32) (l5 : Int32) (l6 : Int32) (h : sh_H) {Q : ai_Q} {R : Int64 × sh_H → Prop} (H : sh_ok (f_CB_price N l1 l2 l3 l4 l5 l6 h) R) (hR : ∀ r h, R (r, h) → Q (some (aL r)) (sh_E h)) : ai_Ex sh_T d 173 [aR 11 0, aI l1, aI l2, aI l3, aI l4, aI l5, aI l6] (sh_E h) Q := by
  obtain ⟨d, rfl⟩ : ∃ e, d = e + 1 := ⟨d - 1, by omega⟩
  replace hd : 5 ≤ d := by omega
  refine And.intro (Nat.le_of_ble_eq_true rfl) ?_
  show wq_173 d Q 0 [oR 11 0, oI l1, oI l2, oI l3, oI l4, oI l5, oI l6] [] (sh_E h)
  refine ai_WP_steps mc_173 (sh_CM d) 7 (And.intro (Nat.le_of_ble_eq_true rfl) (x_CB_isPlan (Nat.le_trans (Nat.le_of_ble_eq_true rfl) hd) l1 l2 l3 l4 l6 h (sh_okB H) (fun v1 H => ?_)))
  show wq_173 d Q 11 [oR 11 0, oI l1, oI l2, oI l3, oI l4, oI l5, oI l6] [aI v1] (sh_E h)
  refine ai_WP_steps mc_173 (sh_CM d) 1 (And.intro (fun c => ?_) (fun c => ?_))
  · replace H := sh_okT c H
    exact x_CB_price_b25 N hd hR h H
  · replace H := sh_okF c H
    show wq_173 d Q 14 [oR 11 0, oI l1, oI l2, oI l3, oI l4, oI l5, oI l6] [] (sh_E h)
    refine ai_WP_steps mc_173 (sh_CM d) 4 (And.intro (Nat.le_of_ble_eq_true rfl) (x_CB_within (Nat.le_trans (Nat.le_of_ble_eq_true rfl) hd) l5 (0 : Int32) (59 : Int32) h (sh_okB H) (fun v2 H => ?_)))
    show wq_173 d Q 22 [oR 11 0, oI l1, oI l2, oI l3, oI l4, oI l5, oI l6] [aI v2] (sh_E h)
    refine ai_WP_steps mc_173 (sh_CM d) 1 (And.intro (fun c => ?_) (fun c => ?_))
    · replace H := sh_okT c H
      exact x_CB_price_b25 N hd hR h H
    · replace H := sh_okF c H
      show wq_173 d Q 29 [oR 11 0, oI l1, oI l2, oI l3, oI l4, oI l5, oI l6] [] (sh_E h)
      refine ai_WP_steps mc_173 (sh_CM d) 10 (And.intro (Nat.le_of_ble_eq_true rfl) (x_Stocks_plan N (Nat.le_trans (Nat.le_of_ble_eq_true rfl) hd) h.2.2.1 l1 l2 l3 l4 l6 h (sh_okB H) (fun h3 H => ?_)))
      show wq_173 d Q 47 [oR 11 0, oI l1, oI l2, oI l3, oI l4, oI l5, oI l6] [] (sh_E h3)
      refine ai_WP_steps mc_173 (sh_CM d) 4 (And.intro (Nat.le_of_ble_eq_true rfl) (x_Stocks_cost (Nat.le_trans (Nat.le_of_ble_eq_true rfl) hd) l5 h3 (sh_okB H) (fun v4 H => ?_)))
      show wq_173 d Q 56 [oR 11 0, oI l1, oI l2, oI l3, oI l4, oI l5, oI l6] [aL v4] (sh_E h3)
      refine ai_WP_steps mc_173 (sh_CM d) 6 (And.intro (Nat.le_of_ble_eq_true rfl) (x_Stocks_cost (Nat.le_trans (Nat.le_of_ble_eq_true rfl) hd) (l5 + (1 : Int32)) h3 (sh_okB H) (fun v5 H => ?_)))
      show wq_173 d Q 67 [oR 11 0, oI l1, oI l2, oI l3, oI l4, oI l5, oI l6] [aL v5, aL v4] (sh_E h3)
      exact ai_WP_steps mc_173 (sh_CM d) 2 (hR (v4 - v5) h3 H)
def f_CB_isShare_b44    (h : sh_H) : Option Int32 := (some (ai_nar 1 (0 : Int32)))
theorem x_CB_isShare_b44 {d : Nat} (hd : 2 ≤ d) (h : sh_H) {Q : ai_Q} {R : Int32 → Prop} (hR : ∀ r, R r → Q (some (aI r)) (sh_E h))    {d0 d1 d2 d3 : Option ai_V} (H : sh_ok (f_CB_isShare_b44 h) R) : wq_199 d Q 44 [d0, d1, d2, d3] [] (sh_E h) := by
  exact ai_WP_steps mc_199 (sh_CM d) 2 (hR (ai_nar 1 (0 : Int32)) H)
def f_CB_isShare  (l1 : Int32) (l2 : Int32) (l3 : Int32) (h : sh_H) : Option Int32 := (Option.bind (f_Text_isKind h.2.2.1 l1 h) (fun v1 => (if v1 = 0 then f_CB_isShare_b44 h else (Option.bind (f_CB_isMonth l2 h) (fun v2 => (if v2 = 0 then f_CB_isShare_b44 h else (Option.bind (f_Rows_size (7 * h.2.2.1 + 1) h) (fun v3 => (Option.bind (f_CB_within l3 (0 : Int32) (((1 : Int32) <<< (v3 &&& 31)) - (1 : Int32)) h) (fun v4 => (if v4 = 0 then f_CB_isShare_b44 h else (some (ai_nar 1 (1 : Int32))))))))))))))
theorem x_CB_isShare {d : Nat} (hd : 3 ≤ d) (l1 : Int32) (l2 : Int32) (l3 : Int32) (h : sh_H) {Q : ai_Q} {R : Int32 → Prop} (H : sh_ok (f_CB_isShare l1 l2 l3 h) R) (hR : ∀ r, R r → Q (some (aI r)) (sh_E h)) : ai_Ex sh_T d 199 [aR 11 0, aI l1, aI l2, aI l3] (sh_E h) Q := by
  obtain ⟨d, rfl⟩ : ∃ e, d = e + 1 := ⟨d - 1, by omega⟩
  replace hd : 2 ≤ d := by omega
  refine And.intro (Nat.le_of_ble_eq_true rfl) ?_
  show wq_199 d Q 0 [oR 11 0, oI l1, oI l2, oI l3] [] (sh_E h)
  refine ai_WP_steps mc_199 (sh_CM d) 4 (And.intro (Nat.le_of_ble_eq_true rfl) (x_Text_isKind (Nat.le_trans (Nat.le_of_ble_eq_true rfl) hd) h.2.2.1 l1 h (sh_okB H) (fun v1 H => ?_)))
  show wq_199 d Q 8 [oR 11 0, oI l1, oI l2, oI l3] [aI v1] (sh_E h)
  refine ai_WP_steps mc_199 (sh_CM d) 1 (And.intro (fun c => ?_) (fun c => ?_))
  · replace H := sh_okT c H
    exact x_CB_isShare_b44 hd h hR H
  · replace H := sh_okF c H
    show wq_199 d Q 11 [oR 11 0, oI l1, oI l2, oI l3] [] (sh_E h)
    refine ai_WP_steps mc_199 (sh_CM d) 2 (And.intro (Nat.le_of_ble_eq_true rfl) (x_CB_isMonth (Nat.le_trans (Nat.le_of_ble_eq_true rfl) hd) l2 h (sh_okB H) (fun v2 H => ?_)))
    show wq_199 d Q 15 [oR 11 0, oI l1, oI l2, oI l3] [aI v2] (sh_E h)
    refine ai_WP_steps mc_199 (sh_CM d) 1 (And.intro (fun c => ?_) (fun c => ?_))
    · replace H := sh_okT c H
      exact x_CB_isShare_b44 hd h hR H
    · replace H := sh_okF c H
      show wq_199 d Q 18 [oR 11 0, oI l1, oI l2, oI l3] [] (sh_E h)
      refine ai_WP_steps mc_199 (sh_CM d) 7 (And.intro (Nat.le_of_ble_eq_true rfl) (x_Rows_size (Nat.le_trans (Nat.le_of_ble_eq_true rfl) hd) (7 * h.2.2.1 + 1) h (sh_okB H) (fun v3 H => ?_)))
      show wq_199 d Q 31 [oR 11 0, oI l1, oI l2, oI l3] [aI v3, aI (1 : Int32), aI (0 : Int32), aI l3] (sh_E h)
      refine ai_WP_steps mc_199 (sh_CM d) 4 (And.intro (Nat.le_of_ble_eq_true rfl) (x_CB_within (Nat.le_trans (Nat.le_of_ble_eq_true rfl) hd) l3 (0 : Int32) (((1 : Int32) <<< (v3 &&& 31)) - (1 : Int32)) h (sh_okB H) (fun v4 H => ?_)))
      show wq_199 d Q 37 [oR 11 0, oI l1, oI l2, oI l3] [aI v4] (sh_E h)
      refine ai_WP_steps mc_199 (sh_CM d) 1 (And.intro (fun c => ?_) (fun c => ?_))
      · replace H := sh_okT c H
        exact x_CB_isShare_b44 hd h hR H
      · replace H := sh_okF c H
        show wq_199 d Q 40 [oR 11 0, oI l1, oI l2, oI l3] [] (sh_E h)
        exact ai_WP_steps mc_199 (sh_CM d) 3 (hR (ai_nar 1 (1 : Int32)) H)
def f_CB_pool (N : Nat)  (l1 : Int32) (l2 : Int32) (l3 : Int32) (h : sh_H) : Option (Int32 × sh_H) := (Option.bind (f_CB_isShare l1 l2 l3 h) (fun v1 => (if v1 = 0 then (some ((-1 : Int32), h)) else (sh_b2 (f_Stocks_harm N h.2.2.1 0 l1 l2 l3 h) (fun v2 h3 => (some (v2, h3)))))))
theorem x_CB_pool (N : Nat) {d : Nat} (hd : 6 ≤ d) (l1 : Int32) (l2 : Int32) (l3 : Int32) (h : sh_H) {Q : ai_Q} {R : Int32 × sh_H → Prop} (H : sh_ok (f_CB_pool N l1 l2 l3 h) R) (hR : ∀ r h, R (r, h) → Q (some (aI r)) (sh_E h)) : ai_Ex sh_T d 174 [aR 11 0, aI l1, aI l2, aI l3] (sh_E h) Q := by
  obtain ⟨d, rfl⟩ : ∃ e, d = e + 1 := ⟨d - 1, by omega⟩
  replace hd : 5 ≤ d := by omega
  refine And.intro (Nat.le_of_ble_eq_true rfl) ?_
  show wq_174 d Q 0 [oR 11 0, oI l1, oI l2, oI l3] [] (sh_E h)
  refine ai_WP_steps mc_174 (sh_CM d) 5 (And.intro (Nat.le_of_ble_eq_true rfl) (x_CB_isShare (Nat.le_trans (Nat.le_of_ble_eq_true rfl) hd) l1 l2 l3 h (sh_okB H) (fun v1 H => ?_)))
  show wq_174 d Q 7 [oR 11 0, oI l1, oI l2, oI l3] [aI v1] (sh_E h)
  refine ai_WP_steps mc_174 (sh_CM d) 1 (And.intro (fun c => ?_) (fun c => ?_))
  · replace H := sh_okT c H
    show wq_174 d Q 30 [oR 11 0, oI l1, oI l2, oI l3] [] (sh_E h)
    exact ai_WP_steps mc_174 (sh_CM d) 2 (hR (-1 : Int32) h H)
  · replace H := sh_okF c H
    show wq_174 d Q 10 [oR 11 0, oI l1, oI l2, oI l3] [] (sh_E h)
    refine ai_WP_steps mc_174 (sh_CM d) 9 (And.intro (Nat.le_of_ble_eq_true rfl) (x_Stocks_harm N (Nat.le_trans (Nat.le_of_ble_eq_true rfl) hd) h.2.2.1 0 l1 l2 l3 h (sh_okB H) (fun v2 h3 H => ?_)))
    show wq_174 d Q 27 [oR 11 0, oI l1, oI l2, oI l3] [aI v2] (sh_E h3)
    exact ai_WP_steps mc_174 (sh_CM d) 2 (hR v2 h3 H)
def f_CB_saved (N : Nat)  (l1 : Int32) (l2 : Int32) (l3 : Int32) (h : sh_H) : Option (Int32 × sh_H) := (Option.bind (f_CB_isShare l1 l2 l3 h) (fun v1 => (if v1 = 0 then (some ((-1 : Int32), h)) else (sh_b2 (f_Stocks_saving N h.2.2.1 0 l1 l2 l3 h) (fun v2 h3 => (some (v2, h3)))))))
theorem x_CB_saved (N : Nat) {d : Nat} (hd : 7 ≤ d) (l1 : Int32) (l2 : Int32) (l3 : Int32) (h : sh_H) {Q : ai_Q} {R : Int32 × sh_H → Prop} (H : sh_ok (f_CB_saved N l1 l2 l3 h) R) (hR : ∀ r h, R (r, h) → Q (some (aI r)) (sh_E h)) : ai_Ex sh_T d 175 [aR 11 0, aI l1, aI l2, aI l3] (sh_E h) Q := by
  obtain ⟨d, rfl⟩ : ∃ e, d = e + 1 := ⟨d - 1, by omega⟩
  replace hd : 6 ≤ d := by omega
  refine And.intro (Nat.le_of_ble_eq_true rfl) ?_
  show wq_175 d Q 0 [oR 11 0, oI l1, oI l2, oI l3] [] (sh_E h)
  refine ai_WP_steps mc_175 (sh_CM d) 5 (And.intro (Nat.le_of_ble_eq_true rfl) (x_CB_isShare (Nat.le_trans (Nat.le_of_ble_eq_true rfl) hd) l1 l2 l3 h (sh_okB H) (fun v1 H => ?_)))
  show wq_175 d Q 7 [oR 11 0, oI l1, oI l2, oI l3] [aI v1] (sh_E h)
  refine ai_WP_steps mc_175 (sh_CM d) 1 (And.intro (fun c => ?_) (fun c => ?_))
  · replace H := sh_okT c H
    show wq_175 d Q 30 [oR 11 0, oI l1, oI l2, oI l3] [] (sh_E h)
    exact ai_WP_steps mc_175 (sh_CM d) 2 (hR (-1 : Int32) h H)
  · replace H := sh_okF c H
    show wq_175 d Q 10 [oR 11 0, oI l1, oI l2, oI l3] [] (sh_E h)
    refine ai_WP_steps mc_175 (sh_CM d) 9 (And.intro (Nat.le_of_ble_eq_true rfl) (x_Stocks_saving N (Nat.le_trans (Nat.le_of_ble_eq_true rfl) hd) h.2.2.1 0 l1 l2 l3 h (sh_okB H) (fun v2 h3 H => ?_)))
    show wq_175 d Q 27 [oR 11 0, oI l1, oI l2, oI l3] [aI v2] (sh_E h3)
    exact ai_WP_steps mc_175 (sh_CM d) 2 (hR v2 h3 H)
def f_CB_sumOfParts_b70   (s0 : Int64) (s1 : Int64) (h : sh_H) : Option Int64 := (some (s0 + s1))
theorem x_CB_sumOfParts_b70 {d : Nat} (hd : 0 ≤ d) (h : sh_H) {Q : ai_Q} {R : Int64 → Prop} (hR : ∀ r, R r → Q (some (aL r)) (sh_E h))   (s0 : Int64) (s1 : Int64) {d0 d1 d2 d3 d4 d5 d6 : Option ai_V} (H : sh_ok (f_CB_sumOfParts_b70 s0 s1 h) R) : wq_177 d Q 70 [d0, d1, d2, d3, d4, d5, d6] [aL s1, aL s0] (sh_E h) := by
  exact ai_WP_steps mc_177 (sh_CM d) 4 (hR (s0 + s1) H)
def f_CB_sumOfParts_b51   (l0 : Int32) (l4 : Int32) (s0 : Int64) (s1 : Int64) (h : sh_H) : Option Int64 := (if (l0 &&& (8 : Int32)) = 0 then f_CB_sumOfParts_b70 (s0 + s1) (0 : Int64) h else f_CB_sumOfParts_b70 (s0 + s1) l4.toInt64 h)
theorem x_CB_sumOfParts_b51 {d : Nat} (hd : 0 ≤ d) (h : sh_H) {Q : ai_Q} {R : Int64 → Prop} (hR : ∀ r, R r → Q (some (aL r)) (sh_E h))   (l0 : Int32) (l4 : Int32) (s0 : Int64) (s1 : Int64) {d1 d2 d3 d5 d6 : Option ai_V} (H : sh_ok (f_CB_sumOfParts_b51 l0 l4 s0 s1 h) R) : wq_177 d Q 51 [oI l0, d1, d2, d3, oI l4, d5, d6] [aL s1, aL s0] (sh_E h) := by
  refine ai_WP_steps mc_177 (sh_CM d) 7 (And.intro (fun c => ?_) (fun c => ?_))
  · replace H := sh_okT c H
    show wq_177 d Q 69 [oI l0, _, _, _, oI l4, oL (s0 + s1), _] [aL (s0 + s1)] (sh_E h)
    refine ai_WP_steps mc_177 (sh_CM d) 1 ?_
    exact x_CB_sumOfParts_b70 hd h hR (s0 + s1) (0 : Int64) H
  · replace H := sh_okF c H
    show wq_177 d Q 63 [oI l0, _, _, _, oI l4, oL (s0 + s1), _] [aL (s0 + s1)] (sh_E h)
    refine ai_WP_steps mc_177 (sh_CM d) 3 ?_
    exact x_CB_sumOfParts_b70 hd h hR (s0 + s1) l4.toInt64 H
def f_CB_sumOfParts_b34   (l0 : Int32) (l3 : Int32) (l4 : Int32) (s0 : Int64) (s1 : Int64) (h : sh_H) : Option Int64 := (if (l0 &&& (4 : Int32)) = 0 then f_CB_sumOfParts_b51 l0 l4 (s0 + s1) (0 : Int64) h else f_CB_sumOfParts_b51 l0 l4 (s0 + s1) l3.toInt64 h)
theorem x_CB_sumOfParts_b34 {d : Nat} (hd : 0 ≤ d) (h : sh_H) {Q : ai_Q} {R : Int64 → Prop} (hR : ∀ r, R r → Q (some (aL r)) (sh_E h))   (l0 : Int32) (l3 : Int32) (l4 : Int32) (s0 : Int64) (s1 : Int64) {d1 d2 d5 d6 : Option ai_V} (H : sh_ok (f_CB_sumOfParts_b34 l0 l3 l4 s0 s1 h) R) : wq_177 d Q 34 [oI l0, d1, d2, oI l3, oI l4, d5, d6] [aL s1, aL s0] (sh_E h) := by
  refine ai_WP_steps mc_177 (sh_CM d) 7 (And.intro (fun c => ?_) (fun c => ?_))
  · replace H := sh_okT c H
    show wq_177 d Q 50 [oI l0, _, _, oI l3, oI l4, oL (s0 + s1), _] [aL (s0 + s1)] (sh_E h)
    refine ai_WP_steps mc_177 (sh_CM d) 1 ?_
    exact x_CB_sumOfParts_b51 hd h hR l0 l4 (s0 + s1) (0 : Int64) H
  · replace H := sh_okF c H
    show wq_177 d Q 45 [oI l0, _, _, oI l3, oI l4, oL (s0 + s1), _] [aL (s0 + s1)] (sh_E h)
    refine ai_WP_steps mc_177 (sh_CM d) 3 ?_
    exact x_CB_sumOfParts_b51 hd h hR l0 l4 (s0 + s1) l3.toInt64 H
def f_CB_sumOfParts_b17   (l0 : Int32) (l2 : Int32) (l3 : Int32) (l4 : Int32) (s0 : Int64) (s1 : Int64) (h : sh_H) : Option Int64 := (if (l0 &&& (2 : Int32)) = 0 then f_CB_sumOfParts_b34 l0 l3 l4 (s0 + s1) (0 : Int64) h else f_CB_sumOfParts_b34 l0 l3 l4 (s0 + s1) l2.toInt64 h)
theorem x_CB_sumOfParts_b17 {d : Nat} (hd : 0 ≤ d) (h : sh_H) {Q : ai_Q} {R : Int64 → Prop} (hR : ∀ r, R r → Q (some (aL r)) (sh_E h))   (l0 : Int32) (l2 : Int32) (l3 : Int32) (l4 : Int32) (s0 : Int64) (s1 : Int64) {d1 d5 d6 : Option ai_V} (H : sh_ok (f_CB_sumOfParts_b17 l0 l2 l3 l4 s0 s1 h) R) : wq_177 d Q 17 [oI l0, d1, oI l2, oI l3, oI l4, d5, d6] [aL s1, aL s0] (sh_E h) := by
  refine ai_WP_steps mc_177 (sh_CM d) 7 (And.intro (fun c => ?_) (fun c => ?_))
  · replace H := sh_okT c H
    show wq_177 d Q 33 [oI l0, _, oI l2, oI l3, oI l4, oL (s0 + s1), _] [aL (s0 + s1)] (sh_E h)
    refine ai_WP_steps mc_177 (sh_CM d) 1 ?_
    exact x_CB_sumOfParts_b34 hd h hR l0 l3 l4 (s0 + s1) (0 : Int64) H
  · replace H := sh_okF c H
    show wq_177 d Q 28 [oI l0, _, oI l2, oI l3, oI l4, oL (s0 + s1), _] [aL (s0 + s1)] (sh_E h)
    refine ai_WP_steps mc_177 (sh_CM d) 3 ?_
    exact x_CB_sumOfParts_b34 hd h hR l0 l3 l4 (s0 + s1) l2.toInt64 H
def f_CB_sumOfParts  (l0 : Int32) (l1 : Int32) (l2 : Int32) (l3 : Int32) (l4 : Int32) (h : sh_H) : Option Int64 := (if (l0 &&& (1 : Int32)) = 0 then f_CB_sumOfParts_b17 l0 l2 l3 l4 (0 : Int64) (0 : Int64) h else f_CB_sumOfParts_b17 l0 l2 l3 l4 (0 : Int64) l1.toInt64 h)
theorem x_CB_sumOfParts {d : Nat} (hd : 1 ≤ d) (l0 : Int32) (l1 : Int32) (l2 : Int32) (l3 : Int32) (l4 : Int32) (h : sh_H) {Q : ai_Q} {R : Int64 → Prop} (H : sh_ok (f_CB_sumOfParts l0 l1 l2 l3 l4 h) R) (hR : ∀ r, R r → Q (some (aL r)) (sh_E h)) : ai_Ex sh_T d 177 [aI l0, aI l1, aI l2, aI l3, aI l4] (sh_E h) Q := by
  obtain ⟨d, rfl⟩ : ∃ e, d = e + 1 := ⟨d - 1, by omega⟩
  replace hd : 0 ≤ d := by omega
  refine And.intro (Nat.le_of_ble_eq_true rfl) ?_
  show wq_177 d Q 0 [oI l0, oI l1, oI l2, oI l3, oI l4, none, none] [] (sh_E h)
  refine ai_WP_steps mc_177 (sh_CM d) 7 (And.intro (fun c => ?_) (fun c => ?_))
  · replace H := sh_okT c H
    show wq_177 d Q 16 [oI l0, oI l1, oI l2, oI l3, oI l4, oL (0 : Int64), _] [aL (0 : Int64)] (sh_E h)
    refine ai_WP_steps mc_177 (sh_CM d) 1 ?_
    exact x_CB_sumOfParts_b17 hd h hR l0 l2 l3 l4 (0 : Int64) (0 : Int64) H
  · replace H := sh_okF c H
    show wq_177 d Q 11 [oI l0, oI l1, oI l2, oI l3, oI l4, oL (0 : Int64), _] [aL (0 : Int64)] (sh_E h)
    refine ai_WP_steps mc_177 (sh_CM d) 3 ?_
    exact x_CB_sumOfParts_b17 hd h hR l0 l2 l3 l4 (0 : Int64) l1.toInt64 H
def f_CB_holds_c79 (N : Nat)  (k130 : Int32 → Int32 → Int32 → Int32 → Int32 → Int32 → Int32 → sh_H → Option (Int32 × sh_H)) (k79 : Int32 → Int32 → Int32 → Int32 → Int32 → Int32 → Int32 → Int32 → sh_H → Option (Int32 × sh_H)) (l1 : Int32) (l2 : Int32) (l3 : Int32) (l4 : Int32) (l5 : Int32) (l6 : Int32) (l8 : Int32) (l9 : Int32) (h : sh_H) : Option (Int32 × sh_H) := (if l8 < l9 then k130 l1 l2 l3 l4 l5 l6 l8 h else (sh_b2 (f_Stocks_saving N h.2.2.1 0 l1 l2 l9 h) (fun v1 h2 => (Option.bind (f_CB_sumOfParts l9 l3 l4 l5 l6 h2) (fun v3 => (if 0 < (lg_cmp v1.toInt64 v3) then (some (l9, h2)) else k79 l1 l2 l3 l4 l5 l6 l8 (l9 + (1 : Int32)) h2))))))
def f_CB_holds_l79 (N : Nat)  (k130 : Int32 → Int32 → Int32 → Int32 → Int32 → Int32 → Int32 → sh_H → Option (Int32 × sh_H)) (n : Nat) : Int32 → Int32 → Int32 → Int32 → Int32 → Int32 → Int32 → Int32 → sh_H → Option (Int32 × sh_H) := Nat.rec (motive := fun _ => Int32 → Int32 → Int32 → Int32 → Int32 → Int32 → Int32 → Int32 → sh_H → Option (Int32 × sh_H)) (fun _ _ _ _ _ _ _ _ _ => none) (fun _ k79 => f_CB_holds_c79 N k130 k79) n
theorem x_CB_holds_l79 (N : Nat) {d : Nat} (hd : 6 ≤ d) {Q : ai_Q} {R : Int32 × sh_H → Prop} (hR : ∀ r h, R (r, h) → Q (some (aI r)) (sh_E h))  (k130 : Int32 → Int32 → Int32 → Int32 → Int32 → Int32 → Int32 → sh_H → Option (Int32 × sh_H)) (hk130 : ∀ (l1 : Int32) (l2 : Int32) (l3 : Int32) (l4 : Int32) (l5 : Int32) (l6 : Int32) (l8 : Int32) {d7 d9 : Option ai_V} (h : sh_H), sh_ok (k130 l1 l2 l3 l4 l5 l6 l8 h) R → wq_176 d Q 130 [oR 11 0, oI l1, oI l2, oI l3, oI l4, oI l5, oI l6, d7, oI l8, d9] [] (sh_E h)) (n : Nat) : ∀ (l1 : Int32) (l2 : Int32) (l3 : Int32) (l4 : Int32) (l5 : Int32) (l6 : Int32) (l8 : Int32) (l9 : Int32) {d7 : Option ai_V} (h : sh_H), sh_ok (f_CB_holds_l79 N k130 n l1 l2 l3 l4 l5 l6 l8 l9 h) R → wq_176 d Q 79 [oR 11 0, oI l1, oI l2, oI l3, oI l4, oI l5, oI l6, d7, oI l8, oI l9] [] (sh_E h) := by
  induction n with
  | zero => intro l1 l2 l3 l4 l5 l6 l8 l9 d7 h H; exact H.elim
  | succ n ih =>
    intro l1 l2 l3 l4 l5 l6 l8 l9 d7 h H
    have hk79 := @ih
    replace H : sh_ok (f_CB_holds_c79 N k130 (f_CB_holds_l79 N k130 n) l1 l2 l3 l4 l5 l6 l8 l9 h) R := H
    revert hk79 H
    generalize f_CB_holds_l79 N k130 n = k79
    intro hk79 H
    refine ai_WP_steps mc_176 (sh_CM d) 3 (And.intro (fun c => ?_) (fun c => ?_))
    · replace H := sh_okT c H
      exact hk130 l1 l2 l3 l4 l5 l6 l8 h H
    · replace H := sh_okF c H
      show wq_176 d Q 86 [oR 11 0, oI l1, oI l2, oI l3, oI l4, oI l5, oI l6, _, oI l8, oI l9] [] (sh_E h)
      refine ai_WP_steps mc_176 (sh_CM d) 9 (And.intro (Nat.le_of_ble_eq_true rfl) (x_Stocks_saving N (Nat.le_trans (Nat.le_of_ble_eq_true rfl) hd) h.2.2.1 0 l1 l2 l9 h (sh_okB H) (fun v1 h2 H => ?_)))
      show wq_176 d Q 104 [oR 11 0, oI l1, oI l2, oI l3, oI l4, oI l5, oI l6, _, oI l8, oI l9] [aI v1] (sh_E h2)
      refine ai_WP_steps mc_176 (sh_CM d) 7 (And.intro (Nat.le_of_ble_eq_true rfl) (x_CB_sumOfParts (Nat.le_trans (Nat.le_of_ble_eq_true rfl) hd) l9 l3 l4 l5 l6 h2 (sh_okB H) (fun v3 H => ?_)))
      show wq_176 d Q 117 [oR 11 0, oI l1, oI l2, oI l3, oI l4, oI l5, oI l6, _, oI l8, oI l9] [aL v3, aL v1.toInt64] (sh_E h2)
      refine ai_WP_steps mc_176 (sh_CM d) 2 (And.intro (fun c => ?_) (fun c => ?_))
      · replace H := sh_okT c H
        show wq_176 d Q 121 [oR 11 0, oI l1, oI l2, oI l3, oI l4, oI l5, oI l6, _, oI l8, oI l9] [] (sh_E h2)
        exact ai_WP_steps mc_176 (sh_CM d) 2 (hR l9 h2 H)
      · replace H := sh_okF c H
        show wq_176 d Q 124 [oR 11 0, oI l1, oI l2, oI l3, oI l4, oI l5, oI l6, _, oI l8, oI l9] [] (sh_E h2)
        refine ai_WP_steps mc_176 (sh_CM d) 2 ?_
        exact hk79 l1 l2 l3 l4 l5 l6 l8 (l9 + (1 : Int32)) h2 H
def f_CB_holds_b130 (N : Nat)   (l1 : Int32) (l2 : Int32) (l3 : Int32) (l4 : Int32) (l5 : Int32) (l6 : Int32) (l8 : Int32) (h : sh_H) : Option (Int32 × sh_H) := (sh_b2 (f_Stocks_saving N h.2.2.1 0 l1 l2 l8 h) (fun v4 h5 => (Option.bind (f_CB_sumOfParts l8 l3 l4 l5 l6 h5) (fun v6 => (if (lg_cmp v4.toInt64 v6) = 0 then (some ((0 : Int32), h5)) else (some ((16 : Int32), h5)))))))
theorem x_CB_holds_b130 (N : Nat) {d : Nat} (hd : 6 ≤ d) {Q : ai_Q} {R : Int32 × sh_H → Prop} (hR : ∀ r h, R (r, h) → Q (some (aI r)) (sh_E h))   (l1 : Int32) (l2 : Int32) (l3 : Int32) (l4 : Int32) (l5 : Int32) (l6 : Int32) (l8 : Int32) {d7 d9 : Option ai_V} (h : sh_H) (H : sh_ok (f_CB_holds_b130 N l1 l2 l3 l4 l5 l6 l8 h) R) : wq_176 d Q 130 [oR 11 0, oI l1, oI l2, oI l3, oI l4, oI l5, oI l6, d7, oI l8, d9] [] (sh_E h) := by
  refine ai_WP_steps mc_176 (sh_CM d) 9 (And.intro (Nat.le_of_ble_eq_true rfl) (x_Stocks_saving N (Nat.le_trans (Nat.le_of_ble_eq_true rfl) hd) h.2.2.1 0 l1 l2 l8 h (sh_okB H) (fun v4 h5 H => ?_)))
  show wq_176 d Q 148 [oR 11 0, oI l1, oI l2, oI l3, oI l4, oI l5, oI l6, _, oI l8, _] [aI v4] (sh_E h5)
  refine ai_WP_steps mc_176 (sh_CM d) 9 (And.intro (Nat.le_of_ble_eq_true rfl) (x_CB_sumOfParts (Nat.le_trans (Nat.le_of_ble_eq_true rfl) hd) l8 l3 l4 l5 l6 h5 (sh_okB H) (fun v6 H => ?_)))
  show wq_176 d Q 165 [oR 11 0, oI l1, oI l2, oI l3, oI l4, oI l5, oI l6, _, oI l8, oI v4] [aL v6, aL v4.toInt64] (sh_E h5)
  refine ai_WP_steps mc_176 (sh_CM d) 2 (And.intro (fun c => ?_) (fun c => ?_))
  · replace H := sh_okT c H
    show wq_176 d Q 169 [oR 11 0, oI l1, oI l2, oI l3, oI l4, oI l5, oI l6, _, oI l8, oI v4] [] (sh_E h5)
    exact ai_WP_steps mc_176 (sh_CM d) 3 (hR (0 : Int32) h5 H)
  · replace H := sh_okF c H
    show wq_176 d Q 173 [oR 11 0, oI l1, oI l2, oI l3, oI l4, oI l5, oI l6, _, oI l8, oI v4] [] (sh_E h5)
    exact ai_WP_steps mc_176 (sh_CM d) 2 (hR (16 : Int32) h5 H)
def f_CB_holds_b68 (N : Nat)   (l1 : Int32) (l2 : Int32) (l3 : Int32) (l4 : Int32) (l5 : Int32) (l6 : Int32) (l7 : Int32) (h : sh_H) : Option (Int32 × sh_H) := f_CB_holds_l79 N (f_CB_holds_b130 N) N l1 l2 l3 l4 l5 l6 (((1 : Int32) <<< (l7 &&& 31)) - (1 : Int32)) (1 : Int32) h
theorem x_CB_holds_b68 (N : Nat) {d : Nat} (hd : 6 ≤ d) {Q : ai_Q} {R : Int32 × sh_H → Prop} (hR : ∀ r h, R (r, h) → Q (some (aI r)) (sh_E h))   (l1 : Int32) (l2 : Int32) (l3 : Int32) (l4 : Int32) (l5 : Int32) (l6 : Int32) (l7 : Int32) {d8 d9 : Option ai_V} (h : sh_H) (H : sh_ok (f_CB_holds_b68 N l1 l2 l3 l4 l5 l6 l7 h) R) : wq_176 d Q 68 [oR 11 0, oI l1, oI l2, oI l3, oI l4, oI l5, oI l6, oI l7, d8, d9] [] (sh_E h) := by
  refine ai_WP_steps mc_176 (sh_CM d) 8 ?_
  exact x_CB_holds_l79 N hd hR (f_CB_holds_b130 N) (fun z0 z1 z2 z3 z4 z5 z6 {e7} {e9} h H => x_CB_holds_b130 N hd hR z0 z1 z2 z3 z4 z5 z6 h H) N l1 l2 l3 l4 l5 l6 (((1 : Int32) <<< (l7 &&& 31)) - (1 : Int32)) (1 : Int32) h H
def f_CB_holds_b55 (N : Nat)   (l1 : Int32) (l2 : Int32) (l3 : Int32) (l4 : Int32) (l5 : Int32) (l6 : Int32) (l7 : Int32) (h : sh_H) : Option (Int32 × sh_H) := (if (3 : Int32) < l7 then (if l6 < 0 then (some ((-1 : Int32), h)) else f_CB_holds_b68 N l1 l2 l3 l4 l5 l6 l7 h) else f_CB_holds_b68 N l1 l2 l3 l4 l5 l6 l7 h)
theorem x_CB_holds_b55 (N : Nat) {d : Nat} (hd : 6 ≤ d) {Q : ai_Q} {R : Int32 × sh_H → Prop} (hR : ∀ r h, R (r, h) → Q (some (aI r)) (sh_E h))   (l1 : Int32) (l2 : Int32) (l3 : Int32) (l4 : Int32) (l5 : Int32) (l6 : Int32) (l7 : Int32) {d8 d9 : Option ai_V} (h : sh_H) (H : sh_ok (f_CB_holds_b55 N l1 l2 l3 l4 l5 l6 l7 h) R) : wq_176 d Q 55 [oR 11 0, oI l1, oI l2, oI l3, oI l4, oI l5, oI l6, oI l7, d8, d9] [] (sh_E h) := by
  refine ai_WP_steps mc_176 (sh_CM d) 3 (And.intro (fun c => ?_) (fun c => ?_))
  · replace H := sh_okT c H
    show wq_176 d Q 61 [oR 11 0, oI l1, oI l2, oI l3, oI l4, oI l5, oI l6, oI l7, _, _] [] (sh_E h)
    refine ai_WP_steps mc_176 (sh_CM d) 2 (And.intro (fun c => ?_) (fun c => ?_))
    · replace H := sh_okT c H
      show wq_176 d Q 66 [oR 11 0, oI l1, oI l2, oI l3, oI l4, oI l5, oI l6, oI l7, _, _] [] (sh_E h)
      exact ai_WP_steps mc_176 (sh_CM d) 2 (hR (-1 : Int32) h H)
    · replace H := sh_okF c H
      exact x_CB_holds_b68 N hd hR l1 l2 l3 l4 l5 l6 l7 h H
  · replace H := sh_okF c H
    exact x_CB_holds_b68 N hd hR l1 l2 l3 l4 l5 l6 l7 h H
def f_CB_holds_b44 (N : Nat)   (l1 : Int32) (l2 : Int32) (l3 : Int32) (l4 : Int32) (l5 : Int32) (l6 : Int32) (l7 : Int32) (h : sh_H) : Option (Int32 × sh_H) := (if (2 : Int32) < l7 then (if l5 < 0 then (some ((-1 : Int32), h)) else f_CB_holds_b55 N l1 l2 l3 l4 l5 l6 l7 h) else f_CB_holds_b55 N l1 l2 l3 l4 l5 l6 l7 h)
theorem x_CB_holds_b44 (N : Nat) {d : Nat} (hd : 6 ≤ d) {Q : ai_Q} {R : Int32 × sh_H → Prop} (hR : ∀ r h, R (r, h) → Q (some (aI r)) (sh_E h))   (l1 : Int32) (l2 : Int32) (l3 : Int32) (l4 : Int32) (l5 : Int32) (l6 : Int32) (l7 : Int32) {d8 d9 : Option ai_V} (h : sh_H) (H : sh_ok (f_CB_holds_b44 N l1 l2 l3 l4 l5 l6 l7 h) R) : wq_176 d Q 44 [oR 11 0, oI l1, oI l2, oI l3, oI l4, oI l5, oI l6, oI l7, d8, d9] [] (sh_E h) := by
  refine ai_WP_steps mc_176 (sh_CM d) 3 (And.intro (fun c => ?_) (fun c => ?_))
  · replace H := sh_okT c H
    show wq_176 d Q 50 [oR 11 0, oI l1, oI l2, oI l3, oI l4, oI l5, oI l6, oI l7, _, _] [] (sh_E h)
    refine ai_WP_steps mc_176 (sh_CM d) 2 (And.intro (fun c => ?_) (fun c => ?_))
    · replace H := sh_okT c H
      show wq_176 d Q 66 [oR 11 0, oI l1, oI l2, oI l3, oI l4, oI l5, oI l6, oI l7, _, _] [] (sh_E h)
      exact ai_WP_steps mc_176 (sh_CM d) 2 (hR (-1 : Int32) h H)
    · replace H := sh_okF c H
      exact x_CB_holds_b55 N hd hR l1 l2 l3 l4 l5 l6 l7 h H
  · replace H := sh_okF c H
    exact x_CB_holds_b55 N hd hR l1 l2 l3 l4 l5 l6 l7 h H
def f_CB_holds_b33 (N : Nat)   (l1 : Int32) (l2 : Int32) (l3 : Int32) (l4 : Int32) (l5 : Int32) (l6 : Int32) (l7 : Int32) (h : sh_H) : Option (Int32 × sh_H) := (if (1 : Int32) < l7 then (if l4 < 0 then (some ((-1 : Int32), h)) else f_CB_holds_b44 N l1 l2 l3 l4 l5 l6 l7 h) else f_CB_holds_b44 N l1 l2 l3 l4 l5 l6 l7 h)
theorem x_CB_holds_b33 (N : Nat) {d : Nat} (hd : 6 ≤ d) {Q : ai_Q} {R : Int32 × sh_H → Prop} (hR : ∀ r h, R (r, h) → Q (some (aI r)) (sh_E h))   (l1 : Int32) (l2 : Int32) (l3 : Int32) (l4 : Int32) (l5 : Int32) (l6 : Int32) (l7 : Int32) {d8 d9 : Option ai_V} (h : sh_H) (H : sh_ok (f_CB_holds_b33 N l1 l2 l3 l4 l5 l6 l7 h) R) : wq_176 d Q 33 [oR 11 0, oI l1, oI l2, oI l3, oI l4, oI l5, oI l6, oI l7, d8, d9] [] (sh_E h) := by
  refine ai_WP_steps mc_176 (sh_CM d) 3 (And.intro (fun c => ?_) (fun c => ?_))
  · replace H := sh_okT c H
    show wq_176 d Q 39 [oR 11 0, oI l1, oI l2, oI l3, oI l4, oI l5, oI l6, oI l7, _, _] [] (sh_E h)
    refine ai_WP_steps mc_176 (sh_CM d) 2 (And.intro (fun c => ?_) (fun c => ?_))
    · replace H := sh_okT c H
      show wq_176 d Q 66 [oR 11 0, oI l1, oI l2, oI l3, oI l4, oI l5, oI l6, oI l7, _, _] [] (sh_E h)
      exact ai_WP_steps mc_176 (sh_CM d) 2 (hR (-1 : Int32) h H)
    · replace H := sh_okF c H
      exact x_CB_holds_b44 N hd hR l1 l2 l3 l4 l5 l6 l7 h H
  · replace H := sh_okF c H
    exact x_CB_holds_b44 N hd hR l1 l2 l3 l4 l5 l6 l7 h H
def f_CB_holds (N : Nat)  (l1 : Int32) (l2 : Int32) (l3 : Int32) (l4 : Int32) (l5 : Int32) (l6 : Int32) (h : sh_H) : Option (Int32 × sh_H) := (Option.bind (f_CB_isShare l1 l2 (0 : Int32) h) (fun v7 => (if v7 = 0 then (some ((-1 : Int32), h)) else (Option.bind (f_Rows_size (7 * h.2.2.1 + 1) h) (fun v8 => (if 0 < v8 then (if l3 < 0 then (some ((-1 : Int32), h)) else f_CB_holds_b33 N l1 l2 l3 l4 l5 l6 v8 h) else f_CB_holds_b33 N l1 l2 l3 l4 l5 l6 v8 h))))))
theorem x_CB_holds (N : Nat) {d : Nat} (hd : 7 ≤ d) (l1 : Int32) (l2 : Int32) (l3 : Int32) (l4 : Int32) (l5 : Int32) (l6 : Int32) (h : sh_H) {Q : ai_Q} {R : Int32 × sh_H → Prop} (H : sh_ok (f_CB_holds N l1 l2 l3 l4 l5 l6 h) R) (hR : ∀ r h, R (r, h) → Q (some (aI r)) (sh_E h)) : ai_Ex sh_T d 176 [aR 11 0, aI l1, aI l2, aI l3, aI l4, aI l5, aI l6] (sh_E h) Q := by
  obtain ⟨d, rfl⟩ : ∃ e, d = e + 1 := ⟨d - 1, by omega⟩
  replace hd : 6 ≤ d := by omega
  refine And.intro (Nat.le_of_ble_eq_true rfl) ?_
  show wq_176 d Q 0 [oR 11 0, oI l1, oI l2, oI l3, oI l4, oI l5, oI l6, none, none, none] [] (sh_E h)
  refine ai_WP_steps mc_176 (sh_CM d) 5 (And.intro (Nat.le_of_ble_eq_true rfl) (x_CB_isShare (Nat.le_trans (Nat.le_of_ble_eq_true rfl) hd) l1 l2 (0 : Int32) h (sh_okB H) (fun v7 H => ?_)))
  show wq_176 d Q 7 [oR 11 0, oI l1, oI l2, oI l3, oI l4, oI l5, oI l6, _, _, _] [aI v7] (sh_E h)
  refine ai_WP_steps mc_176 (sh_CM d) 1 (And.intro (fun c => ?_) (fun c => ?_))
  · replace H := sh_okT c H
    show wq_176 d Q 10 [oR 11 0, oI l1, oI l2, oI l3, oI l4, oI l5, oI l6, _, _, _] [] (sh_E h)
    exact ai_WP_steps mc_176 (sh_CM d) 2 (hR (-1 : Int32) h H)
  · replace H := sh_okF c H
    show wq_176 d Q 12 [oR 11 0, oI l1, oI l2, oI l3, oI l4, oI l5, oI l6, _, _, _] [] (sh_E h)
    refine ai_WP_steps mc_176 (sh_CM d) 4 (And.intro (Nat.le_of_ble_eq_true rfl) (x_Rows_size (Nat.le_trans (Nat.le_of_ble_eq_true rfl) hd) (7 * h.2.2.1 + 1) h (sh_okB H) (fun v8 H => ?_)))
    show wq_176 d Q 22 [oR 11 0, oI l1, oI l2, oI l3, oI l4, oI l5, oI l6, _, _, _] [aI v8] (sh_E h)
    refine ai_WP_steps mc_176 (sh_CM d) 3 (And.intro (fun c => ?_) (fun c => ?_))
    · replace H := sh_okT c H
      show wq_176 d Q 29 [oR 11 0, oI l1, oI l2, oI l3, oI l4, oI l5, oI l6, oI v8, _, _] [] (sh_E h)
      refine ai_WP_steps mc_176 (sh_CM d) 2 (And.intro (fun c => ?_) (fun c => ?_))
      · replace H := sh_okT c H
        show wq_176 d Q 66 [oR 11 0, oI l1, oI l2, oI l3, oI l4, oI l5, oI l6, oI v8, _, _] [] (sh_E h)
        exact ai_WP_steps mc_176 (sh_CM d) 2 (hR (-1 : Int32) h H)
      · replace H := sh_okF c H
        exact x_CB_holds_b33 N hd hR l1 l2 l3 l4 l5 l6 v8 h H
    · replace H := sh_okF c H
      exact x_CB_holds_b33 N hd hR l1 l2 l3 l4 l5 l6 v8 h H
def f_CB_book_b82 (N : Nat)   (l3 : Int32) (l5 : Int32) (s0 : Nat) (s1 : Int32) (s2 : Int32) (s3 : Int32) (h : sh_H) : Option (Int32 × sh_H) := (Option.bind (f_Rows_put s0 s1 s2 s3 h) (fun h1 => (Option.bind (f_Rows_put (4 * 0 + 16) l5 (3 : Int32) l3 h1) (fun h2 => (some (l5, h2))))))
theorem x_CB_book_b82 (N : Nat) {d : Nat} (hd : 3 ≤ d) {Q : ai_Q} {R : Int32 × sh_H → Prop} (hR : ∀ r h, R (r, h) → Q (some (aI r)) (sh_E h))   (l3 : Int32) (l5 : Int32) (s0 : Nat) (s1 : Int32) (s2 : Int32) (s3 : Int32) {d1 d2 d4 : Option ai_V} (h : sh_H) (H : sh_ok (f_CB_book_b82 N l3 l5 s0 s1 s2 s3 h) R) : wq_178 d Q 82 [oR 11 0, d1, d2, oI l3, d4, oI l5] [aI s3, aI s2, aI s1, aR 6 s0] (sh_E h) := by
  refine ai_WP_steps mc_178 (sh_CM d) 1 (And.intro (Nat.le_of_ble_eq_true rfl) (x_Rows_put (Nat.le_trans (Nat.le_of_ble_eq_true rfl) hd) s0 s1 s2 s3 h (sh_okB H) (fun h1 H => ?_)))
  show wq_178 d Q 85 [oR 11 0, _, _, oI l3, _, oI l5] [] (sh_E h1)
  refine ai_WP_steps mc_178 (sh_CM d) 7 (And.intro (Nat.le_of_ble_eq_true rfl) (x_Rows_put (Nat.le_trans (Nat.le_of_ble_eq_true rfl) hd) (4 * 0 + 16) l5 (3 : Int32) l3 h1 (sh_okB H) (fun h2 H => ?_)))
  show wq_178 d Q 99 [oR 11 0, _, _, oI l3, _, oI l5] [] (sh_E h2)
  exact ai_WP_steps mc_178 (sh_CM d) 2 (hR l5 h2 H)
def f_CB_book (N : Nat)  (l1 : Int32) (l2 : Int32) (l3 : Int32) (l4 : Int32) (h : sh_H) : Option (Int32 × sh_H) := (Option.bind (f_CB_isOf l1 l2 h) (fun v3 => (if v3 = 0 then (some ((-1 : Int32), h)) else (Option.bind (f_CB_within l3 (0 : Int32) (9999 : Int32) h) (fun v4 => (if v4 = 0 then (some ((-1 : Int32), h)) else (sh_b2 (f_Rows_add N (4 * 0 + 16) h) (fun v5 h6 => (Option.bind (f_Rows_put (4 * 0 + 16) v5 (0 : Int32) l1 h6) (fun h7 => (Option.bind (f_Rows_put (4 * 0 + 16) v5 (1 : Int32) l2 h7) (fun h8 => (if l4 = 0 then f_CB_book_b82 N l3 v5 (4 * 0 + 16) v5 (2 : Int32) (1 : Int32) h8 else f_CB_book_b82 N l3 v5 (4 * 0 + 16) v5 (2 : Int32) (0 : Int32) h8)))))))))))))
theorem x_CB_book (N : Nat) {d : Nat} (hd : 4 ≤ d) (l1 : Int32) (l2 : Int32) (l3 : Int32) (l4 : Int32) (h : sh_H) {Q : ai_Q} {R : Int32 × sh_H → Prop} (H : sh_ok (f_CB_book N l1 l2 l3 l4 h) R) (hR : ∀ r h, R (r, h) → Q (some (aI r)) (sh_E h)) : ai_Ex sh_T d 178 [aR 11 0, aI l1, aI l2, aI l3, aI l4] (sh_E h) Q := by
  obtain ⟨d, rfl⟩ : ∃ e, d = e + 1 := ⟨d - 1, by omega⟩
  replace hd : 3 ≤ d := by omega
  refine And.intro (Nat.le_of_ble_eq_true rfl) ?_
  show wq_178 d Q 0 [oR 11 0, oI l1, oI l2, oI l3, oI l4, none] [] (sh_E h)
  refine ai_WP_steps mc_178 (sh_CM d) 4 (And.intro (Nat.le_of_ble_eq_true rfl) (x_CB_isOf (Nat.le_trans (Nat.le_of_ble_eq_true rfl) hd) l1 l2 h (sh_okB H) (fun v3 H => ?_)))
  show wq_178 d Q 6 [oR 11 0, oI l1, oI l2, oI l3, oI l4, _] [aI v3] (sh_E h)
  refine ai_WP_steps mc_178 (sh_CM d) 1 (And.intro (fun c => ?_) (fun c => ?_))
  · replace H := sh_okT c H
    show wq_178 d Q 20 [oR 11 0, oI l1, oI l2, oI l3, oI l4, _] [] (sh_E h)
    exact ai_WP_steps mc_178 (sh_CM d) 2 (hR (-1 : Int32) h H)
  · replace H := sh_okF c H
    show wq_178 d Q 9 [oR 11 0, oI l1, oI l2, oI l3, oI l4, _] [] (sh_E h)
    refine ai_WP_steps mc_178 (sh_CM d) 4 (And.intro (Nat.le_of_ble_eq_true rfl) (x_CB_within (Nat.le_trans (Nat.le_of_ble_eq_true rfl) hd) l3 (0 : Int32) (9999 : Int32) h (sh_okB H) (fun v4 H => ?_)))
    show wq_178 d Q 17 [oR 11 0, oI l1, oI l2, oI l3, oI l4, _] [aI v4] (sh_E h)
    refine ai_WP_steps mc_178 (sh_CM d) 1 (And.intro (fun c => ?_) (fun c => ?_))
    · replace H := sh_okT c H
      show wq_178 d Q 20 [oR 11 0, oI l1, oI l2, oI l3, oI l4, _] [] (sh_E h)
      exact ai_WP_steps mc_178 (sh_CM d) 2 (hR (-1 : Int32) h H)
    · replace H := sh_okF c H
      show wq_178 d Q 22 [oR 11 0, oI l1, oI l2, oI l3, oI l4, _] [] (sh_E h)
      refine ai_WP_steps mc_178 (sh_CM d) 4 (And.intro (Nat.le_of_ble_eq_true rfl) (x_Rows_add N (Nat.le_trans (Nat.le_of_ble_eq_true rfl) hd) (4 * 0 + 16) h (sh_okB H) (fun v5 h6 H => ?_)))
      show wq_178 d Q 32 [oR 11 0, oI l1, oI l2, oI l3, oI l4, _] [aI v5] (sh_E h6)
      refine ai_WP_steps mc_178 (sh_CM d) 8 (And.intro (Nat.le_of_ble_eq_true rfl) (x_Rows_put (Nat.le_trans (Nat.le_of_ble_eq_true rfl) hd) (4 * 0 + 16) v5 (0 : Int32) l1 h6 (sh_okB H) (fun h7 H => ?_)))
      show wq_178 d Q 48 [oR 11 0, oI l1, oI l2, oI l3, oI l4, oI v5] [] (sh_E h7)
      refine ai_WP_steps mc_178 (sh_CM d) 7 (And.intro (Nat.le_of_ble_eq_true rfl) (x_Rows_put (Nat.le_trans (Nat.le_of_ble_eq_true rfl) hd) (4 * 0 + 16) v5 (1 : Int32) l2 h7 (sh_okB H) (fun h8 H => ?_)))
      show wq_178 d Q 62 [oR 11 0, oI l1, oI l2, oI l3, oI l4, oI v5] [] (sh_E h8)
      refine ai_WP_steps mc_178 (sh_CM d) 7 (And.intro (fun c => ?_) (fun c => ?_))
      · replace H := sh_okT c H
        show wq_178 d Q 81 [oR 11 0, oI l1, oI l2, oI l3, oI l4, oI v5] [aI (2 : Int32), aI v5, aR 6 (4 * 0 + 16)] (sh_E h8)
        refine ai_WP_steps mc_178 (sh_CM d) 1 ?_
        exact x_CB_book_b82 N hd hR l3 v5 (4 * 0 + 16) v5 (2 : Int32) (1 : Int32) h8 H
      · replace H := sh_okF c H
        show wq_178 d Q 77 [oR 11 0, oI l1, oI l2, oI l3, oI l4, oI v5] [aI (2 : Int32), aI v5, aR 6 (4 * 0 + 16)] (sh_E h8)
        refine ai_WP_steps mc_178 (sh_CM d) 2 ?_
        exact x_CB_book_b82 N hd hR l3 v5 (4 * 0 + 16) v5 (2 : Int32) (0 : Int32) h8 H
def f_CB_looked (N : Nat)  (l1 : Int32) (l2 : Int32) (l3 : Int32) (h : sh_H) : Option (Int32 × sh_H) := (Option.bind (f_Text_isIsland h.2.2.1 l1 h) (fun v1 => (if v1 = 0 then (some ((-1 : Int32), h)) else (Option.bind (f_CB_within l2 (0 : Int32) (60 : Int32) h) (fun v2 => (if v2 = 0 then (some ((-1 : Int32), h)) else (Option.bind (f_CB_within l3 (0 : Int32) l2 h) (fun v3 => (if v3 = 0 then (some ((-1 : Int32), h)) else (sh_b2 (f_Rows_add N (4 * 0 + 16) h) (fun v4 h5 => (Option.bind (f_Rows_put (4 * 0 + 16) v4 (0 : Int32) l1 h5) (fun h6 => (Option.bind (f_Rows_put (4 * 0 + 16) v4 (2 : Int32) (2 : Int32) h6) (fun h7 => (Option.bind (f_Rows_put (4 * 0 + 16) v4 (3 : Int32) l2 h7) (fun h8 => (Option.bind (f_Rows_put (4 * 0 + 16) v4 (4 : Int32) l3 h8) (fun h9 => (some (v4, h9)))))))))))))))))))))
theorem x_CB_looked (N : Nat) {d : Nat} (hd : 4 ≤ d) (l1 : Int32) (l2 : Int32) (l3 : Int32) (h : sh_H) {Q : ai_Q} {R : Int32 × sh_H → Prop} (H : sh_ok (f_CB_looked N l1 l2 l3 h) R) (hR : ∀ r h, R (r, h) → Q (some (aI r)) (sh_E h)) : ai_Ex sh_T d 179 [aR 11 0, aI l1, aI l2, aI l3] (sh_E h) Q := by
  obtain ⟨d, rfl⟩ : ∃ e, d = e + 1 := ⟨d - 1, by omega⟩
  replace hd : 3 ≤ d := by omega
  refine And.intro (Nat.le_of_ble_eq_true rfl) ?_
  show wq_179 d Q 0 [oR 11 0, oI l1, oI l2, oI l3, none] [] (sh_E h)
  refine ai_WP_steps mc_179 (sh_CM d) 4 (And.intro (Nat.le_of_ble_eq_true rfl) (x_Text_isIsland (Nat.le_trans (Nat.le_of_ble_eq_true rfl) hd) h.2.2.1 l1 h (sh_okB H) (fun v1 H => ?_)))
  show wq_179 d Q 8 [oR 11 0, oI l1, oI l2, oI l3, _] [aI v1] (sh_E h)
  refine ai_WP_steps mc_179 (sh_CM d) 1 (And.intro (fun c => ?_) (fun c => ?_))
  · replace H := sh_okT c H
    show wq_179 d Q 30 [oR 11 0, oI l1, oI l2, oI l3, _] [] (sh_E h)
    exact ai_WP_steps mc_179 (sh_CM d) 2 (hR (-1 : Int32) h H)
  · replace H := sh_okF c H
    show wq_179 d Q 11 [oR 11 0, oI l1, oI l2, oI l3, _] [] (sh_E h)
    refine ai_WP_steps mc_179 (sh_CM d) 4 (And.intro (Nat.le_of_ble_eq_true rfl) (x_CB_within (Nat.le_trans (Nat.le_of_ble_eq_true rfl) hd) l2 (0 : Int32) (60 : Int32) h (sh_okB H) (fun v2 H => ?_)))
    show wq_179 d Q 18 [oR 11 0, oI l1, oI l2, oI l3, _] [aI v2] (sh_E h)
    refine ai_WP_steps mc_179 (sh_CM d) 1 (And.intro (fun c => ?_) (fun c => ?_))
    · replace H := sh_okT c H
      show wq_179 d Q 30 [oR 11 0, oI l1, oI l2, oI l3, _] [] (sh_E h)
      exact ai_WP_steps mc_179 (sh_CM d) 2 (hR (-1 : Int32) h H)
    · replace H := sh_okF c H
      show wq_179 d Q 21 [oR 11 0, oI l1, oI l2, oI l3, _] [] (sh_E h)
      refine ai_WP_steps mc_179 (sh_CM d) 4 (And.intro (Nat.le_of_ble_eq_true rfl) (x_CB_within (Nat.le_trans (Nat.le_of_ble_eq_true rfl) hd) l3 (0 : Int32) l2 h (sh_okB H) (fun v3 H => ?_)))
      show wq_179 d Q 27 [oR 11 0, oI l1, oI l2, oI l3, _] [aI v3] (sh_E h)
      refine ai_WP_steps mc_179 (sh_CM d) 1 (And.intro (fun c => ?_) (fun c => ?_))
      · replace H := sh_okT c H
        show wq_179 d Q 30 [oR 11 0, oI l1, oI l2, oI l3, _] [] (sh_E h)
        exact ai_WP_steps mc_179 (sh_CM d) 2 (hR (-1 : Int32) h H)
      · replace H := sh_okF c H
        show wq_179 d Q 32 [oR 11 0, oI l1, oI l2, oI l3, _] [] (sh_E h)
        refine ai_WP_steps mc_179 (sh_CM d) 4 (And.intro (Nat.le_of_ble_eq_true rfl) (x_Rows_add N (Nat.le_trans (Nat.le_of_ble_eq_true rfl) hd) (4 * 0 + 16) h (sh_okB H) (fun v4 h5 H => ?_)))
        show wq_179 d Q 42 [oR 11 0, oI l1, oI l2, oI l3, _] [aI v4] (sh_E h5)
        refine ai_WP_steps mc_179 (sh_CM d) 8 (And.intro (Nat.le_of_ble_eq_true rfl) (x_Rows_put (Nat.le_trans (Nat.le_of_ble_eq_true rfl) hd) (4 * 0 + 16) v4 (0 : Int32) l1 h5 (sh_okB H) (fun h6 H => ?_)))
        show wq_179 d Q 58 [oR 11 0, oI l1, oI l2, oI l3, oI v4] [] (sh_E h6)
        refine ai_WP_steps mc_179 (sh_CM d) 7 (And.intro (Nat.le_of_ble_eq_true rfl) (x_Rows_put (Nat.le_trans (Nat.le_of_ble_eq_true rfl) hd) (4 * 0 + 16) v4 (2 : Int32) (2 : Int32) h6 (sh_okB H) (fun h7 H => ?_)))
        show wq_179 d Q 72 [oR 11 0, oI l1, oI l2, oI l3, oI v4] [] (sh_E h7)
        refine ai_WP_steps mc_179 (sh_CM d) 7 (And.intro (Nat.le_of_ble_eq_true rfl) (x_Rows_put (Nat.le_trans (Nat.le_of_ble_eq_true rfl) hd) (4 * 0 + 16) v4 (3 : Int32) l2 h7 (sh_okB H) (fun h8 H => ?_)))
        show wq_179 d Q 86 [oR 11 0, oI l1, oI l2, oI l3, oI v4] [] (sh_E h8)
        refine ai_WP_steps mc_179 (sh_CM d) 7 (And.intro (Nat.le_of_ble_eq_true rfl) (x_Rows_put (Nat.le_trans (Nat.le_of_ble_eq_true rfl) hd) (4 * 0 + 16) v4 (4 : Int32) l3 h8 (sh_okB H) (fun h9 H => ?_)))
        show wq_179 d Q 100 [oR 11 0, oI l1, oI l2, oI l3, oI v4] [] (sh_E h9)
        exact ai_WP_steps mc_179 (sh_CM d) 2 (hR v4 h9 H)
