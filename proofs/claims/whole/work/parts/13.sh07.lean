/-! shallow functions, written by program -/
def f_M_flows_l2 (N : Nat)  (k119 : sh_H → Option sh_H) (n : Nat) : Int32 → Int32 → Int32 → sh_H → Option sh_H := Nat.rec (motive := fun _ => Int32 → Int32 → Int32 → sh_H → Option sh_H) (fun _ _ _ _ => none) (fun _ k2 l1 l2 l3 h => (if ai_in (4 : Int32) 8000 then (if l3 < (h.1 13 46 (4 : Int32).toNatClampNeg) then (if ai_in ((150 : Int32) + ((5 : Int32) * l3)) 8000 then (if ai_in (((150 : Int32) + ((5 : Int32) * l3)) + (2 : Int32)) 8000 then (Option.bind (f_M_all N (h.1 13 46 ((150 : Int32) + ((5 : Int32) * l3)).toNatClampNeg) (h.1 13 46 (((150 : Int32) + ((5 : Int32) * l3)) + (2 : Int32)).toNatClampNeg) h) (fun v1 => (if ¬ (12 : Int32) = 0 then (Option.bind (f_M_lot l1 (((1000 : Int32) + ((40 : Int32) * l2)) + l3) (5 : Int32) h) (fun v2 => (Option.bind (f_M_ask (l2 - l2 / (12 : Int32) * (12 : Int32)) v1 (0 : Int32) v2 h) (fun h3 => (if ai_in ((150 : Int32) + ((5 : Int32) * l3)) 8000 then (if ai_in (((150 : Int32) + ((5 : Int32) * l3)) + (1 : Int32)) 8000 then (if ai_in (((150 : Int32) + ((5 : Int32) * l3)) + (2 : Int32)) 8000 then (sh_b2 (f_M_sum N (((150 : Int32) + ((5 : Int32) * l3)) + (3 : Int32)) h3) (fun v4 h5 => (Option.bind (f_M_within v4 (0 : Int32) v1 h5) (fun v6 => (Option.bind (f_M_go N (h3.1 13 46 ((150 : Int32) + ((5 : Int32) * l3)).toNatClampNeg) (h3.1 13 46 (((150 : Int32) + ((5 : Int32) * l3)) + (1 : Int32)).toNatClampNeg) (h3.1 13 46 (((150 : Int32) + ((5 : Int32) * l3)) + (2 : Int32)).toNatClampNeg) v6 (1 : Int32) h5) (fun h7 => k2 l1 l2 (l3 + (1 : Int32)) h7)))))) else none) else none) else none))))) else none))) else none) else none) else k119 h) else none)) n
theorem x_M_flows_l2 (N : Nat) {d : Nat} (hd : 2 ≤ d) {Q : ai_Q} {R : sh_H → Prop} (hR : ∀ h, R h → Q none (sh_E h))  (k119 : sh_H → Option sh_H) (hk119 : ∀ {d0 d1 d2 d3 d4 d5 : Option ai_V} (h : sh_H), sh_ok (k119 h) R → wq_284 d Q 119 [d0, d1, d2, d3, d4, d5] [] (sh_E h)) (n : Nat) : ∀ (l1 : Int32) (l2 : Int32) (l3 : Int32) {d4 d5 : Option ai_V} (h : sh_H), sh_ok (f_M_flows_l2 N k119 n l1 l2 l3 h) R → wq_284 d Q 2 [oR 12 0, oI l1, oI l2, oI l3, d4, d5] [] (sh_E h) := by
  induction n with
  | zero => intro l1 l2 l3 d4 d5 h H; exact H.elim
  | succ n ih =>
    intro l1 l2 l3 d4 d5 h H
    have hk2 := @ih
    revert hk2 H
    show sh_ok ((fun k2 l1 l2 l3 h => (if ai_in (4 : Int32) 8000 then (if l3 < (h.1 13 46 (4 : Int32).toNatClampNeg) then (if ai_in ((150 : Int32) + ((5 : Int32) * l3)) 8000 then (if ai_in (((150 : Int32) + ((5 : Int32) * l3)) + (2 : Int32)) 8000 then (Option.bind (f_M_all N (h.1 13 46 ((150 : Int32) + ((5 : Int32) * l3)).toNatClampNeg) (h.1 13 46 (((150 : Int32) + ((5 : Int32) * l3)) + (2 : Int32)).toNatClampNeg) h) (fun v1 => (if ¬ (12 : Int32) = 0 then (Option.bind (f_M_lot l1 (((1000 : Int32) + ((40 : Int32) * l2)) + l3) (5 : Int32) h) (fun v2 => (Option.bind (f_M_ask (l2 - l2 / (12 : Int32) * (12 : Int32)) v1 (0 : Int32) v2 h) (fun h3 => (if ai_in ((150 : Int32) + ((5 : Int32) * l3)) 8000 then (if ai_in (((150 : Int32) + ((5 : Int32) * l3)) + (1 : Int32)) 8000 then (if ai_in (((150 : Int32) + ((5 : Int32) * l3)) + (2 : Int32)) 8000 then (sh_b2 (f_M_sum N (((150 : Int32) + ((5 : Int32) * l3)) + (3 : Int32)) h3) (fun v4 h5 => (Option.bind (f_M_within v4 (0 : Int32) v1 h5) (fun v6 => (Option.bind (f_M_go N (h3.1 13 46 ((150 : Int32) + ((5 : Int32) * l3)).toNatClampNeg) (h3.1 13 46 (((150 : Int32) + ((5 : Int32) * l3)) + (1 : Int32)).toNatClampNeg) (h3.1 13 46 (((150 : Int32) + ((5 : Int32) * l3)) + (2 : Int32)).toNatClampNeg) v6 (1 : Int32) h5) (fun h7 => k2 l1 l2 (l3 + (1 : Int32)) h7)))))) else none) else none) else none))))) else none))) else none) else none) else k119 h) else none)) (f_M_flows_l2 N k119 n) l1 l2 l3 h) R → _
    generalize f_M_flows_l2 N k119 n = k2
    intro H hk2
    have c := sh_okG H
    replace H := sh_okH H
    refine ai_WP_steps mc_284 (sh_CM d) 5 (And.intro c ?_)
    show wq_284 d Q 9 [oR 12 0, oI l1, oI l2, oI l3, _, _] [aI (h.1 13 46 (4 : Int32).toNatClampNeg), aI l3] (sh_E h)
    refine ai_WP_steps mc_284 (sh_CM d) 1 (And.intro (fun c => ?_) (fun c => ?_))
    · replace H := sh_okT c H
      show wq_284 d Q 12 [oR 12 0, oI l1, oI l2, oI l3, _, _] [] (sh_E h)
      have c := sh_okG H
      replace H := sh_okH H
      refine ai_WP_steps mc_284 (sh_CM d) 11 (And.intro c ?_)
      show wq_284 d Q 29 [oR 12 0, oI l1, oI l2, oI l3, oI ((150 : Int32) + ((5 : Int32) * l3)), _] [aI (h.1 13 46 ((150 : Int32) + ((5 : Int32) * l3)).toNatClampNeg), aR 12 0] (sh_E h)
      have c := sh_okG H
      replace H := sh_okH H
      refine ai_WP_steps mc_284 (sh_CM d) 6 (And.intro c ?_)
      show wq_284 d Q 38 [oR 12 0, oI l1, oI l2, oI l3, oI ((150 : Int32) + ((5 : Int32) * l3)), _] [aI (h.1 13 46 (((150 : Int32) + ((5 : Int32) * l3)) + (2 : Int32)).toNatClampNeg), aI (h.1 13 46 ((150 : Int32) + ((5 : Int32) * l3)).toNatClampNeg), aR 12 0] (sh_E h)
      refine ai_WP_steps mc_284 (sh_CM d) 1 (And.intro (Nat.le_of_ble_eq_true rfl) (x_M_all N (Nat.le_trans (Nat.le_of_ble_eq_true rfl) hd) (h.1 13 46 ((150 : Int32) + ((5 : Int32) * l3)).toNatClampNeg) (h.1 13 46 (((150 : Int32) + ((5 : Int32) * l3)) + (2 : Int32)).toNatClampNeg) h (sh_okB H) (fun v1 H => ?_)))
      show wq_284 d Q 41 [oR 12 0, oI l1, oI l2, oI l3, oI ((150 : Int32) + ((5 : Int32) * l3)), _] [aI v1] (sh_E h)
      have c := sh_okG H
      replace H := sh_okH H
      refine ai_WP_steps mc_284 (sh_CM d) 5 (And.intro c ?_)
      show wq_284 d Q 48 [oR 12 0, oI l1, oI l2, oI l3, oI ((150 : Int32) + ((5 : Int32) * l3)), oI v1] [aI (l2 - l2 / (12 : Int32) * (12 : Int32)), aR 12 0] (sh_E h)
      refine ai_WP_steps mc_284 (sh_CM d) 12 (And.intro (Nat.le_of_ble_eq_true rfl) (x_M_lot (Nat.le_trans (Nat.le_of_ble_eq_true rfl) hd) l1 (((1000 : Int32) + ((40 : Int32) * l2)) + l3) (5 : Int32) h (sh_okB H) (fun v2 H => ?_)))
      show wq_284 d Q 66 [oR 12 0, oI l1, oI l2, oI l3, oI ((150 : Int32) + ((5 : Int32) * l3)), oI v1] [aI v2, aI (0 : Int32), aI v1, aI (l2 - l2 / (12 : Int32) * (12 : Int32)), aR 12 0] (sh_E h)
      refine ai_WP_steps mc_284 (sh_CM d) 1 (And.intro (Nat.le_of_ble_eq_true rfl) (x_M_ask (Nat.le_trans (Nat.le_of_ble_eq_true rfl) hd) (l2 - l2 / (12 : Int32) * (12 : Int32)) v1 (0 : Int32) v2 h (sh_okB H) (fun h3 H => ?_)))
      show wq_284 d Q 69 [oR 12 0, oI l1, oI l2, oI l3, oI ((150 : Int32) + ((5 : Int32) * l3)), oI v1] [] (sh_E h3)
      have c := sh_okG H
      replace H := sh_okH H
      refine ai_WP_steps mc_284 (sh_CM d) 5 (And.intro c ?_)
      show wq_284 d Q 77 [oR 12 0, oI l1, oI l2, oI l3, oI ((150 : Int32) + ((5 : Int32) * l3)), oI v1] [aI (h3.1 13 46 ((150 : Int32) + ((5 : Int32) * l3)).toNatClampNeg), aR 12 0] (sh_E h3)
      have c := sh_okG H
      replace H := sh_okH H
      refine ai_WP_steps mc_284 (sh_CM d) 6 (And.intro c ?_)
      show wq_284 d Q 86 [oR 12 0, oI l1, oI l2, oI l3, oI ((150 : Int32) + ((5 : Int32) * l3)), oI v1] [aI (h3.1 13 46 (((150 : Int32) + ((5 : Int32) * l3)) + (1 : Int32)).toNatClampNeg), aI (h3.1 13 46 ((150 : Int32) + ((5 : Int32) * l3)).toNatClampNeg), aR 12 0] (sh_E h3)
      have c := sh_okG H
      replace H := sh_okH H
      refine ai_WP_steps mc_284 (sh_CM d) 6 (And.intro c ?_)
      show wq_284 d Q 95 [oR 12 0, oI l1, oI l2, oI l3, oI ((150 : Int32) + ((5 : Int32) * l3)), oI v1] [aI (h3.1 13 46 (((150 : Int32) + ((5 : Int32) * l3)) + (2 : Int32)).toNatClampNeg), aI (h3.1 13 46 (((150 : Int32) + ((5 : Int32) * l3)) + (1 : Int32)).toNatClampNeg), aI (h3.1 13 46 ((150 : Int32) + ((5 : Int32) * l3)).toNatClampNeg), aR 12 0] (sh_E h3)
      refine ai_WP_steps mc_284 (sh_CM d) 5 (And.intro (Nat.le_of_ble_eq_true rfl) (x_M_sum N (Nat.le_trans (Nat.le_of_ble_eq_true rfl) hd) (((150 : Int32) + ((5 : Int32) * l3)) + (3 : Int32)) h3 (sh_okB H) (fun v4 h5 H => ?_)))
      show wq_284 d Q 103 [oR 12 0, oI l1, oI l2, oI l3, oI ((150 : Int32) + ((5 : Int32) * l3)), oI v1] [aI v4, aI (h3.1 13 46 (((150 : Int32) + ((5 : Int32) * l3)) + (2 : Int32)).toNatClampNeg), aI (h3.1 13 46 (((150 : Int32) + ((5 : Int32) * l3)) + (1 : Int32)).toNatClampNeg), aI (h3.1 13 46 ((150 : Int32) + ((5 : Int32) * l3)).toNatClampNeg), aR 12 0] (sh_E h5)
      refine ai_WP_steps mc_284 (sh_CM d) 3 (And.intro (Nat.le_of_ble_eq_true rfl) (x_M_within (Nat.le_trans (Nat.le_of_ble_eq_true rfl) hd) v4 (0 : Int32) v1 h5 (sh_okB H) (fun v6 H => ?_)))
      show wq_284 d Q 109 [oR 12 0, oI l1, oI l2, oI l3, oI ((150 : Int32) + ((5 : Int32) * l3)), oI v1] [aI v6, aI (h3.1 13 46 (((150 : Int32) + ((5 : Int32) * l3)) + (2 : Int32)).toNatClampNeg), aI (h3.1 13 46 (((150 : Int32) + ((5 : Int32) * l3)) + (1 : Int32)).toNatClampNeg), aI (h3.1 13 46 ((150 : Int32) + ((5 : Int32) * l3)).toNatClampNeg), aR 12 0] (sh_E h5)
      refine ai_WP_steps mc_284 (sh_CM d) 2 (And.intro (Nat.le_of_ble_eq_true rfl) (x_M_go N (Nat.le_trans (Nat.le_of_ble_eq_true rfl) hd) (h3.1 13 46 ((150 : Int32) + ((5 : Int32) * l3)).toNatClampNeg) (h3.1 13 46 (((150 : Int32) + ((5 : Int32) * l3)) + (1 : Int32)).toNatClampNeg) (h3.1 13 46 (((150 : Int32) + ((5 : Int32) * l3)) + (2 : Int32)).toNatClampNeg) v6 (1 : Int32) h5 (sh_okB H) (fun h7 H => ?_)))
      show wq_284 d Q 113 [oR 12 0, oI l1, oI l2, oI l3, oI ((150 : Int32) + ((5 : Int32) * l3)), oI v1] [] (sh_E h7)
      refine ai_WP_steps mc_284 (sh_CM d) 2 ?_
      exact hk2 l1 l2 (l3 + (1 : Int32)) h7 H
    · replace H := sh_okF c H
      exact hk119 h H
def f_M_flows_b119 (N : Nat)    (h : sh_H) : Option sh_H := (some h)
theorem x_M_flows_b119 (N : Nat) {d : Nat} (hd : 2 ≤ d) {Q : ai_Q} {R : sh_H → Prop} (hR : ∀ h, R h → Q none (sh_E h))    {d0 d1 d2 d3 d4 d5 : Option ai_V} (h : sh_H) (H : sh_ok (f_M_flows_b119 N h) R) : wq_284 d Q 119 [d0, d1, d2, d3, d4, d5] [] (sh_E h) := by
  exact ai_WP_steps mc_284 (sh_CM d) 1 (hR h H)
def f_M_flows (N : Nat)  (l1 : Int32) (l2 : Int32) (h : sh_H) : Option sh_H := f_M_flows_l2 N (f_M_flows_b119 N) N l1 l2 (0 : Int32) h
theorem x_M_flows (N : Nat) {d : Nat} (hd : 3 ≤ d) (l1 : Int32) (l2 : Int32) (h : sh_H) {Q : ai_Q} {R : sh_H → Prop} (H : sh_ok (f_M_flows N l1 l2 h) R) (hR : ∀ h, R h → Q none (sh_E h)) : ai_Ex sh_T d 284 [aR 12 0, aI l1, aI l2] (sh_E h) Q := by
  obtain ⟨d, rfl⟩ : ∃ e, d = e + 1 := ⟨d - 1, by omega⟩
  replace hd : 2 ≤ d := by omega
  refine And.intro (Nat.le_of_ble_eq_true rfl) ?_
  show wq_284 d Q 0 [oR 12 0, oI l1, oI l2, none, none, none] [] (sh_E h)
  refine ai_WP_steps mc_284 (sh_CM d) 2 ?_
  exact x_M_flows_l2 N hd hR (f_M_flows_b119 N) (fun {e0} {e1} {e2} {e3} {e4} {e5} h H => x_M_flows_b119 N hd hR  h H) N l1 l2 (0 : Int32) h H
def f_M_isLastWear_l4 (N : Nat)  (k41 : sh_H → Option Int32) (k49 : sh_H → Option Int32) (n : Nat) : Int32 → Int32 → sh_H → Option Int32 := Nat.rec (motive := fun _ => Int32 → Int32 → sh_H → Option Int32) (fun _ _ _ => none) (fun _ k4 l1 l2 h => (if ai_in (5 : Int32) 8000 then (if l2 < (h.1 13 46 (5 : Int32).toNatClampNeg) then (if ai_in ((210 : Int32) + ((3 : Int32) * l2)) 8000 then (if ai_in ((210 : Int32) + ((3 : Int32) * l1)) 8000 then (if (h.1 13 46 ((210 : Int32) + ((3 : Int32) * l2)).toNatClampNeg) = (h.1 13 46 ((210 : Int32) + ((3 : Int32) * l1)).toNatClampNeg) then k41 h else k4 l1 (l2 + (1 : Int32)) h) else none) else none) else k49 h) else none)) n
theorem x_M_isLastWear_l4 (N : Nat) {d : Nat} (hd : 0 ≤ d) (h : sh_H) {Q : ai_Q} {R : Int32 → Prop} (hR : ∀ r, R r → Q (some (aI r)) (sh_E h))  (k41 : sh_H → Option Int32) (hk41 : ∀ {d0 d1 d2 : Option ai_V}, sh_ok (k41 h) R → wq_285 d Q 41 [d0, d1, d2] [] (sh_E h)) (k49 : sh_H → Option Int32) (hk49 : ∀ {d0 d1 d2 : Option ai_V}, sh_ok (k49 h) R → wq_285 d Q 49 [d0, d1, d2] [] (sh_E h)) (n : Nat) : ∀ (l1 : Int32) (l2 : Int32), sh_ok (f_M_isLastWear_l4 N k41 k49 n l1 l2 h) R → wq_285 d Q 4 [oR 12 0, oI l1, oI l2] [] (sh_E h) := by
  induction n with
  | zero => intro l1 l2 H; exact H.elim
  | succ n ih =>
    intro l1 l2 H
    have hk4 := @ih
    revert hk4 H
    show sh_ok ((fun k4 l1 l2 h => (if ai_in (5 : Int32) 8000 then (if l2 < (h.1 13 46 (5 : Int32).toNatClampNeg) then (if ai_in ((210 : Int32) + ((3 : Int32) * l2)) 8000 then (if ai_in ((210 : Int32) + ((3 : Int32) * l1)) 8000 then (if (h.1 13 46 ((210 : Int32) + ((3 : Int32) * l2)).toNatClampNeg) = (h.1 13 46 ((210 : Int32) + ((3 : Int32) * l1)).toNatClampNeg) then k41 h else k4 l1 (l2 + (1 : Int32)) h) else none) else none) else k49 h) else none)) (f_M_isLastWear_l4 N k41 k49 n) l1 l2 h) R → _
    generalize f_M_isLastWear_l4 N k41 k49 n = k4
    intro H hk4
    have c := sh_okG H
    replace H := sh_okH H
    refine ai_WP_steps mc_285 (sh_CM d) 5 (And.intro c ?_)
    show wq_285 d Q 11 [oR 12 0, oI l1, oI l2] [aI (h.1 13 46 (5 : Int32).toNatClampNeg), aI l2] (sh_E h)
    refine ai_WP_steps mc_285 (sh_CM d) 1 (And.intro (fun c => ?_) (fun c => ?_))
    · replace H := sh_okT c H
      show wq_285 d Q 14 [oR 12 0, oI l1, oI l2] [] (sh_E h)
      have c := sh_okG H
      replace H := sh_okH H
      refine ai_WP_steps mc_285 (sh_CM d) 8 (And.intro c ?_)
      show wq_285 d Q 26 [oR 12 0, oI l1, oI l2] [aI (h.1 13 46 ((210 : Int32) + ((3 : Int32) * l2)).toNatClampNeg)] (sh_E h)
      have c := sh_okG H
      replace H := sh_okH H
      refine ai_WP_steps mc_285 (sh_CM d) 8 (And.intro c ?_)
      show wq_285 d Q 38 [oR 12 0, oI l1, oI l2] [aI (h.1 13 46 ((210 : Int32) + ((3 : Int32) * l1)).toNatClampNeg), aI (h.1 13 46 ((210 : Int32) + ((3 : Int32) * l2)).toNatClampNeg)] (sh_E h)
      refine ai_WP_steps mc_285 (sh_CM d) 1 (And.intro (fun c => ?_) (fun c => ?_))
      · replace H := sh_okT c H
        exact hk41 H
      · replace H := sh_okF c H
        show wq_285 d Q 43 [oR 12 0, oI l1, oI l2] [] (sh_E h)
        refine ai_WP_steps mc_285 (sh_CM d) 2 ?_
        exact hk4 l1 (l2 + (1 : Int32)) H
    · replace H := sh_okF c H
      exact hk49 H
def f_M_isLastWear_b41 (N : Nat)    (h : sh_H) : Option Int32 := (some (ai_nar 1 (0 : Int32)))
theorem x_M_isLastWear_b41 (N : Nat) {d : Nat} (hd : 0 ≤ d) (h : sh_H) {Q : ai_Q} {R : Int32 → Prop} (hR : ∀ r, R r → Q (some (aI r)) (sh_E h))    {d0 d1 d2 : Option ai_V} (H : sh_ok (f_M_isLastWear_b41 N h) R) : wq_285 d Q 41 [d0, d1, d2] [] (sh_E h) := by
  exact ai_WP_steps mc_285 (sh_CM d) 2 (hR (ai_nar 1 (0 : Int32)) H)
def f_M_isLastWear_b49 (N : Nat)    (h : sh_H) : Option Int32 := (some (ai_nar 1 (1 : Int32)))
theorem x_M_isLastWear_b49 (N : Nat) {d : Nat} (hd : 0 ≤ d) (h : sh_H) {Q : ai_Q} {R : Int32 → Prop} (hR : ∀ r, R r → Q (some (aI r)) (sh_E h))    {d0 d1 d2 : Option ai_V} (H : sh_ok (f_M_isLastWear_b49 N h) R) : wq_285 d Q 49 [d0, d1, d2] [] (sh_E h) := by
  exact ai_WP_steps mc_285 (sh_CM d) 2 (hR (ai_nar 1 (1 : Int32)) H)
def f_M_isLastWear (N : Nat)  (l1 : Int32) (h : sh_H) : Option Int32 := f_M_isLastWear_l4 N (f_M_isLastWear_b41 N) (f_M_isLastWear_b49 N) N l1 (l1 + (1 : Int32)) h
theorem x_M_isLastWear (N : Nat) {d : Nat} (hd : 1 ≤ d) (l1 : Int32) (h : sh_H) {Q : ai_Q} {R : Int32 → Prop} (H : sh_ok (f_M_isLastWear N l1 h) R) (hR : ∀ r, R r → Q (some (aI r)) (sh_E h)) : ai_Ex sh_T d 285 [aR 12 0, aI l1] (sh_E h) Q := by
  obtain ⟨d, rfl⟩ : ∃ e, d = e + 1 := ⟨d - 1, by omega⟩
  replace hd : 0 ≤ d := by omega
  refine And.intro (Nat.le_of_ble_eq_true rfl) ?_
  show wq_285 d Q 0 [oR 12 0, oI l1, none] [] (sh_E h)
  refine ai_WP_steps mc_285 (sh_CM d) 4 ?_
  exact x_M_isLastWear_l4 N hd h hR (f_M_isLastWear_b41 N) (fun {e0} {e1} {e2} H => x_M_isLastWear_b41 N hd h hR  H) (f_M_isLastWear_b49 N) (fun {e0} {e1} {e2} H => x_M_isLastWear_b49 N hd h hR  H) N l1 (l1 + (1 : Int32)) H
def f_M_wears_l53 (N : Nat)  (k151 : Int32 → Int32 → Int32 → Int32 → sh_H → Option sh_H) (n : Nat) : Int32 → Int32 → Int32 → Int32 → Int32 → sh_H → Option sh_H := Nat.rec (motive := fun _ => Int32 → Int32 → Int32 → Int32 → Int32 → sh_H → Option sh_H) (fun _ _ _ _ _ _ => none) (fun _ k53 l1 l2 l3 l4 l5 h => (if l5 < 0 then k151 l1 l2 l3 l4 h else (Option.bind (f_M_cell l4 l3 l5 h) (fun v1 => (if ai_in v1 8000 then (if ¬ (12 : Int32) = 0 then (Option.bind (f_M_ask (l1 - l1 / (12 : Int32) * (12 : Int32)) (h.1 13 46 v1.toNatClampNeg) l5 (0 : Int32) h) (fun h2 => (sh_b2 (f_M_sum N (((210 : Int32) + ((3 : Int32) * l2)) + (1 : Int32)) h2) (fun v3 h4 => (Option.bind (f_M_within v3 (0 : Int32) (h.1 13 46 v1.toNatClampNeg) h4) (fun v5 => (Option.bind (f_M_cell l4 l3 l5 h4) (fun v6 => (if ai_in v6 8000 then (if ai_in v6 8000 then (sh_let (sh_pI h4 13 46 v6.toNatClampNeg ((h4.1 13 46 v6.toNatClampNeg) - v5)) (fun h7 => (Option.bind (f_M_cell l4 l3 (l5 + (1 : Int32)) h7) (fun v8 => (if ai_in v8 8000 then (if ai_in v8 8000 then (sh_let (sh_pI h7 13 46 v8.toNatClampNeg ((h7.1 13 46 v8.toNatClampNeg) + v5)) (fun h9 => k53 l1 l2 l3 l4 (l5 + (-1 : Int32)) h9)) else none) else none))))) else none) else none))))))))) else none) else none))))) n
theorem x_M_wears_l53 (N : Nat) {d : Nat} (hd : 2 ≤ d) {Q : ai_Q} {R : sh_H → Prop} (hR : ∀ h, R h → Q none (sh_E h))  (k151 : Int32 → Int32 → Int32 → Int32 → sh_H → Option sh_H) (hk151 : ∀ (l1 : Int32) (l2 : Int32) (l3 : Int32) (l4 : Int32) {d5 d6 d7 : Option ai_V} (h : sh_H), sh_ok (k151 l1 l2 l3 l4 h) R → wq_286 d Q 151 [oR 12 0, oI l1, oI l2, oI l3, oI l4, d5, d6, d7] [] (sh_E h)) (n : Nat) : ∀ (l1 : Int32) (l2 : Int32) (l3 : Int32) (l4 : Int32) (l5 : Int32) {d6 d7 : Option ai_V} (h : sh_H), sh_ok (f_M_wears_l53 N k151 n l1 l2 l3 l4 l5 h) R → wq_286 d Q 53 [oR 12 0, oI l1, oI l2, oI l3, oI l4, oI l5, d6, d7] [] (sh_E h) := by
  induction n with
  | zero => intro l1 l2 l3 l4 l5 d6 d7 h H; exact H.elim
  | succ n ih =>
    intro l1 l2 l3 l4 l5 d6 d7 h H
    have hk53 := @ih
    revert hk53 H
    show sh_ok ((fun k53 l1 l2 l3 l4 l5 h => (if l5 < 0 then k151 l1 l2 l3 l4 h else (Option.bind (f_M_cell l4 l3 l5 h) (fun v1 => (if ai_in v1 8000 then (if ¬ (12 : Int32) = 0 then (Option.bind (f_M_ask (l1 - l1 / (12 : Int32) * (12 : Int32)) (h.1 13 46 v1.toNatClampNeg) l5 (0 : Int32) h) (fun h2 => (sh_b2 (f_M_sum N (((210 : Int32) + ((3 : Int32) * l2)) + (1 : Int32)) h2) (fun v3 h4 => (Option.bind (f_M_within v3 (0 : Int32) (h.1 13 46 v1.toNatClampNeg) h4) (fun v5 => (Option.bind (f_M_cell l4 l3 l5 h4) (fun v6 => (if ai_in v6 8000 then (if ai_in v6 8000 then (sh_let (sh_pI h4 13 46 v6.toNatClampNeg ((h4.1 13 46 v6.toNatClampNeg) - v5)) (fun h7 => (Option.bind (f_M_cell l4 l3 (l5 + (1 : Int32)) h7) (fun v8 => (if ai_in v8 8000 then (if ai_in v8 8000 then (sh_let (sh_pI h7 13 46 v8.toNatClampNeg ((h7.1 13 46 v8.toNatClampNeg) + v5)) (fun h9 => k53 l1 l2 l3 l4 (l5 + (-1 : Int32)) h9)) else none) else none))))) else none) else none))))))))) else none) else none))))) (f_M_wears_l53 N k151 n) l1 l2 l3 l4 l5 h) R → _
    generalize f_M_wears_l53 N k151 n = k53
    intro H hk53
    refine ai_WP_steps mc_286 (sh_CM d) 2 (And.intro (fun c => ?_) (fun c => ?_))
    · replace H := sh_okT c H
      exact hk151 l1 l2 l3 l4 h H
    · replace H := sh_okF c H
      show wq_286 d Q 58 [oR 12 0, oI l1, oI l2, oI l3, oI l4, oI l5, _, _] [] (sh_E h)
      refine ai_WP_steps mc_286 (sh_CM d) 6 (And.intro (Nat.le_of_ble_eq_true rfl) (x_M_cell (Nat.le_trans (Nat.le_of_ble_eq_true rfl) hd) l4 l3 l5 h (sh_okB H) (fun v1 H => ?_)))
      show wq_286 d Q 70 [oR 12 0, oI l1, oI l2, oI l3, oI l4, oI l5, _, _] [aI v1, aR 13 46] (sh_E h)
      have c := sh_okG H
      replace H := sh_okH H
      refine ai_WP_steps mc_286 (sh_CM d) 1 (And.intro c ?_)
      show wq_286 d Q 71 [oR 12 0, oI l1, oI l2, oI l3, oI l4, oI l5, _, _] [aI (h.1 13 46 v1.toNatClampNeg)] (sh_E h)
      have c := sh_okG H
      replace H := sh_okH H
      refine ai_WP_steps mc_286 (sh_CM d) 5 (And.intro c ?_)
      show wq_286 d Q 78 [oR 12 0, oI l1, oI l2, oI l3, oI l4, oI l5, oI (h.1 13 46 v1.toNatClampNeg), _] [aI (l1 - l1 / (12 : Int32) * (12 : Int32)), aR 12 0] (sh_E h)
      refine ai_WP_steps mc_286 (sh_CM d) 4 (And.intro (Nat.le_of_ble_eq_true rfl) (x_M_ask (Nat.le_trans (Nat.le_of_ble_eq_true rfl) hd) (l1 - l1 / (12 : Int32) * (12 : Int32)) (h.1 13 46 v1.toNatClampNeg) l5 (0 : Int32) h (sh_okB H) (fun h2 H => ?_)))
      show wq_286 d Q 86 [oR 12 0, oI l1, oI l2, oI l3, oI l4, oI l5, oI (h.1 13 46 v1.toNatClampNeg), _] [] (sh_E h2)
      refine ai_WP_steps mc_286 (sh_CM d) 9 (And.intro (Nat.le_of_ble_eq_true rfl) (x_M_sum N (Nat.le_trans (Nat.le_of_ble_eq_true rfl) hd) (((210 : Int32) + ((3 : Int32) * l2)) + (1 : Int32)) h2 (sh_okB H) (fun v3 h4 H => ?_)))
      show wq_286 d Q 99 [oR 12 0, oI l1, oI l2, oI l3, oI l4, oI l5, oI (h.1 13 46 v1.toNatClampNeg), _] [aI v3] (sh_E h4)
      refine ai_WP_steps mc_286 (sh_CM d) 3 (And.intro (Nat.le_of_ble_eq_true rfl) (x_M_within (Nat.le_trans (Nat.le_of_ble_eq_true rfl) hd) v3 (0 : Int32) (h.1 13 46 v1.toNatClampNeg) h4 (sh_okB H) (fun v5 H => ?_)))
      show wq_286 d Q 105 [oR 12 0, oI l1, oI l2, oI l3, oI l4, oI l5, oI (h.1 13 46 v1.toNatClampNeg), _] [aI v5] (sh_E h4)
      refine ai_WP_steps mc_286 (sh_CM d) 7 (And.intro (Nat.le_of_ble_eq_true rfl) (x_M_cell (Nat.le_trans (Nat.le_of_ble_eq_true rfl) hd) l4 l3 l5 h4 (sh_okB H) (fun v6 H => ?_)))
      show wq_286 d Q 119 [oR 12 0, oI l1, oI l2, oI l3, oI l4, oI l5, _, oI v5] [aI v6, aR 13 46] (sh_E h4)
      have c := sh_okG H
      replace H := sh_okH H
      refine ai_WP_steps mc_286 (sh_CM d) 2 (And.intro c ?_)
      show wq_286 d Q 121 [oR 12 0, oI l1, oI l2, oI l3, oI l4, oI l5, _, oI v5] [aI (h4.1 13 46 v6.toNatClampNeg), aI v6, aR 13 46] (sh_E h4)
      have c := sh_okG H
      replace H := sh_okH H
      refine ai_WP_steps mc_286 (sh_CM d) 3 (And.intro c ?_)
      show wq_286 d Q 125 [oR 12 0, oI l1, oI l2, oI l3, oI l4, oI l5, _, oI v5] [] (sh_E (sh_pI h4 13 46 v6.toNatClampNeg ((h4.1 13 46 v6.toNatClampNeg) - v5)))
      replace H := sh_okL H
      generalize sh_pI h4 13 46 v6.toNatClampNeg ((h4.1 13 46 v6.toNatClampNeg) - v5) = h7 at H ⊢
      refine ai_WP_steps mc_286 (sh_CM d) 8 (And.intro (Nat.le_of_ble_eq_true rfl) (x_M_cell (Nat.le_trans (Nat.le_of_ble_eq_true rfl) hd) l4 l3 (l5 + (1 : Int32)) h7 (sh_okB H) (fun v8 H => ?_)))
      show wq_286 d Q 139 [oR 12 0, oI l1, oI l2, oI l3, oI l4, oI l5, _, oI v5] [aI v8, aR 13 46] (sh_E h7)
      have c := sh_okG H
      replace H := sh_okH H
      refine ai_WP_steps mc_286 (sh_CM d) 2 (And.intro c ?_)
      show wq_286 d Q 141 [oR 12 0, oI l1, oI l2, oI l3, oI l4, oI l5, _, oI v5] [aI (h7.1 13 46 v8.toNatClampNeg), aI v8, aR 13 46] (sh_E h7)
      have c := sh_okG H
      replace H := sh_okH H
      refine ai_WP_steps mc_286 (sh_CM d) 3 (And.intro c ?_)
      show wq_286 d Q 145 [oR 12 0, oI l1, oI l2, oI l3, oI l4, oI l5, _, oI v5] [] (sh_E (sh_pI h7 13 46 v8.toNatClampNeg ((h7.1 13 46 v8.toNatClampNeg) + v5)))
      replace H := sh_okL H
      generalize sh_pI h7 13 46 v8.toNatClampNeg ((h7.1 13 46 v8.toNatClampNeg) + v5) = h9 at H ⊢
      refine ai_WP_steps mc_286 (sh_CM d) 2 ?_
      exact hk53 l1 l2 l3 l4 (l5 + (-1 : Int32)) h9 H
def f_M_wears_b151 (N : Nat)  (k39 : Int32 → Int32 → Int32 → Int32 → sh_H → Option sh_H) (l1 : Int32) (l2 : Int32) (l3 : Int32) (l4 : Int32) (h : sh_H) : Option sh_H := k39 l1 l2 l3 (l4 + (1 : Int32)) h
theorem x_M_wears_b151 (N : Nat) {d : Nat} (hd : 2 ≤ d) {Q : ai_Q} {R : sh_H → Prop} (hR : ∀ h, R h → Q none (sh_E h))  (k39 : Int32 → Int32 → Int32 → Int32 → sh_H → Option sh_H) (hk39 : ∀ (l1 : Int32) (l2 : Int32) (l3 : Int32) (l4 : Int32) {d5 d6 d7 : Option ai_V} (h : sh_H), sh_ok (k39 l1 l2 l3 l4 h) R → wq_286 d Q 39 [oR 12 0, oI l1, oI l2, oI l3, oI l4, d5, d6, d7] [] (sh_E h)) (l1 : Int32) (l2 : Int32) (l3 : Int32) (l4 : Int32) {d5 d6 d7 : Option ai_V} (h : sh_H) (H : sh_ok (f_M_wears_b151 N k39 l1 l2 l3 l4 h) R) : wq_286 d Q 151 [oR 12 0, oI l1, oI l2, oI l3, oI l4, d5, d6, d7] [] (sh_E h) := by
  refine ai_WP_steps mc_286 (sh_CM d) 2 ?_
  exact hk39 l1 l2 l3 (l4 + (1 : Int32)) h H
def f_M_wears_l39 (N : Nat)  (k157 : Int32 → Int32 → sh_H → Option sh_H) (n : Nat) : Int32 → Int32 → Int32 → Int32 → sh_H → Option sh_H := Nat.rec (motive := fun _ => Int32 → Int32 → Int32 → Int32 → sh_H → Option sh_H) (fun _ _ _ _ _ => none) (fun _ k39 l1 l2 l3 l4 h => (if ai_in (1 : Int32) 8000 then (if (h.1 13 46 (1 : Int32).toNatClampNeg) < l4 then k157 l1 l2 h else f_M_wears_l53 N (f_M_wears_b151 N k39) N l1 l2 l3 l4 (2 : Int32) h) else none)) n
theorem x_M_wears_l39 (N : Nat) {d : Nat} (hd : 2 ≤ d) {Q : ai_Q} {R : sh_H → Prop} (hR : ∀ h, R h → Q none (sh_E h))  (k157 : Int32 → Int32 → sh_H → Option sh_H) (hk157 : ∀ (l1 : Int32) (l2 : Int32) {d3 d4 d5 d6 d7 : Option ai_V} (h : sh_H), sh_ok (k157 l1 l2 h) R → wq_286 d Q 157 [oR 12 0, oI l1, oI l2, d3, d4, d5, d6, d7] [] (sh_E h)) (n : Nat) : ∀ (l1 : Int32) (l2 : Int32) (l3 : Int32) (l4 : Int32) {d5 d6 d7 : Option ai_V} (h : sh_H), sh_ok (f_M_wears_l39 N k157 n l1 l2 l3 l4 h) R → wq_286 d Q 39 [oR 12 0, oI l1, oI l2, oI l3, oI l4, d5, d6, d7] [] (sh_E h) := by
  induction n with
  | zero => intro l1 l2 l3 l4 d5 d6 d7 h H; exact H.elim
  | succ n ih =>
    intro l1 l2 l3 l4 d5 d6 d7 h H
    have hk39 := @ih
    revert hk39 H
    show sh_ok ((fun k39 l1 l2 l3 l4 h => (if ai_in (1 : Int32) 8000 then (if (h.1 13 46 (1 : Int32).toNatClampNeg) < l4 then k157 l1 l2 h else f_M_wears_l53 N (f_M_wears_b151 N k39) N l1 l2 l3 l4 (2 : Int32) h) else none)) (f_M_wears_l39 N k157 n) l1 l2 l3 l4 h) R → _
    generalize f_M_wears_l39 N k157 n = k39
    intro H hk39
    have c := sh_okG H
    replace H := sh_okH H
    refine ai_WP_steps mc_286 (sh_CM d) 5 (And.intro c ?_)
    show wq_286 d Q 47 [oR 12 0, oI l1, oI l2, oI l3, oI l4, _, _, _] [aI (h.1 13 46 (1 : Int32).toNatClampNeg), aI l4] (sh_E h)
    refine ai_WP_steps mc_286 (sh_CM d) 1 (And.intro (fun c => ?_) (fun c => ?_))
    · replace H := sh_okT c H
      exact hk157 l1 l2 h H
    · replace H := sh_okF c H
      show wq_286 d Q 50 [oR 12 0, oI l1, oI l2, oI l3, oI l4, _, _, _] [] (sh_E h)
      refine ai_WP_steps mc_286 (sh_CM d) 2 ?_
      exact x_M_wears_l53 N hd hR (f_M_wears_b151 N k39) (fun z0 z1 z2 z3 {e5} {e6} {e7} h H => x_M_wears_b151 N hd hR k39 hk39 z0 z1 z2 z3 h H) N l1 l2 l3 l4 (2 : Int32) h H
def f_M_wears_b157 (N : Nat)  (k2 : Int32 → Int32 → sh_H → Option sh_H) (l1 : Int32) (l2 : Int32) (h : sh_H) : Option sh_H := k2 l1 (l2 + (1 : Int32)) h
theorem x_M_wears_b157 (N : Nat) {d : Nat} (hd : 2 ≤ d) {Q : ai_Q} {R : sh_H → Prop} (hR : ∀ h, R h → Q none (sh_E h))  (k2 : Int32 → Int32 → sh_H → Option sh_H) (hk2 : ∀ (l1 : Int32) (l2 : Int32) {d3 d4 d5 d6 d7 : Option ai_V} (h : sh_H), sh_ok (k2 l1 l2 h) R → wq_286 d Q 2 [oR 12 0, oI l1, oI l2, d3, d4, d5, d6, d7] [] (sh_E h)) (l1 : Int32) (l2 : Int32) {d3 d4 d5 d6 d7 : Option ai_V} (h : sh_H) (H : sh_ok (f_M_wears_b157 N k2 l1 l2 h) R) : wq_286 d Q 157 [oR 12 0, oI l1, oI l2, d3, d4, d5, d6, d7] [] (sh_E h) := by
  refine ai_WP_steps mc_286 (sh_CM d) 2 ?_
  exact hk2 l1 (l2 + (1 : Int32)) h H
def f_M_wears_l2 (N : Nat)  (k163 : sh_H → Option sh_H) (n : Nat) : Int32 → Int32 → sh_H → Option sh_H := Nat.rec (motive := fun _ => Int32 → Int32 → sh_H → Option sh_H) (fun _ _ _ => none) (fun _ k2 l1 l2 h => (if ai_in (5 : Int32) 8000 then (if l2 < (h.1 13 46 (5 : Int32).toNatClampNeg) then (Option.bind (f_M_isLastWear N l2 h) (fun v10 => (if v10 = 0 then f_M_wears_b157 N k2 l1 l2 h else (if ai_in ((210 : Int32) + ((3 : Int32) * l2)) 8000 then f_M_wears_l39 N (f_M_wears_b157 N k2) N l1 l2 (h.1 13 46 ((210 : Int32) + ((3 : Int32) * l2)).toNatClampNeg) (1 : Int32) h else none)))) else k163 h) else none)) n
theorem x_M_wears_l2 (N : Nat) {d : Nat} (hd : 2 ≤ d) {Q : ai_Q} {R : sh_H → Prop} (hR : ∀ h, R h → Q none (sh_E h))  (k163 : sh_H → Option sh_H) (hk163 : ∀ {d0 d1 d2 d3 d4 d5 d6 d7 : Option ai_V} (h : sh_H), sh_ok (k163 h) R → wq_286 d Q 163 [d0, d1, d2, d3, d4, d5, d6, d7] [] (sh_E h)) (n : Nat) : ∀ (l1 : Int32) (l2 : Int32) {d3 d4 d5 d6 d7 : Option ai_V} (h : sh_H), sh_ok (f_M_wears_l2 N k163 n l1 l2 h) R → wq_286 d Q 2 [oR 12 0, oI l1, oI l2, d3, d4, d5, d6, d7] [] (sh_E h) := by
  induction n with
  | zero => intro l1 l2 d3 d4 d5 d6 d7 h H; exact H.elim
  | succ n ih =>
    intro l1 l2 d3 d4 d5 d6 d7 h H
    have hk2 := @ih
    revert hk2 H
    show sh_ok ((fun k2 l1 l2 h => (if ai_in (5 : Int32) 8000 then (if l2 < (h.1 13 46 (5 : Int32).toNatClampNeg) then (Option.bind (f_M_isLastWear N l2 h) (fun v10 => (if v10 = 0 then f_M_wears_b157 N k2 l1 l2 h else (if ai_in ((210 : Int32) + ((3 : Int32) * l2)) 8000 then f_M_wears_l39 N (f_M_wears_b157 N k2) N l1 l2 (h.1 13 46 ((210 : Int32) + ((3 : Int32) * l2)).toNatClampNeg) (1 : Int32) h else none)))) else k163 h) else none)) (f_M_wears_l2 N k163 n) l1 l2 h) R → _
    generalize f_M_wears_l2 N k163 n = k2
    intro H hk2
    have c := sh_okG H
    replace H := sh_okH H
    refine ai_WP_steps mc_286 (sh_CM d) 5 (And.intro c ?_)
    show wq_286 d Q 9 [oR 12 0, oI l1, oI l2, _, _, _, _, _] [aI (h.1 13 46 (5 : Int32).toNatClampNeg), aI l2] (sh_E h)
    refine ai_WP_steps mc_286 (sh_CM d) 1 (And.intro (fun c => ?_) (fun c => ?_))
    · replace H := sh_okT c H
      show wq_286 d Q 12 [oR 12 0, oI l1, oI l2, _, _, _, _, _] [] (sh_E h)
      refine ai_WP_steps mc_286 (sh_CM d) 3 (And.intro (Nat.le_of_ble_eq_true rfl) (x_M_isLastWear N (Nat.le_trans (Nat.le_of_ble_eq_true rfl) hd) l2 h (sh_okB H) (fun v10 H => ?_)))
      show wq_286 d Q 17 [oR 12 0, oI l1, oI l2, _, _, _, _, _] [aI v10] (sh_E h)
      refine ai_WP_steps mc_286 (sh_CM d) 1 (And.intro (fun c => ?_) (fun c => ?_))
      · replace H := sh_okT c H
        show wq_286 d Q 20 [oR 12 0, oI l1, oI l2, _, _, _, _, _] [] (sh_E h)
        refine ai_WP_steps mc_286 (sh_CM d) 1 ?_
        exact x_M_wears_b157 N hd hR k2 hk2 l1 l2 h H
      · replace H := sh_okF c H
        show wq_286 d Q 23 [oR 12 0, oI l1, oI l2, _, _, _, _, _] [] (sh_E h)
        have c := sh_okG H
        replace H := sh_okH H
        refine ai_WP_steps mc_286 (sh_CM d) 8 (And.intro c ?_)
        show wq_286 d Q 35 [oR 12 0, oI l1, oI l2, _, _, _, _, _] [aI (h.1 13 46 ((210 : Int32) + ((3 : Int32) * l2)).toNatClampNeg)] (sh_E h)
        refine ai_WP_steps mc_286 (sh_CM d) 3 ?_
        exact x_M_wears_l39 N hd hR (f_M_wears_b157 N k2) (fun z0 z1 {e3} {e4} {e5} {e6} {e7} h H => x_M_wears_b157 N hd hR k2 hk2 z0 z1 h H) N l1 l2 (h.1 13 46 ((210 : Int32) + ((3 : Int32) * l2)).toNatClampNeg) (1 : Int32) h H
    · replace H := sh_okF c H
      exact hk163 h H
def f_M_wears_b163 (N : Nat)    (h : sh_H) : Option sh_H := (some h)
theorem x_M_wears_b163 (N : Nat) {d : Nat} (hd : 2 ≤ d) {Q : ai_Q} {R : sh_H → Prop} (hR : ∀ h, R h → Q none (sh_E h))    {d0 d1 d2 d3 d4 d5 d6 d7 : Option ai_V} (h : sh_H) (H : sh_ok (f_M_wears_b163 N h) R) : wq_286 d Q 163 [d0, d1, d2, d3, d4, d5, d6, d7] [] (sh_E h) := by
  exact ai_WP_steps mc_286 (sh_CM d) 1 (hR h H)
def f_M_wears (N : Nat)  (l1 : Int32) (h : sh_H) : Option sh_H := f_M_wears_l2 N (f_M_wears_b163 N) N l1 (0 : Int32) h
theorem x_M_wears (N : Nat) {d : Nat} (hd : 3 ≤ d) (l1 : Int32) (h : sh_H) {Q : ai_Q} {R : sh_H → Prop} (H : sh_ok (f_M_wears N l1 h) R) (hR : ∀ h, R h → Q none (sh_E h)) : ai_Ex sh_T d 286 [aR 12 0, aI l1] (sh_E h) Q := by
  obtain ⟨d, rfl⟩ : ∃ e, d = e + 1 := ⟨d - 1, by omega⟩
  replace hd : 2 ≤ d := by omega
  refine And.intro (Nat.le_of_ble_eq_true rfl) ?_
  show wq_286 d Q 0 [oR 12 0, oI l1, none, none, none, none, none, none] [] (sh_E h)
  refine ai_WP_steps mc_286 (sh_CM d) 2 ?_
  exact x_M_wears_l2 N hd hR (f_M_wears_b163 N) (fun {e0} {e1} {e2} {e3} {e4} {e5} {e6} {e7} h H => x_M_wears_b163 N hd hR  h H) N l1 (0 : Int32) h H
def f_M_loses_b101 (N : Nat)  (k2 : Int32 → Int32 → sh_H → Option sh_H) (l1 : Int32) (l2 : Int32) (h : sh_H) : Option sh_H := k2 l1 (l2 + (1 : Int32)) h
theorem x_M_loses_b101 (N : Nat) {d : Nat} (hd : 2 ≤ d) {Q : ai_Q} {R : sh_H → Prop} (hR : ∀ h, R h → Q none (sh_E h))  (k2 : Int32 → Int32 → sh_H → Option sh_H) (hk2 : ∀ (l1 : Int32) (l2 : Int32) {d3 d4 d5 : Option ai_V} (h : sh_H), sh_ok (k2 l1 l2 h) R → wq_287 d Q 2 [oR 12 0, oI l1, oI l2, d3, d4, d5] [] (sh_E h)) (l1 : Int32) (l2 : Int32) {d3 d4 d5 : Option ai_V} (h : sh_H) (H : sh_ok (f_M_loses_b101 N k2 l1 l2 h) R) : wq_287 d Q 101 [oR 12 0, oI l1, oI l2, d3, d4, d5] [] (sh_E h) := by
  refine ai_WP_steps mc_287 (sh_CM d) 2 ?_
  exact hk2 l1 (l2 + (1 : Int32)) h H
def f_M_loses_l2 (N : Nat)  (k107 : sh_H → Option sh_H) (n : Nat) : Int32 → Int32 → sh_H → Option sh_H := Nat.rec (motive := fun _ => Int32 → Int32 → sh_H → Option sh_H) (fun _ _ _ => none) (fun _ k2 l1 l2 h => (if ai_in (3 : Int32) 8000 then (if l2 < (h.1 13 46 (3 : Int32).toNatClampNeg) then (Option.bind (f_M_isLast N (3 : Int32) (100 : Int32) l2 h) (fun v1 => (if v1 = 0 then f_M_loses_b101 N k2 l1 l2 h else (if ai_in ((100 : Int32) + ((4 : Int32) * l2)) 8000 then (if ai_in (((100 : Int32) + ((4 : Int32) * l2)) + (1 : Int32)) 8000 then (Option.bind (f_M_all N (h.1 13 46 ((100 : Int32) + ((4 : Int32) * l2)).toNatClampNeg) (h.1 13 46 (((100 : Int32) + ((4 : Int32) * l2)) + (1 : Int32)).toNatClampNeg) h) (fun v2 => (if ¬ (12 : Int32) = 0 then (Option.bind (f_M_ask (l1 - l1 / (12 : Int32) * (12 : Int32)) v2 (0 : Int32) (0 : Int32) h) (fun h3 => (sh_b2 (f_M_sum N (((100 : Int32) + ((4 : Int32) * l2)) + (2 : Int32)) h3) (fun v4 h5 => (Option.bind (f_M_within v4 (0 : Int32) v2 h5) (fun v6 => (Option.bind (f_M_go N (h.1 13 46 ((100 : Int32) + ((4 : Int32) * l2)).toNatClampNeg) (-1 : Int32) (h.1 13 46 (((100 : Int32) + ((4 : Int32) * l2)) + (1 : Int32)).toNatClampNeg) v6 (1 : Int32) h5) (fun h7 => f_M_loses_b101 N k2 l1 l2 h7)))))))) else none))) else none) else none)))) else k107 h) else none)) n
theorem x_M_loses_l2 (N : Nat) {d : Nat} (hd : 2 ≤ d) {Q : ai_Q} {R : sh_H → Prop} (hR : ∀ h, R h → Q none (sh_E h))  (k107 : sh_H → Option sh_H) (hk107 : ∀ {d0 d1 d2 d3 d4 d5 : Option ai_V} (h : sh_H), sh_ok (k107 h) R → wq_287 d Q 107 [d0, d1, d2, d3, d4, d5] [] (sh_E h)) (n : Nat) : ∀ (l1 : Int32) (l2 : Int32) {d3 d4 d5 : Option ai_V} (h : sh_H), sh_ok (f_M_loses_l2 N k107 n l1 l2 h) R → wq_287 d Q 2 [oR 12 0, oI l1, oI l2, d3, d4, d5] [] (sh_E h) := by
  induction n with
  | zero => intro l1 l2 d3 d4 d5 h H; exact H.elim
  | succ n ih =>
    intro l1 l2 d3 d4 d5 h H
    have hk2 := @ih
    revert hk2 H
    show sh_ok ((fun k2 l1 l2 h => (if ai_in (3 : Int32) 8000 then (if l2 < (h.1 13 46 (3 : Int32).toNatClampNeg) then (Option.bind (f_M_isLast N (3 : Int32) (100 : Int32) l2 h) (fun v1 => (if v1 = 0 then f_M_loses_b101 N k2 l1 l2 h else (if ai_in ((100 : Int32) + ((4 : Int32) * l2)) 8000 then (if ai_in (((100 : Int32) + ((4 : Int32) * l2)) + (1 : Int32)) 8000 then (Option.bind (f_M_all N (h.1 13 46 ((100 : Int32) + ((4 : Int32) * l2)).toNatClampNeg) (h.1 13 46 (((100 : Int32) + ((4 : Int32) * l2)) + (1 : Int32)).toNatClampNeg) h) (fun v2 => (if ¬ (12 : Int32) = 0 then (Option.bind (f_M_ask (l1 - l1 / (12 : Int32) * (12 : Int32)) v2 (0 : Int32) (0 : Int32) h) (fun h3 => (sh_b2 (f_M_sum N (((100 : Int32) + ((4 : Int32) * l2)) + (2 : Int32)) h3) (fun v4 h5 => (Option.bind (f_M_within v4 (0 : Int32) v2 h5) (fun v6 => (Option.bind (f_M_go N (h.1 13 46 ((100 : Int32) + ((4 : Int32) * l2)).toNatClampNeg) (-1 : Int32) (h.1 13 46 (((100 : Int32) + ((4 : Int32) * l2)) + (1 : Int32)).toNatClampNeg) v6 (1 : Int32) h5) (fun h7 => f_M_loses_b101 N k2 l1 l2 h7)))))))) else none))) else none) else none)))) else k107 h) else none)) (f_M_loses_l2 N k107 n) l1 l2 h) R → _
    generalize f_M_loses_l2 N k107 n = k2
    intro H hk2
    have c := sh_okG H
    replace H := sh_okH H
    refine ai_WP_steps mc_287 (sh_CM d) 5 (And.intro c ?_)
    show wq_287 d Q 9 [oR 12 0, oI l1, oI l2, _, _, _] [aI (h.1 13 46 (3 : Int32).toNatClampNeg), aI l2] (sh_E h)
    refine ai_WP_steps mc_287 (sh_CM d) 1 (And.intro (fun c => ?_) (fun c => ?_))
    · replace H := sh_okT c H
      show wq_287 d Q 12 [oR 12 0, oI l1, oI l2, _, _, _] [] (sh_E h)
      refine ai_WP_steps mc_287 (sh_CM d) 5 (And.intro (Nat.le_of_ble_eq_true rfl) (x_M_isLast N (Nat.le_trans (Nat.le_of_ble_eq_true rfl) hd) (3 : Int32) (100 : Int32) l2 h (sh_okB H) (fun v1 H => ?_)))
      show wq_287 d Q 20 [oR 12 0, oI l1, oI l2, _, _, _] [aI v1] (sh_E h)
      refine ai_WP_steps mc_287 (sh_CM d) 1 (And.intro (fun c => ?_) (fun c => ?_))
      · replace H := sh_okT c H
        show wq_287 d Q 23 [oR 12 0, oI l1, oI l2, _, _, _] [] (sh_E h)
        refine ai_WP_steps mc_287 (sh_CM d) 1 ?_
        exact x_M_loses_b101 N hd hR k2 hk2 l1 l2 h H
      · replace H := sh_okF c H
        show wq_287 d Q 26 [oR 12 0, oI l1, oI l2, _, _, _] [] (sh_E h)
        have c := sh_okG H
        replace H := sh_okH H
        refine ai_WP_steps mc_287 (sh_CM d) 8 (And.intro c ?_)
        show wq_287 d Q 37 [oR 12 0, oI l1, oI l2, _, _, _] [aI (h.1 13 46 ((100 : Int32) + ((4 : Int32) * l2)).toNatClampNeg)] (sh_E h)
        have c := sh_okG H
        replace H := sh_okH H
        refine ai_WP_steps mc_287 (sh_CM d) 11 (And.intro c ?_)
        show wq_287 d Q 51 [oR 12 0, oI l1, oI l2, oI (h.1 13 46 ((100 : Int32) + ((4 : Int32) * l2)).toNatClampNeg), _, _] [aI (h.1 13 46 (((100 : Int32) + ((4 : Int32) * l2)) + (1 : Int32)).toNatClampNeg)] (sh_E h)
        refine ai_WP_steps mc_287 (sh_CM d) 5 (And.intro (Nat.le_of_ble_eq_true rfl) (x_M_all N (Nat.le_trans (Nat.le_of_ble_eq_true rfl) hd) (h.1 13 46 ((100 : Int32) + ((4 : Int32) * l2)).toNatClampNeg) (h.1 13 46 (((100 : Int32) + ((4 : Int32) * l2)) + (1 : Int32)).toNatClampNeg) h (sh_okB H) (fun v2 H => ?_)))
        show wq_287 d Q 60 [oR 12 0, oI l1, oI l2, oI (h.1 13 46 ((100 : Int32) + ((4 : Int32) * l2)).toNatClampNeg), oI (h.1 13 46 (((100 : Int32) + ((4 : Int32) * l2)) + (1 : Int32)).toNatClampNeg), _] [aI v2] (sh_E h)
        have c := sh_okG H
        replace H := sh_okH H
        refine ai_WP_steps mc_287 (sh_CM d) 5 (And.intro c ?_)
        show wq_287 d Q 67 [oR 12 0, oI l1, oI l2, oI (h.1 13 46 ((100 : Int32) + ((4 : Int32) * l2)).toNatClampNeg), oI (h.1 13 46 (((100 : Int32) + ((4 : Int32) * l2)) + (1 : Int32)).toNatClampNeg), oI v2] [aI (l1 - l1 / (12 : Int32) * (12 : Int32)), aR 12 0] (sh_E h)
        refine ai_WP_steps mc_287 (sh_CM d) 4 (And.intro (Nat.le_of_ble_eq_true rfl) (x_M_ask (Nat.le_trans (Nat.le_of_ble_eq_true rfl) hd) (l1 - l1 / (12 : Int32) * (12 : Int32)) v2 (0 : Int32) (0 : Int32) h (sh_okB H) (fun h3 H => ?_)))
        show wq_287 d Q 74 [oR 12 0, oI l1, oI l2, oI (h.1 13 46 ((100 : Int32) + ((4 : Int32) * l2)).toNatClampNeg), oI (h.1 13 46 (((100 : Int32) + ((4 : Int32) * l2)) + (1 : Int32)).toNatClampNeg), oI v2] [] (sh_E h3)
        refine ai_WP_steps mc_287 (sh_CM d) 13 (And.intro (Nat.le_of_ble_eq_true rfl) (x_M_sum N (Nat.le_trans (Nat.le_of_ble_eq_true rfl) hd) (((100 : Int32) + ((4 : Int32) * l2)) + (2 : Int32)) h3 (sh_okB H) (fun v4 h5 H => ?_)))
        show wq_287 d Q 91 [oR 12 0, oI l1, oI l2, oI (h.1 13 46 ((100 : Int32) + ((4 : Int32) * l2)).toNatClampNeg), oI (h.1 13 46 (((100 : Int32) + ((4 : Int32) * l2)) + (1 : Int32)).toNatClampNeg), oI v2] [aI v4, aI (h.1 13 46 (((100 : Int32) + ((4 : Int32) * l2)) + (1 : Int32)).toNatClampNeg), aI (-1 : Int32), aI (h.1 13 46 ((100 : Int32) + ((4 : Int32) * l2)).toNatClampNeg), aR 12 0] (sh_E h5)
        refine ai_WP_steps mc_287 (sh_CM d) 3 (And.intro (Nat.le_of_ble_eq_true rfl) (x_M_within (Nat.le_trans (Nat.le_of_ble_eq_true rfl) hd) v4 (0 : Int32) v2 h5 (sh_okB H) (fun v6 H => ?_)))
        show wq_287 d Q 97 [oR 12 0, oI l1, oI l2, oI (h.1 13 46 ((100 : Int32) + ((4 : Int32) * l2)).toNatClampNeg), oI (h.1 13 46 (((100 : Int32) + ((4 : Int32) * l2)) + (1 : Int32)).toNatClampNeg), oI v2] [aI v6, aI (h.1 13 46 (((100 : Int32) + ((4 : Int32) * l2)) + (1 : Int32)).toNatClampNeg), aI (-1 : Int32), aI (h.1 13 46 ((100 : Int32) + ((4 : Int32) * l2)).toNatClampNeg), aR 12 0] (sh_E h5)
        refine ai_WP_steps mc_287 (sh_CM d) 2 (And.intro (Nat.le_of_ble_eq_true rfl) (x_M_go N (Nat.le_trans (Nat.le_of_ble_eq_true rfl) hd) (h.1 13 46 ((100 : Int32) + ((4 : Int32) * l2)).toNatClampNeg) (-1 : Int32) (h.1 13 46 (((100 : Int32) + ((4 : Int32) * l2)) + (1 : Int32)).toNatClampNeg) v6 (1 : Int32) h5 (sh_okB H) (fun h7 H => ?_)))
        show wq_287 d Q 101 [oR 12 0, oI l1, oI l2, oI (h.1 13 46 ((100 : Int32) + ((4 : Int32) * l2)).toNatClampNeg), oI (h.1 13 46 (((100 : Int32) + ((4 : Int32) * l2)) + (1 : Int32)).toNatClampNeg), oI v2] [] (sh_E h7)
        exact x_M_loses_b101 N hd hR k2 hk2 l1 l2 h7 H
    · replace H := sh_okF c H
      exact hk107 h H
def f_M_loses_b107 (N : Nat)    (h : sh_H) : Option sh_H := (some h)
theorem x_M_loses_b107 (N : Nat) {d : Nat} (hd : 2 ≤ d) {Q : ai_Q} {R : sh_H → Prop} (hR : ∀ h, R h → Q none (sh_E h))    {d0 d1 d2 d3 d4 d5 : Option ai_V} (h : sh_H) (H : sh_ok (f_M_loses_b107 N h) R) : wq_287 d Q 107 [d0, d1, d2, d3, d4, d5] [] (sh_E h) := by
  exact ai_WP_steps mc_287 (sh_CM d) 1 (hR h H)
def f_M_loses (N : Nat)  (l1 : Int32) (h : sh_H) : Option sh_H := f_M_loses_l2 N (f_M_loses_b107 N) N l1 (0 : Int32) h
theorem x_M_loses (N : Nat) {d : Nat} (hd : 3 ≤ d) (l1 : Int32) (h : sh_H) {Q : ai_Q} {R : sh_H → Prop} (H : sh_ok (f_M_loses N l1 h) R) (hR : ∀ h, R h → Q none (sh_E h)) : ai_Ex sh_T d 287 [aR 12 0, aI l1] (sh_E h) Q := by
  obtain ⟨d, rfl⟩ : ∃ e, d = e + 1 := ⟨d - 1, by omega⟩
  replace hd : 2 ≤ d := by omega
  refine And.intro (Nat.le_of_ble_eq_true rfl) ?_
  show wq_287 d Q 0 [oR 12 0, oI l1, none, none, none, none] [] (sh_E h)
  refine ai_WP_steps mc_287 (sh_CM d) 2 ?_
  exact x_M_loses_l2 N hd hR (f_M_loses_b107 N) (fun {e0} {e1} {e2} {e3} {e4} {e5} h H => x_M_loses_b107 N hd hR  h H) N l1 (0 : Int32) h H
def f_M_lacking_b134 (N : Nat)  (k4 : Int32 → Int32 → Int32 → sh_H → Option (Int32 × sh_H)) (l1 : Int32) (l2 : Int32) (l3 : Int32) (h : sh_H) : Option (Int32 × sh_H) := k4 l1 l2 (l3 + (1 : Int32)) h
theorem x_M_lacking_b134 (N : Nat) {d : Nat} (hd : 3 ≤ d) {Q : ai_Q} {R : Int32 × sh_H → Prop} (hR : ∀ r h, R (r, h) → Q (some (aI r)) (sh_E h))  (k4 : Int32 → Int32 → Int32 → sh_H → Option (Int32 × sh_H)) (hk4 : ∀ (l1 : Int32) (l2 : Int32) (l3 : Int32) {d4 d5 d6 : Option ai_V} (h : sh_H), sh_ok (k4 l1 l2 l3 h) R → wq_288 d Q 4 [oR 12 0, oI l1, oI l2, oI l3, d4, d5, d6] [] (sh_E h)) (l1 : Int32) (l2 : Int32) (l3 : Int32) {d4 d5 d6 : Option ai_V} (h : sh_H) (H : sh_ok (f_M_lacking_b134 N k4 l1 l2 l3 h) R) : wq_288 d Q 134 [oR 12 0, oI l1, oI l2, oI l3, d4, d5, d6] [] (sh_E h) := by
  refine ai_WP_steps mc_288 (sh_CM d) 2 ?_
  exact hk4 l1 l2 (l3 + (1 : Int32)) h H
def f_M_lacking_l4 (N : Nat)  (k140 : Int32 → sh_H → Option (Int32 × sh_H)) (n : Nat) : Int32 → Int32 → Int32 → sh_H → Option (Int32 × sh_H) := Nat.rec (motive := fun _ => Int32 → Int32 → Int32 → sh_H → Option (Int32 × sh_H)) (fun _ _ _ _ => none) (fun _ k4 l1 l2 l3 h => (if ai_in (2 : Int32) 8000 then (if l3 < (h.1 13 46 (2 : Int32).toNatClampNeg) then (Option.bind (f_M_isLast N (2 : Int32) (50 : Int32) l3 h) (fun v1 => (if v1 = 0 then f_M_lacking_b134 N k4 l1 l2 l3 h else (if ai_in ((50 : Int32) + ((4 : Int32) * l3)) 8000 then (if ai_in (((50 : Int32) + ((4 : Int32) * l3)) + (1 : Int32)) 8000 then (if ¬ (12 : Int32) = 0 then (sh_b2 (f_M_wanted N (h.1 13 46 ((50 : Int32) + ((4 : Int32) * l3)).toNatClampNeg) (h.1 13 46 (((50 : Int32) + ((4 : Int32) * l3)) + (1 : Int32)).toNatClampNeg) (l1 - l1 / (12 : Int32) * (12 : Int32)) h) (fun v2 h3 => (Option.bind (f_M_all N (h.1 13 46 ((50 : Int32) + ((4 : Int32) * l3)).toNatClampNeg) (h.1 13 46 (((50 : Int32) + ((4 : Int32) * l3)) + (1 : Int32)).toNatClampNeg) h3) (fun v4 => (if 0 < (v2 - v4) then (if ai_in (((920 : Int32) + ((6 : Int32) * (h.1 13 46 ((50 : Int32) + ((4 : Int32) * l3)).toNatClampNeg))) + (h.1 13 46 (((50 : Int32) + ((4 : Int32) * l3)) + (1 : Int32)).toNatClampNeg)) 8000 then (if ai_in (((920 : Int32) + ((6 : Int32) * (h.1 13 46 ((50 : Int32) + ((4 : Int32) * l3)).toNatClampNeg))) + (h.1 13 46 (((50 : Int32) + ((4 : Int32) * l3)) + (1 : Int32)).toNatClampNeg)) 8000 then (sh_let (sh_pI h3 13 46 (((920 : Int32) + ((6 : Int32) * (h.1 13 46 ((50 : Int32) + ((4 : Int32) * l3)).toNatClampNeg))) + (h.1 13 46 (((50 : Int32) + ((4 : Int32) * l3)) + (1 : Int32)).toNatClampNeg)).toNatClampNeg ((h3.1 13 46 (((920 : Int32) + ((6 : Int32) * (h.1 13 46 ((50 : Int32) + ((4 : Int32) * l3)).toNatClampNeg))) + (h.1 13 46 (((50 : Int32) + ((4 : Int32) * l3)) + (1 : Int32)).toNatClampNeg)).toNatClampNeg) + (v2 - v4))) (fun h5 => (if ai_in (0 : Int32) 12 then (Option.bind (f_M_harm (h.1 13 46 ((50 : Int32) + ((4 : Int32) * l3)).toNatClampNeg) h5) (fun v6 => (if ai_in (0 : Int32) 12 then (sh_let (sh_pJ h5 14 6 (0 : Int32).toNatClampNeg ((h5.2.1 14 6 (0 : Int32).toNatClampNeg) + ((v2 - v4).toInt64 * v6.toInt64))) (fun h7 => f_M_lacking_b134 N k4 l1 (l2 + (v2 - v4)) l3 h7)) else none))) else none))) else none) else none) else f_M_lacking_b134 N k4 l1 l2 l3 h3))))) else none) else none) else none)))) else k140 l2 h) else none)) n
theorem x_M_lacking_l4 (N : Nat) {d : Nat} (hd : 3 ≤ d) {Q : ai_Q} {R : Int32 × sh_H → Prop} (hR : ∀ r h, R (r, h) → Q (some (aI r)) (sh_E h))  (k140 : Int32 → sh_H → Option (Int32 × sh_H)) (hk140 : ∀ (l2 : Int32) {d0 d1 d3 d4 d5 d6 : Option ai_V} (h : sh_H), sh_ok (k140 l2 h) R → wq_288 d Q 140 [d0, d1, oI l2, d3, d4, d5, d6] [] (sh_E h)) (n : Nat) : ∀ (l1 : Int32) (l2 : Int32) (l3 : Int32) {d4 d5 d6 : Option ai_V} (h : sh_H), sh_ok (f_M_lacking_l4 N k140 n l1 l2 l3 h) R → wq_288 d Q 4 [oR 12 0, oI l1, oI l2, oI l3, d4, d5, d6] [] (sh_E h) := by
  induction n with
  | zero => intro l1 l2 l3 d4 d5 d6 h H; exact H.elim
  | succ n ih =>
    intro l1 l2 l3 d4 d5 d6 h H
    have hk4 := @ih
    revert hk4 H
    show sh_ok ((fun k4 l1 l2 l3 h => (if ai_in (2 : Int32) 8000 then (if l3 < (h.1 13 46 (2 : Int32).toNatClampNeg) then (Option.bind (f_M_isLast N (2 : Int32) (50 : Int32) l3 h) (fun v1 => (if v1 = 0 then f_M_lacking_b134 N k4 l1 l2 l3 h else (if ai_in ((50 : Int32) + ((4 : Int32) * l3)) 8000 then (if ai_in (((50 : Int32) + ((4 : Int32) * l3)) + (1 : Int32)) 8000 then (if ¬ (12 : Int32) = 0 then (sh_b2 (f_M_wanted N (h.1 13 46 ((50 : Int32) + ((4 : Int32) * l3)).toNatClampNeg) (h.1 13 46 (((50 : Int32) + ((4 : Int32) * l3)) + (1 : Int32)).toNatClampNeg) (l1 - l1 / (12 : Int32) * (12 : Int32)) h) (fun v2 h3 => (Option.bind (f_M_all N (h.1 13 46 ((50 : Int32) + ((4 : Int32) * l3)).toNatClampNeg) (h.1 13 46 (((50 : Int32) + ((4 : Int32) * l3)) + (1 : Int32)).toNatClampNeg) h3) (fun v4 => (if 0 < (v2 - v4) then (if ai_in (((920 : Int32) + ((6 : Int32) * (h.1 13 46 ((50 : Int32) + ((4 : Int32) * l3)).toNatClampNeg))) + (h.1 13 46 (((50 : Int32) + ((4 : Int32) * l3)) + (1 : Int32)).toNatClampNeg)) 8000 then (if ai_in (((920 : Int32) + ((6 : Int32) * (h.1 13 46 ((50 : Int32) + ((4 : Int32) * l3)).toNatClampNeg))) + (h.1 13 46 (((50 : Int32) + ((4 : Int32) * l3)) + (1 : Int32)).toNatClampNeg)) 8000 then (sh_let (sh_pI h3 13 46 (((920 : Int32) + ((6 : Int32) * (h.1 13 46 ((50 : Int32) + ((4 : Int32) * l3)).toNatClampNeg))) + (h.1 13 46 (((50 : Int32) + ((4 : Int32) * l3)) + (1 : Int32)).toNatClampNeg)).toNatClampNeg ((h3.1 13 46 (((920 : Int32) + ((6 : Int32) * (h.1 13 46 ((50 : Int32) + ((4 : Int32) * l3)).toNatClampNeg))) + (h.1 13 46 (((50 : Int32) + ((4 : Int32) * l3)) + (1 : Int32)).toNatClampNeg)).toNatClampNeg) + (v2 - v4))) (fun h5 => (if ai_in (0 : Int32) 12 then (Option.bind (f_M_harm (h.1 13 46 ((50 : Int32) + ((4 : Int32) * l3)).toNatClampNeg) h5) (fun v6 => (if ai_in (0 : Int32) 12 then (sh_let (sh_pJ h5 14 6 (0 : Int32).toNatClampNeg ((h5.2.1 14 6 (0 : Int32).toNatClampNeg) + ((v2 - v4).toInt64 * v6.toInt64))) (fun h7 => f_M_lacking_b134 N k4 l1 (l2 + (v2 - v4)) l3 h7)) else none))) else none))) else none) else none) else f_M_lacking_b134 N k4 l1 l2 l3 h3))))) else none) else none) else none)))) else k140 l2 h) else none)) (f_M_lacking_l4 N k140 n) l1 l2 l3 h) R → _
    generalize f_M_lacking_l4 N k140 n = k4
    intro H hk4
    have c := sh_okG H
    replace H := sh_okH H
    refine ai_WP_steps mc_288 (sh_CM d) 5 (And.intro c ?_)
    show wq_288 d Q 11 [oR 12 0, oI l1, oI l2, oI l3, _, _, _] [aI (h.1 13 46 (2 : Int32).toNatClampNeg), aI l3] (sh_E h)
    refine ai_WP_steps mc_288 (sh_CM d) 1 (And.intro (fun c => ?_) (fun c => ?_))
    · replace H := sh_okT c H
      show wq_288 d Q 14 [oR 12 0, oI l1, oI l2, oI l3, _, _, _] [] (sh_E h)
      refine ai_WP_steps mc_288 (sh_CM d) 5 (And.intro (Nat.le_of_ble_eq_true rfl) (x_M_isLast N (Nat.le_trans (Nat.le_of_ble_eq_true rfl) hd) (2 : Int32) (50 : Int32) l3 h (sh_okB H) (fun v1 H => ?_)))
      show wq_288 d Q 22 [oR 12 0, oI l1, oI l2, oI l3, _, _, _] [aI v1] (sh_E h)
      refine ai_WP_steps mc_288 (sh_CM d) 1 (And.intro (fun c => ?_) (fun c => ?_))
      · replace H := sh_okT c H
        show wq_288 d Q 25 [oR 12 0, oI l1, oI l2, oI l3, _, _, _] [] (sh_E h)
        refine ai_WP_steps mc_288 (sh_CM d) 1 ?_
        exact x_M_lacking_b134 N hd hR k4 hk4 l1 l2 l3 h H
      · replace H := sh_okF c H
        show wq_288 d Q 28 [oR 12 0, oI l1, oI l2, oI l3, _, _, _] [] (sh_E h)
        have c := sh_okG H
        replace H := sh_okH H
        refine ai_WP_steps mc_288 (sh_CM d) 8 (And.intro c ?_)
        show wq_288 d Q 39 [oR 12 0, oI l1, oI l2, oI l3, _, _, _] [aI (h.1 13 46 ((50 : Int32) + ((4 : Int32) * l3)).toNatClampNeg)] (sh_E h)
        have c := sh_okG H
        replace H := sh_okH H
        refine ai_WP_steps mc_288 (sh_CM d) 11 (And.intro c ?_)
        show wq_288 d Q 54 [oR 12 0, oI l1, oI l2, oI l3, oI (h.1 13 46 ((50 : Int32) + ((4 : Int32) * l3)).toNatClampNeg), _, _] [aI (h.1 13 46 (((50 : Int32) + ((4 : Int32) * l3)) + (1 : Int32)).toNatClampNeg)] (sh_E h)
        have c := sh_okG H
        replace H := sh_okH H
        refine ai_WP_steps mc_288 (sh_CM d) 7 (And.intro c ?_)
        show wq_288 d Q 65 [oR 12 0, oI l1, oI l2, oI l3, oI (h.1 13 46 ((50 : Int32) + ((4 : Int32) * l3)).toNatClampNeg), oI (h.1 13 46 (((50 : Int32) + ((4 : Int32) * l3)) + (1 : Int32)).toNatClampNeg), _] [aI (l1 - l1 / (12 : Int32) * (12 : Int32)), aI (h.1 13 46 (((50 : Int32) + ((4 : Int32) * l3)) + (1 : Int32)).toNatClampNeg), aI (h.1 13 46 ((50 : Int32) + ((4 : Int32) * l3)).toNatClampNeg), aR 12 0] (sh_E h)
        refine ai_WP_steps mc_288 (sh_CM d) 1 (And.intro (Nat.le_of_ble_eq_true rfl) (x_M_wanted N (Nat.le_trans (Nat.le_of_ble_eq_true rfl) hd) (h.1 13 46 ((50 : Int32) + ((4 : Int32) * l3)).toNatClampNeg) (h.1 13 46 (((50 : Int32) + ((4 : Int32) * l3)) + (1 : Int32)).toNatClampNeg) (l1 - l1 / (12 : Int32) * (12 : Int32)) h (sh_okB H) (fun v2 h3 H => ?_)))
        show wq_288 d Q 68 [oR 12 0, oI l1, oI l2, oI l3, oI (h.1 13 46 ((50 : Int32) + ((4 : Int32) * l3)).toNatClampNeg), oI (h.1 13 46 (((50 : Int32) + ((4 : Int32) * l3)) + (1 : Int32)).toNatClampNeg), _] [aI v2] (sh_E h3)
        refine ai_WP_steps mc_288 (sh_CM d) 4 (And.intro (Nat.le_of_ble_eq_true rfl) (x_M_all N (Nat.le_trans (Nat.le_of_ble_eq_true rfl) hd) (h.1 13 46 ((50 : Int32) + ((4 : Int32) * l3)).toNatClampNeg) (h.1 13 46 (((50 : Int32) + ((4 : Int32) * l3)) + (1 : Int32)).toNatClampNeg) h3 (sh_okB H) (fun v4 H => ?_)))
        show wq_288 d Q 76 [oR 12 0, oI l1, oI l2, oI l3, oI (h.1 13 46 ((50 : Int32) + ((4 : Int32) * l3)).toNatClampNeg), oI (h.1 13 46 (((50 : Int32) + ((4 : Int32) * l3)) + (1 : Int32)).toNatClampNeg), _] [aI v4, aI v2] (sh_E h3)
        refine ai_WP_steps mc_288 (sh_CM d) 4 (And.intro (fun c => ?_) (fun c => ?_))
        · replace H := sh_okT c H
          show wq_288 d Q 87 [oR 12 0, oI l1, oI l2, oI l3, oI (h.1 13 46 ((50 : Int32) + ((4 : Int32) * l3)).toNatClampNeg), oI (h.1 13 46 (((50 : Int32) + ((4 : Int32) * l3)) + (1 : Int32)).toNatClampNeg), oI (v2 - v4)] [] (sh_E h3)
          have c := sh_okG H
          replace H := sh_okH H
          refine ai_WP_steps mc_288 (sh_CM d) 15 (And.intro c ?_)
          show wq_288 d Q 110 [oR 12 0, oI l1, oI (l2 + (v2 - v4)), oI l3, oI (h.1 13 46 ((50 : Int32) + ((4 : Int32) * l3)).toNatClampNeg), oI (h.1 13 46 (((50 : Int32) + ((4 : Int32) * l3)) + (1 : Int32)).toNatClampNeg), oI (v2 - v4)] [aI (h3.1 13 46 (((920 : Int32) + ((6 : Int32) * (h.1 13 46 ((50 : Int32) + ((4 : Int32) * l3)).toNatClampNeg))) + (h.1 13 46 (((50 : Int32) + ((4 : Int32) * l3)) + (1 : Int32)).toNatClampNeg)).toNatClampNeg), aI (((920 : Int32) + ((6 : Int32) * (h.1 13 46 ((50 : Int32) + ((4 : Int32) * l3)).toNatClampNeg))) + (h.1 13 46 (((50 : Int32) + ((4 : Int32) * l3)) + (1 : Int32)).toNatClampNeg)), aR 13 46] (sh_E h3)
          have c := sh_okG H
          replace H := sh_okH H
          refine ai_WP_steps mc_288 (sh_CM d) 3 (And.intro c ?_)
          show wq_288 d Q 114 [oR 12 0, oI l1, oI (l2 + (v2 - v4)), oI l3, oI (h.1 13 46 ((50 : Int32) + ((4 : Int32) * l3)).toNatClampNeg), oI (h.1 13 46 (((50 : Int32) + ((4 : Int32) * l3)) + (1 : Int32)).toNatClampNeg), oI (v2 - v4)] [] (sh_E (sh_pI h3 13 46 (((920 : Int32) + ((6 : Int32) * (h.1 13 46 ((50 : Int32) + ((4 : Int32) * l3)).toNatClampNeg))) + (h.1 13 46 (((50 : Int32) + ((4 : Int32) * l3)) + (1 : Int32)).toNatClampNeg)).toNatClampNeg ((h3.1 13 46 (((920 : Int32) + ((6 : Int32) * (h.1 13 46 ((50 : Int32) + ((4 : Int32) * l3)).toNatClampNeg))) + (h.1 13 46 (((50 : Int32) + ((4 : Int32) * l3)) + (1 : Int32)).toNatClampNeg)).toNatClampNeg) + (v2 - v4))))
          replace H := sh_okL H
          generalize sh_pI h3 13 46 (((920 : Int32) + ((6 : Int32) * (h.1 13 46 ((50 : Int32) + ((4 : Int32) * l3)).toNatClampNeg))) + (h.1 13 46 (((50 : Int32) + ((4 : Int32) * l3)) + (1 : Int32)).toNatClampNeg)).toNatClampNeg ((h3.1 13 46 (((920 : Int32) + ((6 : Int32) * (h.1 13 46 ((50 : Int32) + ((4 : Int32) * l3)).toNatClampNeg))) + (h.1 13 46 (((50 : Int32) + ((4 : Int32) * l3)) + (1 : Int32)).toNatClampNeg)).toNatClampNeg) + (v2 - v4)) = h5 at H ⊢
          have c := sh_okG H
          replace H := sh_okH H
          refine ai_WP_steps mc_288 (sh_CM d) 5 (And.intro c ?_)
          show wq_288 d Q 121 [oR 12 0, oI l1, oI (l2 + (v2 - v4)), oI l3, oI (h.1 13 46 ((50 : Int32) + ((4 : Int32) * l3)).toNatClampNeg), oI (h.1 13 46 (((50 : Int32) + ((4 : Int32) * l3)) + (1 : Int32)).toNatClampNeg), oI (v2 - v4)] [aL (h5.2.1 14 6 (0 : Int32).toNatClampNeg), aI (0 : Int32), aR 14 6] (sh_E h5)
          refine ai_WP_steps mc_288 (sh_CM d) 5 (And.intro (Nat.le_of_ble_eq_true rfl) (x_M_harm (Nat.le_trans (Nat.le_of_ble_eq_true rfl) hd) (h.1 13 46 ((50 : Int32) + ((4 : Int32) * l3)).toNatClampNeg) h5 (sh_okB H) (fun v6 H => ?_)))
          show wq_288 d Q 130 [oR 12 0, oI l1, oI (l2 + (v2 - v4)), oI l3, oI (h.1 13 46 ((50 : Int32) + ((4 : Int32) * l3)).toNatClampNeg), oI (h.1 13 46 (((50 : Int32) + ((4 : Int32) * l3)) + (1 : Int32)).toNatClampNeg), oI (v2 - v4)] [aI v6, aL (v2 - v4).toInt64, aL (h5.2.1 14 6 (0 : Int32).toNatClampNeg), aI (0 : Int32), aR 14 6] (sh_E h5)
          have c := sh_okG H
          replace H := sh_okH H
          refine ai_WP_steps mc_288 (sh_CM d) 4 (And.intro c ?_)
          show wq_288 d Q 134 [oR 12 0, oI l1, oI (l2 + (v2 - v4)), oI l3, oI (h.1 13 46 ((50 : Int32) + ((4 : Int32) * l3)).toNatClampNeg), oI (h.1 13 46 (((50 : Int32) + ((4 : Int32) * l3)) + (1 : Int32)).toNatClampNeg), oI (v2 - v4)] [] (sh_E (sh_pJ h5 14 6 (0 : Int32).toNatClampNeg ((h5.2.1 14 6 (0 : Int32).toNatClampNeg) + ((v2 - v4).toInt64 * v6.toInt64))))
          replace H := sh_okL H
          generalize sh_pJ h5 14 6 (0 : Int32).toNatClampNeg ((h5.2.1 14 6 (0 : Int32).toNatClampNeg) + ((v2 - v4).toInt64 * v6.toInt64)) = h7 at H ⊢
          exact x_M_lacking_b134 N hd hR k4 hk4 l1 (l2 + (v2 - v4)) l3 h7 H
        · replace H := sh_okF c H
          show wq_288 d Q 84 [oR 12 0, oI l1, oI l2, oI l3, oI (h.1 13 46 ((50 : Int32) + ((4 : Int32) * l3)).toNatClampNeg), oI (h.1 13 46 (((50 : Int32) + ((4 : Int32) * l3)) + (1 : Int32)).toNatClampNeg), oI (v2 - v4)] [] (sh_E h3)
          refine ai_WP_steps mc_288 (sh_CM d) 1 ?_
          exact x_M_lacking_b134 N hd hR k4 hk4 l1 l2 l3 h3 H
    · replace H := sh_okF c H
      exact hk140 l2 h H
def f_M_lacking_b140 (N : Nat)   (l2 : Int32) (h : sh_H) : Option (Int32 × sh_H) := (some (l2, h))
theorem x_M_lacking_b140 (N : Nat) {d : Nat} (hd : 3 ≤ d) {Q : ai_Q} {R : Int32 × sh_H → Prop} (hR : ∀ r h, R (r, h) → Q (some (aI r)) (sh_E h))   (l2 : Int32) {d0 d1 d3 d4 d5 d6 : Option ai_V} (h : sh_H) (H : sh_ok (f_M_lacking_b140 N l2 h) R) : wq_288 d Q 140 [d0, d1, oI l2, d3, d4, d5, d6] [] (sh_E h) := by
  exact ai_WP_steps mc_288 (sh_CM d) 2 (hR l2 h H)
def f_M_lacking (N : Nat)  (l1 : Int32) (h : sh_H) : Option (Int32 × sh_H) := f_M_lacking_l4 N (f_M_lacking_b140 N) N l1 (0 : Int32) (0 : Int32) h
theorem x_M_lacking (N : Nat) {d : Nat} (hd : 4 ≤ d) (l1 : Int32) (h : sh_H) {Q : ai_Q} {R : Int32 × sh_H → Prop} (H : sh_ok (f_M_lacking N l1 h) R) (hR : ∀ r h, R (r, h) → Q (some (aI r)) (sh_E h)) : ai_Ex sh_T d 288 [aR 12 0, aI l1] (sh_E h) Q := by
  obtain ⟨d, rfl⟩ : ∃ e, d = e + 1 := ⟨d - 1, by omega⟩
  replace hd : 3 ≤ d := by omega
  refine And.intro (Nat.le_of_ble_eq_true rfl) ?_
  show wq_288 d Q 0 [oR 12 0, oI l1, none, none, none, none, none] [] (sh_E h)
  refine ai_WP_steps mc_288 (sh_CM d) 4 ?_
  exact x_M_lacking_l4 N hd hR (f_M_lacking_b140 N) (fun z0 {e0} {e1} {e3} {e4} {e5} {e6} h H => x_M_lacking_b140 N hd hR z0 h H) N l1 (0 : Int32) (0 : Int32) h H
def f_M_months_l32 (N : Nat)  (k99 : Int32 → sh_H → Option (Int32 × sh_H)) (n : Nat) : Int32 → Int32 → Int32 → Int32 → sh_H → Option (Int32 × sh_H) := Nat.rec (motive := fun _ => Int32 → Int32 → Int32 → Int32 → sh_H → Option (Int32 × sh_H)) (fun _ _ _ _ _ => none) (fun _ k32 l1 l2 l3 l4 h => (if l4 < l2 then (if ai_in (9 : Int32) 8000 then (Option.bind (f_M_sends N l1 (h.1 13 46 (9 : Int32).toNatClampNeg) h) (fun h1 => (Option.bind (f_M_flows N l1 (h.1 13 46 (9 : Int32).toNatClampNeg) h1) (fun h2 => (Option.bind (f_M_wears N (h.1 13 46 (9 : Int32).toNatClampNeg) h2) (fun h3 => (Option.bind (f_M_loses N (h.1 13 46 (9 : Int32).toNatClampNeg) h3) (fun h4 => (sh_b2 (f_M_lacking N (h.1 13 46 (9 : Int32).toNatClampNeg) h4) (fun v5 h6 => (if ai_in (9 : Int32) 8000 then (if ai_in (9 : Int32) 8000 then (sh_let (sh_pI h6 13 46 (9 : Int32).toNatClampNeg ((h6.1 13 46 (9 : Int32).toNatClampNeg) + (1 : Int32))) (fun h7 => k32 l1 l2 (l3 + v5) (l4 + (1 : Int32)) h7)) else none) else none))))))))))) else none) else k99 l3 h)) n
theorem x_M_months_l32 (N : Nat) {d : Nat} (hd : 4 ≤ d) {Q : ai_Q} {R : Int32 × sh_H → Prop} (hR : ∀ r h, R (r, h) → Q (some (aI r)) (sh_E h))  (k99 : Int32 → sh_H → Option (Int32 × sh_H)) (hk99 : ∀ (l3 : Int32) {d0 d1 d2 d4 d5 : Option ai_V} (h : sh_H), sh_ok (k99 l3 h) R → wq_289 d Q 99 [d0, d1, d2, oI l3, d4, d5] [] (sh_E h)) (n : Nat) : ∀ (l1 : Int32) (l2 : Int32) (l3 : Int32) (l4 : Int32) {d5 : Option ai_V} (h : sh_H), sh_ok (f_M_months_l32 N k99 n l1 l2 l3 l4 h) R → wq_289 d Q 32 [oR 12 0, oI l1, oI l2, oI l3, oI l4, d5] [] (sh_E h) := by
  induction n with
  | zero => intro l1 l2 l3 l4 d5 h H; exact H.elim
  | succ n ih =>
    intro l1 l2 l3 l4 d5 h H
    have hk32 := @ih
    revert hk32 H
    show sh_ok ((fun k32 l1 l2 l3 l4 h => (if l4 < l2 then (if ai_in (9 : Int32) 8000 then (Option.bind (f_M_sends N l1 (h.1 13 46 (9 : Int32).toNatClampNeg) h) (fun h1 => (Option.bind (f_M_flows N l1 (h.1 13 46 (9 : Int32).toNatClampNeg) h1) (fun h2 => (Option.bind (f_M_wears N (h.1 13 46 (9 : Int32).toNatClampNeg) h2) (fun h3 => (Option.bind (f_M_loses N (h.1 13 46 (9 : Int32).toNatClampNeg) h3) (fun h4 => (sh_b2 (f_M_lacking N (h.1 13 46 (9 : Int32).toNatClampNeg) h4) (fun v5 h6 => (if ai_in (9 : Int32) 8000 then (if ai_in (9 : Int32) 8000 then (sh_let (sh_pI h6 13 46 (9 : Int32).toNatClampNeg ((h6.1 13 46 (9 : Int32).toNatClampNeg) + (1 : Int32))) (fun h7 => k32 l1 l2 (l3 + v5) (l4 + (1 : Int32)) h7)) else none) else none))))))))))) else none) else k99 l3 h)) (f_M_months_l32 N k99 n) l1 l2 l3 l4 h) R → _
    generalize f_M_months_l32 N k99 n = k32
    intro H hk32
    refine ai_WP_steps mc_289 (sh_CM d) 3 (And.intro (fun c => ?_) (fun c => ?_))
    · replace H := sh_okT c H
      show wq_289 d Q 38 [oR 12 0, oI l1, oI l2, oI l3, oI l4, _] [] (sh_E h)
      have c := sh_okG H
      replace H := sh_okH H
      refine ai_WP_steps mc_289 (sh_CM d) 4 (And.intro c ?_)
      show wq_289 d Q 45 [oR 12 0, oI l1, oI l2, oI l3, oI l4, _] [aI (h.1 13 46 (9 : Int32).toNatClampNeg)] (sh_E h)
      refine ai_WP_steps mc_289 (sh_CM d) 5 (And.intro (Nat.le_of_ble_eq_true rfl) (x_M_sends N (Nat.le_trans (Nat.le_of_ble_eq_true rfl) hd) l1 (h.1 13 46 (9 : Int32).toNatClampNeg) h (sh_okB H) (fun h1 H => ?_)))
      show wq_289 d Q 54 [oR 12 0, oI l1, oI l2, oI l3, oI l4, oI (h.1 13 46 (9 : Int32).toNatClampNeg)] [] (sh_E h1)
      refine ai_WP_steps mc_289 (sh_CM d) 4 (And.intro (Nat.le_of_ble_eq_true rfl) (x_M_flows N (Nat.le_trans (Nat.le_of_ble_eq_true rfl) hd) l1 (h.1 13 46 (9 : Int32).toNatClampNeg) h1 (sh_okB H) (fun h2 H => ?_)))
      show wq_289 d Q 61 [oR 12 0, oI l1, oI l2, oI l3, oI l4, oI (h.1 13 46 (9 : Int32).toNatClampNeg)] [] (sh_E h2)
      refine ai_WP_steps mc_289 (sh_CM d) 3 (And.intro (Nat.le_of_ble_eq_true rfl) (x_M_wears N (Nat.le_trans (Nat.le_of_ble_eq_true rfl) hd) (h.1 13 46 (9 : Int32).toNatClampNeg) h2 (sh_okB H) (fun h3 H => ?_)))
      show wq_289 d Q 67 [oR 12 0, oI l1, oI l2, oI l3, oI l4, oI (h.1 13 46 (9 : Int32).toNatClampNeg)] [] (sh_E h3)
      refine ai_WP_steps mc_289 (sh_CM d) 3 (And.intro (Nat.le_of_ble_eq_true rfl) (x_M_loses N (Nat.le_trans (Nat.le_of_ble_eq_true rfl) hd) (h.1 13 46 (9 : Int32).toNatClampNeg) h3 (sh_okB H) (fun h4 H => ?_)))
      show wq_289 d Q 73 [oR 12 0, oI l1, oI l2, oI l3, oI l4, oI (h.1 13 46 (9 : Int32).toNatClampNeg)] [] (sh_E h4)
      refine ai_WP_steps mc_289 (sh_CM d) 4 (And.intro (Nat.le_of_ble_eq_true rfl) (x_M_lacking N (Nat.le_trans (Nat.le_of_ble_eq_true rfl) hd) (h.1 13 46 (9 : Int32).toNatClampNeg) h4 (sh_okB H) (fun v5 h6 H => ?_)))
      show wq_289 d Q 80 [oR 12 0, oI l1, oI l2, oI l3, oI l4, oI (h.1 13 46 (9 : Int32).toNatClampNeg)] [aI v5, aI l3] (sh_E h6)
      have c := sh_okG H
      replace H := sh_okH H
      refine ai_WP_steps mc_289 (sh_CM d) 7 (And.intro c ?_)
      show wq_289 d Q 90 [oR 12 0, oI l1, oI l2, oI (l3 + v5), oI l4, oI (h.1 13 46 (9 : Int32).toNatClampNeg)] [aI (h6.1 13 46 (9 : Int32).toNatClampNeg), aI (9 : Int32), aR 13 46] (sh_E h6)
      have c := sh_okG H
      replace H := sh_okH H
      refine ai_WP_steps mc_289 (sh_CM d) 3 (And.intro c ?_)
      show wq_289 d Q 93 [oR 12 0, oI l1, oI l2, oI (l3 + v5), oI l4, oI (h.1 13 46 (9 : Int32).toNatClampNeg)] [] (sh_E (sh_pI h6 13 46 (9 : Int32).toNatClampNeg ((h6.1 13 46 (9 : Int32).toNatClampNeg) + (1 : Int32))))
      replace H := sh_okL H
      generalize sh_pI h6 13 46 (9 : Int32).toNatClampNeg ((h6.1 13 46 (9 : Int32).toNatClampNeg) + (1 : Int32)) = h7 at H ⊢
      refine ai_WP_steps mc_289 (sh_CM d) 2 ?_
      exact hk32 l1 l2 (l3 + v5) (l4 + (1 : Int32)) h7 H
    · replace H := sh_okF c H
      exact hk99 l3 h H
def f_M_months_b99 (N : Nat)   (l3 : Int32) (h : sh_H) : Option (Int32 × sh_H) := (some (l3, h))
theorem x_M_months_b99 (N : Nat) {d : Nat} (hd : 4 ≤ d) {Q : ai_Q} {R : Int32 × sh_H → Prop} (hR : ∀ r h, R (r, h) → Q (some (aI r)) (sh_E h))   (l3 : Int32) {d0 d1 d2 d4 d5 : Option ai_V} (h : sh_H) (H : sh_ok (f_M_months_b99 N l3 h) R) : wq_289 d Q 99 [d0, d1, d2, oI l3, d4, d5] [] (sh_E h) := by
  exact ai_WP_steps mc_289 (sh_CM d) 2 (hR l3 h H)
def f_M_months (N : Nat)  (l1 : Int32) (l2 : Int32) (h : sh_H) : Option (Int32 × sh_H) := (Option.bind (f_M_isIn l2 (1 : Int32) (24 : Int32) h) (fun v8 => (if v8 = 0 then (some ((-1 : Int32), h)) else (if ai_in (9 : Int32) 8000 then (if (240 : Int32) < ((h.1 13 46 (9 : Int32).toNatClampNeg) + l2) then (some ((-1 : Int32), h)) else f_M_months_l32 N (f_M_months_b99 N) N l1 l2 (0 : Int32) (0 : Int32) h) else none))))
theorem x_M_months (N : Nat) {d : Nat} (hd : 5 ≤ d) (l1 : Int32) (l2 : Int32) (h : sh_H) {Q : ai_Q} {R : Int32 × sh_H → Prop} (H : sh_ok (f_M_months N l1 l2 h) R) (hR : ∀ r h, R (r, h) → Q (some (aI r)) (sh_E h)) : ai_Ex sh_T d 289 [aR 12 0, aI l1, aI l2] (sh_E h) Q := by
  obtain ⟨d, rfl⟩ : ∃ e, d = e + 1 := ⟨d - 1, by omega⟩
  replace hd : 4 ≤ d := by omega
  refine And.intro (Nat.le_of_ble_eq_true rfl) ?_
  show wq_289 d Q 0 [oR 12 0, oI l1, oI l2, none, none, none] [] (sh_E h)
  refine ai_WP_steps mc_289 (sh_CM d) 4 (And.intro (Nat.le_of_ble_eq_true rfl) (x_M_isIn (Nat.le_trans (Nat.le_of_ble_eq_true rfl) hd) l2 (1 : Int32) (24 : Int32) h (sh_okB H) (fun v8 H => ?_)))
  show wq_289 d Q 7 [oR 12 0, oI l1, oI l2, _, _, _] [aI v8] (sh_E h)
  refine ai_WP_steps mc_289 (sh_CM d) 1 (And.intro (fun c => ?_) (fun c => ?_))
  · replace H := sh_okT c H
    show wq_289 d Q 25 [oR 12 0, oI l1, oI l2, _, _, _] [] (sh_E h)
    exact ai_WP_steps mc_289 (sh_CM d) 2 (hR (-1 : Int32) h H)
  · replace H := sh_okF c H
    show wq_289 d Q 10 [oR 12 0, oI l1, oI l2, _, _, _] [] (sh_E h)
    have c := sh_okG H
    replace H := sh_okH H
    refine ai_WP_steps mc_289 (sh_CM d) 4 (And.intro c ?_)
    show wq_289 d Q 17 [oR 12 0, oI l1, oI l2, _, _, _] [aI (h.1 13 46 (9 : Int32).toNatClampNeg)] (sh_E h)
    refine ai_WP_steps mc_289 (sh_CM d) 4 (And.intro (fun c => ?_) (fun c => ?_))
    · replace H := sh_okT c H
      show wq_289 d Q 25 [oR 12 0, oI l1, oI l2, _, _, _] [] (sh_E h)
      exact ai_WP_steps mc_289 (sh_CM d) 2 (hR (-1 : Int32) h H)
    · replace H := sh_okF c H
      show wq_289 d Q 27 [oR 12 0, oI l1, oI l2, _, _, _] [] (sh_E h)
      refine ai_WP_steps mc_289 (sh_CM d) 4 ?_
      exact x_M_months_l32 N hd hR (f_M_months_b99 N) (fun z0 {e0} {e1} {e2} {e4} {e5} h H => x_M_months_b99 N hd hR z0 h H) N l1 l2 (0 : Int32) (0 : Int32) h H
def f_M_lacks_b34    (h : sh_H) : Option Int32 := (some (-1 : Int32))
theorem x_M_lacks_b34 {d : Nat} (hd : 1 ≤ d) (h : sh_H) {Q : ai_Q} {R : Int32 → Prop} (hR : ∀ r, R r → Q (some (aI r)) (sh_E h))    {d0 d1 d2 : Option ai_V} (H : sh_ok (f_M_lacks_b34 h) R) : wq_290 d Q 34 [d0, d1, d2] [] (sh_E h) := by
  exact ai_WP_steps mc_290 (sh_CM d) 2 (hR (-1 : Int32) H)
def f_M_lacks  (l1 : Int32) (l2 : Int32) (h : sh_H) : Option Int32 := (Option.bind (f_M_isIsland l1 h) (fun v1 => (if v1 = 0 then f_M_lacks_b34 h else (Option.bind (f_M_isKind l2 h) (fun v2 => (if v2 = 0 then f_M_lacks_b34 h else (if ai_in (((920 : Int32) + ((6 : Int32) * l1)) + l2) 8000 then (some (h.1 13 46 (((920 : Int32) + ((6 : Int32) * l1)) + l2).toNatClampNeg)) else none)))))))
theorem x_M_lacks {d : Nat} (hd : 2 ≤ d) (l1 : Int32) (l2 : Int32) (h : sh_H) {Q : ai_Q} {R : Int32 → Prop} (H : sh_ok (f_M_lacks l1 l2 h) R) (hR : ∀ r, R r → Q (some (aI r)) (sh_E h)) : ai_Ex sh_T d 290 [aR 12 0, aI l1, aI l2] (sh_E h) Q := by
  obtain ⟨d, rfl⟩ : ∃ e, d = e + 1 := ⟨d - 1, by omega⟩
  replace hd : 1 ≤ d := by omega
  refine And.intro (Nat.le_of_ble_eq_true rfl) ?_
  show wq_290 d Q 0 [oR 12 0, oI l1, oI l2] [] (sh_E h)
  refine ai_WP_steps mc_290 (sh_CM d) 3 (And.intro (Nat.le_of_ble_eq_true rfl) (x_M_isIsland (Nat.le_trans (Nat.le_of_ble_eq_true rfl) hd) l1 h (sh_okB H) (fun v1 H => ?_)))
  show wq_290 d Q 5 [oR 12 0, oI l1, oI l2] [aI v1] (sh_E h)
  refine ai_WP_steps mc_290 (sh_CM d) 1 (And.intro (fun c => ?_) (fun c => ?_))
  · replace H := sh_okT c H
    exact x_M_lacks_b34 hd h hR H
  · replace H := sh_okF c H
    show wq_290 d Q 8 [oR 12 0, oI l1, oI l2] [] (sh_E h)
    refine ai_WP_steps mc_290 (sh_CM d) 3 (And.intro (Nat.le_of_ble_eq_true rfl) (x_M_isKind (Nat.le_trans (Nat.le_of_ble_eq_true rfl) hd) l2 h (sh_okB H) (fun v2 H => ?_)))
    show wq_290 d Q 13 [oR 12 0, oI l1, oI l2] [aI v2] (sh_E h)
    refine ai_WP_steps mc_290 (sh_CM d) 1 (And.intro (fun c => ?_) (fun c => ?_))
    · replace H := sh_okT c H
      exact x_M_lacks_b34 hd h hR H
    · replace H := sh_okF c H
      show wq_290 d Q 16 [oR 12 0, oI l1, oI l2] [] (sh_E h)
      have c := sh_okG H
      replace H := sh_okH H
      refine ai_WP_steps mc_290 (sh_CM d) 10 (And.intro c ?_)
      show wq_290 d Q 31 [oR 12 0, oI l1, oI l2] [aI (h.1 13 46 (((920 : Int32) + ((6 : Int32) * l1)) + l2).toNatClampNeg)] (sh_E h)
      exact ai_WP_steps mc_290 (sh_CM d) 2 (hR (h.1 13 46 (((920 : Int32) + ((6 : Int32) * l1)) + l2).toNatClampNeg) H)
def f_M_spent  (l1 : Int32) (h : sh_H) : Option Int64 := (Option.bind (f_M_isIn l1 (0 : Int32) (3 : Int32) h) (fun v1 => (if v1 = 0 then (some (-1 : Int64)) else (if l1 = 0 then (if ai_in (0 : Int32) 12 then (if ai_in (1 : Int32) 12 then (if ai_in (2 : Int32) 12 then (some (((h.2.1 14 6 (0 : Int32).toNatClampNeg) + (h.2.1 14 6 (1 : Int32).toNatClampNeg)) + (h.2.1 14 6 (2 : Int32).toNatClampNeg))) else none) else none) else none) else (if ai_in (l1 - (1 : Int32)) 12 then (some (h.2.1 14 6 (l1 - (1 : Int32)).toNatClampNeg)) else none)))))
theorem x_M_spent {d : Nat} (hd : 2 ≤ d) (l1 : Int32) (h : sh_H) {Q : ai_Q} {R : Int64 → Prop} (H : sh_ok (f_M_spent l1 h) R) (hR : ∀ r, R r → Q (some (aL r)) (sh_E h)) : ai_Ex sh_T d 291 [aR 12 0, aI l1] (sh_E h) Q := by
  obtain ⟨d, rfl⟩ : ∃ e, d = e + 1 := ⟨d - 1, by omega⟩
  replace hd : 1 ≤ d := by omega
  refine And.intro (Nat.le_of_ble_eq_true rfl) ?_
  show wq_291 d Q 0 [oR 12 0, oI l1] [] (sh_E h)
  refine ai_WP_steps mc_291 (sh_CM d) 4 (And.intro (Nat.le_of_ble_eq_true rfl) (x_M_isIn (Nat.le_trans (Nat.le_of_ble_eq_true rfl) hd) l1 (0 : Int32) (3 : Int32) h (sh_okB H) (fun v1 H => ?_)))
  show wq_291 d Q 6 [oR 12 0, oI l1] [aI v1] (sh_E h)
  refine ai_WP_steps mc_291 (sh_CM d) 1 (And.intro (fun c => ?_) (fun c => ?_))
  · replace H := sh_okT c H
    show wq_291 d Q 9 [oR 12 0, oI l1] [] (sh_E h)
    exact ai_WP_steps mc_291 (sh_CM d) 2 (hR (-1 : Int64) H)
  · replace H := sh_okF c H
    show wq_291 d Q 13 [oR 12 0, oI l1] [] (sh_E h)
    refine ai_WP_steps mc_291 (sh_CM d) 2 (And.intro (fun c => ?_) (fun c => ?_))
    · replace H := sh_okT c H
      show wq_291 d Q 17 [oR 12 0, oI l1] [] (sh_E h)
      have c := sh_okG H
      replace H := sh_okH H
      refine ai_WP_steps mc_291 (sh_CM d) 4 (And.intro c ?_)
      show wq_291 d Q 23 [oR 12 0, oI l1] [aL (h.2.1 14 6 (0 : Int32).toNatClampNeg)] (sh_E h)
      have c := sh_okG H
      replace H := sh_okH H
      refine ai_WP_steps mc_291 (sh_CM d) 4 (And.intro c ?_)
      show wq_291 d Q 29 [oR 12 0, oI l1] [aL (h.2.1 14 6 (1 : Int32).toNatClampNeg), aL (h.2.1 14 6 (0 : Int32).toNatClampNeg)] (sh_E h)
      have c := sh_okG H
      replace H := sh_okH H
      refine ai_WP_steps mc_291 (sh_CM d) 5 (And.intro c ?_)
      show wq_291 d Q 36 [oR 12 0, oI l1] [aL (h.2.1 14 6 (2 : Int32).toNatClampNeg), aL ((h.2.1 14 6 (0 : Int32).toNatClampNeg) + (h.2.1 14 6 (1 : Int32).toNatClampNeg))] (sh_E h)
      exact ai_WP_steps mc_291 (sh_CM d) 3 (hR (((h.2.1 14 6 (0 : Int32).toNatClampNeg) + (h.2.1 14 6 (1 : Int32).toNatClampNeg)) + (h.2.1 14 6 (2 : Int32).toNatClampNeg)) H)
    · replace H := sh_okF c H
      show wq_291 d Q 40 [oR 12 0, oI l1] [] (sh_E h)
      have c := sh_okG H
      replace H := sh_okH H
      refine ai_WP_steps mc_291 (sh_CM d) 6 (And.intro c ?_)
      show wq_291 d Q 48 [oR 12 0, oI l1] [aL (h.2.1 14 6 (l1 - (1 : Int32)).toNatClampNeg)] (sh_E h)
      exact ai_WP_steps mc_291 (sh_CM d) 1 (hR (h.2.1 14 6 (l1 - (1 : Int32)).toNatClampNeg) H)
def f_M_layKind_l56 (N : Nat)  (k88 : sh_H → Option sh_H) (n : Nat) : Int32 → Int32 → Int32 → Int32 → sh_H → Option sh_H := Nat.rec (motive := fun _ => Int32 → Int32 → Int32 → Int32 → sh_H → Option sh_H) (fun _ _ _ _ _ => none) (fun _ k56 l3 l4 l5 l7 h => (if l3 < l7 then k88 h else (if ai_in (l5 + l7) 56014 then (if ai_in (l4 + l7) 56014 then (sh_let (sh_pI h 13 55 (l4 + l7).toNatClampNeg (h.1 13 55 (l5 + l7).toNatClampNeg)) (fun h1 => k56 l3 l4 l5 (l7 + (1 : Int32)) h1)) else none) else none))) n
theorem x_M_layKind_l56 (N : Nat) {d : Nat} (hd : 1 ≤ d) {Q : ai_Q} {R : sh_H → Prop} (hR : ∀ h, R h → Q none (sh_E h))  (k88 : sh_H → Option sh_H) (hk88 : ∀ {d0 d1 d2 d3 d4 d5 d6 d7 d8 d9 d10 d11 d12 d13 : Option ai_V} (h : sh_H), sh_ok (k88 h) R → wq_293 d Q 88 [d0, d1, d2, d3, d4, d5, d6, d7, d8, d9, d10, d11, d12, d13] [] (sh_E h)) (n : Nat) : ∀ (l3 : Int32) (l4 : Int32) (l5 : Int32) (l7 : Int32) {d1 d2 d6 d8 d9 d10 d11 d12 d13 : Option ai_V} (h : sh_H), sh_ok (f_M_layKind_l56 N k88 n l3 l4 l5 l7 h) R → wq_293 d Q 56 [oR 12 0, d1, d2, oI l3, oI l4, oI l5, d6, oI l7, d8, d9, d10, d11, d12, d13] [] (sh_E h) := by
  induction n with
  | zero => intro l3 l4 l5 l7 d1 d2 d6 d8 d9 d10 d11 d12 d13 h H; exact H.elim
  | succ n ih =>
    intro l3 l4 l5 l7 d1 d2 d6 d8 d9 d10 d11 d12 d13 h H
    have hk56 := @ih
    revert hk56 H
    show sh_ok ((fun k56 l3 l4 l5 l7 h => (if l3 < l7 then k88 h else (if ai_in (l5 + l7) 56014 then (if ai_in (l4 + l7) 56014 then (sh_let (sh_pI h 13 55 (l4 + l7).toNatClampNeg (h.1 13 55 (l5 + l7).toNatClampNeg)) (fun h1 => k56 l3 l4 l5 (l7 + (1 : Int32)) h1)) else none) else none))) (f_M_layKind_l56 N k88 n) l3 l4 l5 l7 h) R → _
    generalize f_M_layKind_l56 N k88 n = k56
    intro H hk56
    refine ai_WP_steps mc_293 (sh_CM d) 3 (And.intro (fun c => ?_) (fun c => ?_))
    · replace H := sh_okT c H
      exact hk88 h H
    · replace H := sh_okF c H
      show wq_293 d Q 62 [oR 12 0, _, _, oI l3, oI l4, oI l5, _, oI l7, _, _, _, _, _, _] [] (sh_E h)
      have c := sh_okG H
      replace H := sh_okH H
      refine ai_WP_steps mc_293 (sh_CM d) 11 (And.intro c ?_)
      show wq_293 d Q 81 [oR 12 0, _, _, oI l3, oI l4, oI l5, _, oI l7, _, _, _, _, _, _] [aI (h.1 13 55 (l5 + l7).toNatClampNeg), aI (l4 + l7), aR 13 55] (sh_E h)
      have c := sh_okG H
      replace H := sh_okH H
      refine ai_WP_steps mc_293 (sh_CM d) 1 (And.intro c ?_)
      show wq_293 d Q 82 [oR 12 0, _, _, oI l3, oI l4, oI l5, _, oI l7, _, _, _, _, _, _] [] (sh_E (sh_pI h 13 55 (l4 + l7).toNatClampNeg (h.1 13 55 (l5 + l7).toNatClampNeg)))
      replace H := sh_okL H
      generalize sh_pI h 13 55 (l4 + l7).toNatClampNeg (h.1 13 55 (l5 + l7).toNatClampNeg) = h1 at H ⊢
      refine ai_WP_steps mc_293 (sh_CM d) 2 ?_
      exact hk56 l3 l4 l5 (l7 + (1 : Int32)) h1 H
def f_M_layKind_l154 (N : Nat)  (k205 : Int32 → Int32 → Int32 → Int32 → Int32 → Int32 → Int32 → Int32 → Int32 → sh_H → Option sh_H) (n : Nat) : Int32 → Int32 → Int32 → Int32 → Int32 → Int32 → Int32 → Int32 → Int32 → Int32 → sh_H → Option sh_H := Nat.rec (motive := fun _ => Int32 → Int32 → Int32 → Int32 → Int32 → Int32 → Int32 → Int32 → Int32 → Int32 → sh_H → Option sh_H) (fun _ _ _ _ _ _ _ _ _ _ _ => none) (fun _ k154 l3 l4 l5 l6 l7 l8 l9 l10 l11 l12 h => (if l9 < l10 then (if ai_in (l10 - (1 : Int32)) 4001 then (if ai_in ((l5 + l8) + ((h.1 13 56 (l10 - (1 : Int32)).toNatClampNeg) * l7)) 56014 then (if ai_in (l10 - (1 : Int32)) 4001 then (if ((h.1 13 55 ((l5 + l8) + ((h.1 13 56 (l10 - (1 : Int32)).toNatClampNeg) * l7)).toNatClampNeg) - (h.1 13 56 (l10 - (1 : Int32)).toNatClampNeg)) < l12 then k205 l3 l4 l5 l6 l7 l8 l9 l10 l11 h else k154 l3 l4 l5 l6 l7 l8 l9 (l10 + (-1 : Int32)) l11 l12 h) else none) else none) else none) else k205 l3 l4 l5 l6 l7 l8 l9 l10 l11 h)) n
theorem x_M_layKind_l154 (N : Nat) {d : Nat} (hd : 1 ≤ d) {Q : ai_Q} {R : sh_H → Prop} (hR : ∀ h, R h → Q none (sh_E h))  (k205 : Int32 → Int32 → Int32 → Int32 → Int32 → Int32 → Int32 → Int32 → Int32 → sh_H → Option sh_H) (hk205 : ∀ (l3 : Int32) (l4 : Int32) (l5 : Int32) (l6 : Int32) (l7 : Int32) (l8 : Int32) (l9 : Int32) (l10 : Int32) (l11 : Int32) {d1 d2 d12 d13 : Option ai_V} (h : sh_H), sh_ok (k205 l3 l4 l5 l6 l7 l8 l9 l10 l11 h) R → wq_293 d Q 205 [oR 12 0, d1, d2, oI l3, oI l4, oI l5, oI l6, oI l7, oI l8, oI l9, oI l10, oI l11, d12, d13] [] (sh_E h)) (n : Nat) : ∀ (l3 : Int32) (l4 : Int32) (l5 : Int32) (l6 : Int32) (l7 : Int32) (l8 : Int32) (l9 : Int32) (l10 : Int32) (l11 : Int32) (l12 : Int32) {d1 d2 d13 : Option ai_V} (h : sh_H), sh_ok (f_M_layKind_l154 N k205 n l3 l4 l5 l6 l7 l8 l9 l10 l11 l12 h) R → wq_293 d Q 154 [oR 12 0, d1, d2, oI l3, oI l4, oI l5, oI l6, oI l7, oI l8, oI l9, oI l10, oI l11, oI l12, d13] [] (sh_E h) := by
  induction n with
  | zero => intro l3 l4 l5 l6 l7 l8 l9 l10 l11 l12 d1 d2 d13 h H; exact H.elim
  | succ n ih =>
    intro l3 l4 l5 l6 l7 l8 l9 l10 l11 l12 d1 d2 d13 h H
    have hk154 := @ih
    revert hk154 H
    show sh_ok ((fun k154 l3 l4 l5 l6 l7 l8 l9 l10 l11 l12 h => (if l9 < l10 then (if ai_in (l10 - (1 : Int32)) 4001 then (if ai_in ((l5 + l8) + ((h.1 13 56 (l10 - (1 : Int32)).toNatClampNeg) * l7)) 56014 then (if ai_in (l10 - (1 : Int32)) 4001 then (if ((h.1 13 55 ((l5 + l8) + ((h.1 13 56 (l10 - (1 : Int32)).toNatClampNeg) * l7)).toNatClampNeg) - (h.1 13 56 (l10 - (1 : Int32)).toNatClampNeg)) < l12 then k205 l3 l4 l5 l6 l7 l8 l9 l10 l11 h else k154 l3 l4 l5 l6 l7 l8 l9 (l10 + (-1 : Int32)) l11 l12 h) else none) else none) else none) else k205 l3 l4 l5 l6 l7 l8 l9 l10 l11 h)) (f_M_layKind_l154 N k205 n) l3 l4 l5 l6 l7 l8 l9 l10 l11 l12 h) R → _
    generalize f_M_layKind_l154 N k205 n = k154
    intro H hk154
    refine ai_WP_steps mc_293 (sh_CM d) 3 (And.intro (fun c => ?_) (fun c => ?_))
    · replace H := sh_okT c H
      show wq_293 d Q 161 [oR 12 0, _, _, oI l3, oI l4, oI l5, oI l6, oI l7, oI l8, oI l9, oI l10, oI l11, oI l12, _] [] (sh_E h)
      have c := sh_okG H
      replace H := sh_okH H
      refine ai_WP_steps mc_293 (sh_CM d) 11 (And.intro c ?_)
      show wq_293 d Q 179 [oR 12 0, _, _, oI l3, oI l4, oI l5, oI l6, oI l7, oI l8, oI l9, oI l10, oI l11, oI l12, _] [aI (h.1 13 56 (l10 - (1 : Int32)).toNatClampNeg), aI (l5 + l8), aR 13 55] (sh_E h)
      have c := sh_okG H
      replace H := sh_okH H
      refine ai_WP_steps mc_293 (sh_CM d) 4 (And.intro c ?_)
      show wq_293 d Q 184 [oR 12 0, _, _, oI l3, oI l4, oI l5, oI l6, oI l7, oI l8, oI l9, oI l10, oI l11, oI l12, _] [aI (h.1 13 55 ((l5 + l8) + ((h.1 13 56 (l10 - (1 : Int32)).toNatClampNeg) * l7)).toNatClampNeg)] (sh_E h)
      have c := sh_okG H
      replace H := sh_okH H
      refine ai_WP_steps mc_293 (sh_CM d) 6 (And.intro c ?_)
      show wq_293 d Q 193 [oR 12 0, _, _, oI l3, oI l4, oI l5, oI l6, oI l7, oI l8, oI l9, oI l10, oI l11, oI l12, _] [aI (h.1 13 56 (l10 - (1 : Int32)).toNatClampNeg), aI (h.1 13 55 ((l5 + l8) + ((h.1 13 56 (l10 - (1 : Int32)).toNatClampNeg) * l7)).toNatClampNeg)] (sh_E h)
      refine ai_WP_steps mc_293 (sh_CM d) 3 (And.intro (fun c => ?_) (fun c => ?_))
      · replace H := sh_okT c H
        exact hk205 l3 l4 l5 l6 l7 l8 l9 l10 l11 h H
      · replace H := sh_okF c H
        show wq_293 d Q 199 [oR 12 0, _, _, oI l3, oI l4, oI l5, oI l6, oI l7, oI l8, oI l9, oI l10, oI l11, oI l12, _] [] (sh_E h)
        refine ai_WP_steps mc_293 (sh_CM d) 2 ?_
        exact hk154 l3 l4 l5 l6 l7 l8 l9 (l10 + (-1 : Int32)) l11 l12 h H
    · replace H := sh_okF c H
      exact hk205 l3 l4 l5 l6 l7 l8 l9 l10 l11 h H
def f_M_layKind_l217 (N : Nat)  (k238 : Int32 → Int32 → Int32 → Int32 → Int32 → Int32 → Int32 → Int32 → Int32 → sh_H → Option sh_H) (n : Nat) : Int32 → Int32 → Int32 → Int32 → Int32 → Int32 → Int32 → Int32 → Int32 → sh_H → Option sh_H := Nat.rec (motive := fun _ => Int32 → Int32 → Int32 → Int32 → Int32 → Int32 → Int32 → Int32 → Int32 → sh_H → Option sh_H) (fun _ _ _ _ _ _ _ _ _ _ => none) (fun _ k217 l3 l4 l5 l6 l7 l8 l9 l10 l11 h => (if ai_in l9 4001 then (if (h.1 13 56 l9.toNatClampNeg) < (l11 - l6) then k217 l3 l4 l5 l6 l7 l8 (l9 + (1 : Int32)) l10 l11 h else k238 l3 l4 l5 l6 l7 l8 l9 l10 l11 h) else none)) n
theorem x_M_layKind_l217 (N : Nat) {d : Nat} (hd : 1 ≤ d) {Q : ai_Q} {R : sh_H → Prop} (hR : ∀ h, R h → Q none (sh_E h))  (k238 : Int32 → Int32 → Int32 → Int32 → Int32 → Int32 → Int32 → Int32 → Int32 → sh_H → Option sh_H) (hk238 : ∀ (l3 : Int32) (l4 : Int32) (l5 : Int32) (l6 : Int32) (l7 : Int32) (l8 : Int32) (l9 : Int32) (l10 : Int32) (l11 : Int32) {d1 d2 d12 d13 : Option ai_V} (h : sh_H), sh_ok (k238 l3 l4 l5 l6 l7 l8 l9 l10 l11 h) R → wq_293 d Q 238 [oR 12 0, d1, d2, oI l3, oI l4, oI l5, oI l6, oI l7, oI l8, oI l9, oI l10, oI l11, d12, d13] [] (sh_E h)) (n : Nat) : ∀ (l3 : Int32) (l4 : Int32) (l5 : Int32) (l6 : Int32) (l7 : Int32) (l8 : Int32) (l9 : Int32) (l10 : Int32) (l11 : Int32) {d1 d2 d12 d13 : Option ai_V} (h : sh_H), sh_ok (f_M_layKind_l217 N k238 n l3 l4 l5 l6 l7 l8 l9 l10 l11 h) R → wq_293 d Q 217 [oR 12 0, d1, d2, oI l3, oI l4, oI l5, oI l6, oI l7, oI l8, oI l9, oI l10, oI l11, d12, d13] [] (sh_E h) := by
  induction n with
  | zero => intro l3 l4 l5 l6 l7 l8 l9 l10 l11 d1 d2 d12 d13 h H; exact H.elim
  | succ n ih =>
    intro l3 l4 l5 l6 l7 l8 l9 l10 l11 d1 d2 d12 d13 h H
    have hk217 := @ih
    revert hk217 H
    show sh_ok ((fun k217 l3 l4 l5 l6 l7 l8 l9 l10 l11 h => (if ai_in l9 4001 then (if (h.1 13 56 l9.toNatClampNeg) < (l11 - l6) then k217 l3 l4 l5 l6 l7 l8 (l9 + (1 : Int32)) l10 l11 h else k238 l3 l4 l5 l6 l7 l8 l9 l10 l11 h) else none)) (f_M_layKind_l217 N k238 n) l3 l4 l5 l6 l7 l8 l9 l10 l11 h) R → _
    generalize f_M_layKind_l217 N k238 n = k217
    intro H hk217
    have c := sh_okG H
    replace H := sh_okH H
    refine ai_WP_steps mc_293 (sh_CM d) 4 (And.intro c ?_)
    show wq_293 d Q 224 [oR 12 0, _, _, oI l3, oI l4, oI l5, oI l6, oI l7, oI l8, oI l9, oI l10, oI l11, _, _] [aI (h.1 13 56 l9.toNatClampNeg)] (sh_E h)
    refine ai_WP_steps mc_293 (sh_CM d) 4 (And.intro (fun c => ?_) (fun c => ?_))
    · replace H := sh_okT c H
      show wq_293 d Q 232 [oR 12 0, _, _, oI l3, oI l4, oI l5, oI l6, oI l7, oI l8, oI l9, oI l10, oI l11, _, _] [] (sh_E h)
      refine ai_WP_steps mc_293 (sh_CM d) 2 ?_
      exact hk217 l3 l4 l5 l6 l7 l8 (l9 + (1 : Int32)) l10 l11 h H
    · replace H := sh_okF c H
      exact hk238 l3 l4 l5 l6 l7 l8 l9 l10 l11 h H
def f_M_layKind_b303 (N : Nat)  (k121 : Int32 → Int32 → Int32 → Int32 → Int32 → Int32 → Int32 → Int32 → Int32 → sh_H → Option sh_H) (l3 : Int32) (l4 : Int32) (l5 : Int32) (l6 : Int32) (l7 : Int32) (l8 : Int32) (l9 : Int32) (l10 : Int32) (l11 : Int32) (s0 : Nat) (s1 : Int32) (s2 : Int32) (h : sh_H) : Option sh_H := (if ai_in s1 (sh_l13 s0) then (sh_let (sh_pI h 13 s0 s1.toNatClampNeg s2) (fun h2 => k121 l3 l4 l5 l6 l7 l8 l9 l10 (l11 + (1 : Int32)) h2)) else none)
theorem x_M_layKind_b303 (N : Nat) {d : Nat} (hd : 1 ≤ d) {Q : ai_Q} {R : sh_H → Prop} (hR : ∀ h, R h → Q none (sh_E h))  (k121 : Int32 → Int32 → Int32 → Int32 → Int32 → Int32 → Int32 → Int32 → Int32 → sh_H → Option sh_H) (hk121 : ∀ (l3 : Int32) (l4 : Int32) (l5 : Int32) (l6 : Int32) (l7 : Int32) (l8 : Int32) (l9 : Int32) (l10 : Int32) (l11 : Int32) {d1 d2 d12 d13 : Option ai_V} (h : sh_H), sh_ok (k121 l3 l4 l5 l6 l7 l8 l9 l10 l11 h) R → wq_293 d Q 121 [oR 12 0, d1, d2, oI l3, oI l4, oI l5, oI l6, oI l7, oI l8, oI l9, oI l10, oI l11, d12, d13] [] (sh_E h)) (l3 : Int32) (l4 : Int32) (l5 : Int32) (l6 : Int32) (l7 : Int32) (l8 : Int32) (l9 : Int32) (l10 : Int32) (l11 : Int32) (s0 : Nat) (s1 : Int32) (s2 : Int32) {d1 d2 d12 d13 : Option ai_V} (h : sh_H) (H : sh_ok (f_M_layKind_b303 N k121 l3 l4 l5 l6 l7 l8 l9 l10 l11 s0 s1 s2 h) R) : wq_293 d Q 303 [oR 12 0, d1, d2, oI l3, oI l4, oI l5, oI l6, oI l7, oI l8, oI l9, oI l10, oI l11, d12, d13] [aI s2, aI s1, aR 13 s0] (sh_E h) := by
  have c := sh_okG H
  replace H := sh_okH H
  refine ai_WP_steps mc_293 (sh_CM d) 1 (And.intro c ?_)
  show wq_293 d Q 304 [oR 12 0, _, _, oI l3, oI l4, oI l5, oI l6, oI l7, oI l8, oI l9, oI l10, oI l11, _, _] [] (sh_E (sh_pI h 13 s0 s1.toNatClampNeg s2))
  replace H := sh_okL H
  generalize sh_pI h 13 s0 s1.toNatClampNeg s2 = h2 at H ⊢
  refine ai_WP_steps mc_293 (sh_CM d) 2 ?_
  exact hk121 l3 l4 l5 l6 l7 l8 l9 l10 (l11 + (1 : Int32)) h2 H
def f_M_layKind_b238 (N : Nat)  (k121 : Int32 → Int32 → Int32 → Int32 → Int32 → Int32 → Int32 → Int32 → Int32 → sh_H → Option sh_H) (l3 : Int32) (l4 : Int32) (l5 : Int32) (l6 : Int32) (l7 : Int32) (l8 : Int32) (l9 : Int32) (l10 : Int32) (l11 : Int32) (h : sh_H) : Option sh_H := (if ai_in l9 4001 then (if ai_in ((l5 + l8) + ((h.1 13 56 l9.toNatClampNeg) * l7)) 56014 then (if ai_in l9 4001 then (if (1000000 : Int32) < (((h.1 13 55 ((l5 + l8) + ((h.1 13 56 l9.toNatClampNeg) * l7)).toNatClampNeg) - (h.1 13 56 l9.toNatClampNeg)) + l11) then f_M_layKind_b303 N k121 l3 l4 l5 l6 l7 l8 l9 l10 l11 55 ((l4 + l8) + (l11 * l7)) (1000000 : Int32) h else f_M_layKind_b303 N k121 l3 l4 l5 l6 l7 l8 l9 l10 l11 55 ((l4 + l8) + (l11 * l7)) (((h.1 13 55 ((l5 + l8) + ((h.1 13 56 l9.toNatClampNeg) * l7)).toNatClampNeg) - (h.1 13 56 l9.toNatClampNeg)) + l11) h) else none) else none) else none)
theorem x_M_layKind_b238 (N : Nat) {d : Nat} (hd : 1 ≤ d) {Q : ai_Q} {R : sh_H → Prop} (hR : ∀ h, R h → Q none (sh_E h))  (k121 : Int32 → Int32 → Int32 → Int32 → Int32 → Int32 → Int32 → Int32 → Int32 → sh_H → Option sh_H) (hk121 : ∀ (l3 : Int32) (l4 : Int32) (l5 : Int32) (l6 : Int32) (l7 : Int32) (l8 : Int32) (l9 : Int32) (l10 : Int32) (l11 : Int32) {d1 d2 d12 d13 : Option ai_V} (h : sh_H), sh_ok (k121 l3 l4 l5 l6 l7 l8 l9 l10 l11 h) R → wq_293 d Q 121 [oR 12 0, d1, d2, oI l3, oI l4, oI l5, oI l6, oI l7, oI l8, oI l9, oI l10, oI l11, d12, d13] [] (sh_E h)) (l3 : Int32) (l4 : Int32) (l5 : Int32) (l6 : Int32) (l7 : Int32) (l8 : Int32) (l9 : Int32) (l10 : Int32) (l11 : Int32) {d1 d2 d12 d13 : Option ai_V} (h : sh_H) (H : sh_ok (f_M_layKind_b238 N k121 l3 l4 l5 l6 l7 l8 l9 l10 l11 h) R) : wq_293 d Q 238 [oR 12 0, d1, d2, oI l3, oI l4, oI l5, oI l6, oI l7, oI l8, oI l9, oI l10, oI l11, d12, d13] [] (sh_E h) := by
  have c := sh_okG H
  replace H := sh_okH H
  refine ai_WP_steps mc_293 (sh_CM d) 9 (And.intro c ?_)
  show wq_293 d Q 254 [oR 12 0, _, _, oI l3, oI l4, oI l5, oI l6, oI l7, oI l8, oI l9, oI l10, oI l11, _, _] [aI (h.1 13 56 l9.toNatClampNeg), aI (l5 + l8), aR 13 55] (sh_E h)
  have c := sh_okG H
  replace H := sh_okH H
  refine ai_WP_steps mc_293 (sh_CM d) 4 (And.intro c ?_)
  show wq_293 d Q 259 [oR 12 0, _, _, oI l3, oI l4, oI l5, oI l6, oI l7, oI l8, oI l9, oI l10, oI l11, _, _] [aI (h.1 13 55 ((l5 + l8) + ((h.1 13 56 l9.toNatClampNeg) * l7)).toNatClampNeg)] (sh_E h)
  have c := sh_okG H
  replace H := sh_okH H
  refine ai_WP_steps mc_293 (sh_CM d) 4 (And.intro c ?_)
  show wq_293 d Q 266 [oR 12 0, _, _, oI l3, oI l4, oI l5, oI l6, oI l7, oI l8, oI l9, oI l10, oI l11, _, _] [aI (h.1 13 56 l9.toNatClampNeg), aI (h.1 13 55 ((l5 + l8) + ((h.1 13 56 l9.toNatClampNeg) * l7)).toNatClampNeg)] (sh_E h)
  refine ai_WP_steps mc_293 (sh_CM d) 16 (And.intro (fun c => ?_) (fun c => ?_))
  · replace H := sh_okT c H
    show wq_293 d Q 295 [oR 12 0, _, _, oI l3, oI l4, oI l5, oI l6, oI l7, oI l8, oI l9, oI l10, oI l11, _, oI (((h.1 13 55 ((l5 + l8) + ((h.1 13 56 l9.toNatClampNeg) * l7)).toNatClampNeg) - (h.1 13 56 l9.toNatClampNeg)) + l11)] [aI ((l4 + l8) + (l11 * l7)), aR 13 55] (sh_E h)
    refine ai_WP_steps mc_293 (sh_CM d) 2 ?_
    exact x_M_layKind_b303 N hd hR k121 hk121 l3 l4 l5 l6 l7 l8 l9 l10 l11 55 ((l4 + l8) + (l11 * l7)) (1000000 : Int32) h H
  · replace H := sh_okF c H
    show wq_293 d Q 301 [oR 12 0, _, _, oI l3, oI l4, oI l5, oI l6, oI l7, oI l8, oI l9, oI l10, oI l11, _, oI (((h.1 13 55 ((l5 + l8) + ((h.1 13 56 l9.toNatClampNeg) * l7)).toNatClampNeg) - (h.1 13 56 l9.toNatClampNeg)) + l11)] [aI ((l4 + l8) + (l11 * l7)), aR 13 55] (sh_E h)
    refine ai_WP_steps mc_293 (sh_CM d) 1 ?_
    exact x_M_layKind_b303 N hd hR k121 hk121 l3 l4 l5 l6 l7 l8 l9 l10 l11 55 ((l4 + l8) + (l11 * l7)) (((h.1 13 55 ((l5 + l8) + ((h.1 13 56 l9.toNatClampNeg) * l7)).toNatClampNeg) - (h.1 13 56 l9.toNatClampNeg)) + l11) h H
def f_M_layKind_b205 (N : Nat)  (k121 : Int32 → Int32 → Int32 → Int32 → Int32 → Int32 → Int32 → Int32 → Int32 → sh_H → Option sh_H) (l3 : Int32) (l4 : Int32) (l5 : Int32) (l6 : Int32) (l7 : Int32) (l8 : Int32) (l9 : Int32) (l10 : Int32) (l11 : Int32) (h : sh_H) : Option sh_H := (if ai_in l10 4001 then (sh_let (sh_pI h 13 56 l10.toNatClampNeg l11) (fun h3 => f_M_layKind_l217 N (f_M_layKind_b238 N k121) N l3 l4 l5 l6 l7 l8 l9 (l10 + (1 : Int32)) l11 h3)) else none)
theorem x_M_layKind_b205 (N : Nat) {d : Nat} (hd : 1 ≤ d) {Q : ai_Q} {R : sh_H → Prop} (hR : ∀ h, R h → Q none (sh_E h))  (k121 : Int32 → Int32 → Int32 → Int32 → Int32 → Int32 → Int32 → Int32 → Int32 → sh_H → Option sh_H) (hk121 : ∀ (l3 : Int32) (l4 : Int32) (l5 : Int32) (l6 : Int32) (l7 : Int32) (l8 : Int32) (l9 : Int32) (l10 : Int32) (l11 : Int32) {d1 d2 d12 d13 : Option ai_V} (h : sh_H), sh_ok (k121 l3 l4 l5 l6 l7 l8 l9 l10 l11 h) R → wq_293 d Q 121 [oR 12 0, d1, d2, oI l3, oI l4, oI l5, oI l6, oI l7, oI l8, oI l9, oI l10, oI l11, d12, d13] [] (sh_E h)) (l3 : Int32) (l4 : Int32) (l5 : Int32) (l6 : Int32) (l7 : Int32) (l8 : Int32) (l9 : Int32) (l10 : Int32) (l11 : Int32) {d1 d2 d12 d13 : Option ai_V} (h : sh_H) (H : sh_ok (f_M_layKind_b205 N k121 l3 l4 l5 l6 l7 l8 l9 l10 l11 h) R) : wq_293 d Q 205 [oR 12 0, d1, d2, oI l3, oI l4, oI l5, oI l6, oI l7, oI l8, oI l9, oI l10, oI l11, d12, d13] [] (sh_E h) := by
  have c := sh_okG H
  replace H := sh_okH H
  refine ai_WP_steps mc_293 (sh_CM d) 5 (And.intro c ?_)
  show wq_293 d Q 214 [oR 12 0, _, _, oI l3, oI l4, oI l5, oI l6, oI l7, oI l8, oI l9, oI l10, oI l11, _, _] [] (sh_E (sh_pI h 13 56 l10.toNatClampNeg l11))
  replace H := sh_okL H
  generalize sh_pI h 13 56 l10.toNatClampNeg l11 = h3 at H ⊢
  refine ai_WP_steps mc_293 (sh_CM d) 1 ?_
  exact x_M_layKind_l217 N hd hR (f_M_layKind_b238 N k121) (fun z0 z1 z2 z3 z4 z5 z6 z7 z8 {e1} {e2} {e12} {e13} h H => x_M_layKind_b238 N hd hR k121 hk121 z0 z1 z2 z3 z4 z5 z6 z7 z8 h H) N l3 l4 l5 l6 l7 l8 l9 (l10 + (1 : Int32)) l11 h3 H
def f_M_layKind_l121 (N : Nat)  (k310 : Int32 → Int32 → Int32 → Int32 → Int32 → Int32 → sh_H → Option sh_H) (n : Nat) : Int32 → Int32 → Int32 → Int32 → Int32 → Int32 → Int32 → Int32 → Int32 → sh_H → Option sh_H := Nat.rec (motive := fun _ => Int32 → Int32 → Int32 → Int32 → Int32 → Int32 → Int32 → Int32 → Int32 → sh_H → Option sh_H) (fun _ _ _ _ _ _ _ _ _ _ => none) (fun _ k121 l3 l4 l5 l6 l7 l8 l9 l10 l11 h => (if l3 < (l8 + (l11 * l7)) then k310 l3 l4 l5 l6 l7 l8 h else (if ai_in ((l5 + l8) + (l11 * l7)) 56014 then f_M_layKind_l154 N (f_M_layKind_b205 N k121) N l3 l4 l5 l6 l7 l8 l9 l10 l11 ((h.1 13 55 ((l5 + l8) + (l11 * l7)).toNatClampNeg) - l11) h else none))) n
theorem x_M_layKind_l121 (N : Nat) {d : Nat} (hd : 1 ≤ d) {Q : ai_Q} {R : sh_H → Prop} (hR : ∀ h, R h → Q none (sh_E h))  (k310 : Int32 → Int32 → Int32 → Int32 → Int32 → Int32 → sh_H → Option sh_H) (hk310 : ∀ (l3 : Int32) (l4 : Int32) (l5 : Int32) (l6 : Int32) (l7 : Int32) (l8 : Int32) {d1 d2 d9 d10 d11 d12 d13 : Option ai_V} (h : sh_H), sh_ok (k310 l3 l4 l5 l6 l7 l8 h) R → wq_293 d Q 310 [oR 12 0, d1, d2, oI l3, oI l4, oI l5, oI l6, oI l7, oI l8, d9, d10, d11, d12, d13] [] (sh_E h)) (n : Nat) : ∀ (l3 : Int32) (l4 : Int32) (l5 : Int32) (l6 : Int32) (l7 : Int32) (l8 : Int32) (l9 : Int32) (l10 : Int32) (l11 : Int32) {d1 d2 d12 d13 : Option ai_V} (h : sh_H), sh_ok (f_M_layKind_l121 N k310 n l3 l4 l5 l6 l7 l8 l9 l10 l11 h) R → wq_293 d Q 121 [oR 12 0, d1, d2, oI l3, oI l4, oI l5, oI l6, oI l7, oI l8, oI l9, oI l10, oI l11, d12, d13] [] (sh_E h) := by
  induction n with
  | zero => intro l3 l4 l5 l6 l7 l8 l9 l10 l11 d1 d2 d12 d13 h H; exact H.elim
  | succ n ih =>
    intro l3 l4 l5 l6 l7 l8 l9 l10 l11 d1 d2 d12 d13 h H
    have hk121 := @ih
    revert hk121 H
    show sh_ok ((fun k121 l3 l4 l5 l6 l7 l8 l9 l10 l11 h => (if l3 < (l8 + (l11 * l7)) then k310 l3 l4 l5 l6 l7 l8 h else (if ai_in ((l5 + l8) + (l11 * l7)) 56014 then f_M_layKind_l154 N (f_M_layKind_b205 N k121) N l3 l4 l5 l6 l7 l8 l9 l10 l11 ((h.1 13 55 ((l5 + l8) + (l11 * l7)).toNatClampNeg) - l11) h else none))) (f_M_layKind_l121 N k310 n) l3 l4 l5 l6 l7 l8 l9 l10 l11 h) R → _
    generalize f_M_layKind_l121 N k310 n = k121
    intro H hk121
    refine ai_WP_steps mc_293 (sh_CM d) 7 (And.intro (fun c => ?_) (fun c => ?_))
    · replace H := sh_okT c H
      exact hk310 l3 l4 l5 l6 l7 l8 h H
    · replace H := sh_okF c H
      show wq_293 d Q 133 [oR 12 0, _, _, oI l3, oI l4, oI l5, oI l6, oI l7, oI l8, oI l9, oI l10, oI l11, _, _] [] (sh_E h)
      have c := sh_okG H
      replace H := sh_okH H
      refine ai_WP_steps mc_293 (sh_CM d) 10 (And.intro c ?_)
      show wq_293 d Q 149 [oR 12 0, _, _, oI l3, oI l4, oI l5, oI l6, oI l7, oI l8, oI l9, oI l10, oI l11, _, _] [aI (h.1 13 55 ((l5 + l8) + (l11 * l7)).toNatClampNeg)] (sh_E h)
      refine ai_WP_steps mc_293 (sh_CM d) 3 ?_
      exact x_M_layKind_l154 N hd hR (f_M_layKind_b205 N k121) (fun z0 z1 z2 z3 z4 z5 z6 z7 z8 {e1} {e2} {e12} {e13} h H => x_M_layKind_b205 N hd hR k121 hk121 z0 z1 z2 z3 z4 z5 z6 z7 z8 h H) N l3 l4 l5 l6 l7 l8 l9 l10 l11 ((h.1 13 55 ((l5 + l8) + (l11 * l7)).toNatClampNeg) - l11) h H
def f_M_layKind_b310 (N : Nat)  (k99 : Int32 → Int32 → Int32 → Int32 → Int32 → Int32 → sh_H → Option sh_H) (l3 : Int32) (l4 : Int32) (l5 : Int32) (l6 : Int32) (l7 : Int32) (l8 : Int32) (h : sh_H) : Option sh_H := k99 l3 l4 l5 l6 l7 (l8 + (1 : Int32)) h
theorem x_M_layKind_b310 (N : Nat) {d : Nat} (hd : 1 ≤ d) {Q : ai_Q} {R : sh_H → Prop} (hR : ∀ h, R h → Q none (sh_E h))  (k99 : Int32 → Int32 → Int32 → Int32 → Int32 → Int32 → sh_H → Option sh_H) (hk99 : ∀ (l3 : Int32) (l4 : Int32) (l5 : Int32) (l6 : Int32) (l7 : Int32) (l8 : Int32) {d1 d2 d9 d10 d11 d12 d13 : Option ai_V} (h : sh_H), sh_ok (k99 l3 l4 l5 l6 l7 l8 h) R → wq_293 d Q 99 [oR 12 0, d1, d2, oI l3, oI l4, oI l5, oI l6, oI l7, oI l8, d9, d10, d11, d12, d13] [] (sh_E h)) (l3 : Int32) (l4 : Int32) (l5 : Int32) (l6 : Int32) (l7 : Int32) (l8 : Int32) {d1 d2 d9 d10 d11 d12 d13 : Option ai_V} (h : sh_H) (H : sh_ok (f_M_layKind_b310 N k99 l3 l4 l5 l6 l7 l8 h) R) : wq_293 d Q 310 [oR 12 0, d1, d2, oI l3, oI l4, oI l5, oI l6, oI l7, oI l8, d9, d10, d11, d12, d13] [] (sh_E h) := by
  refine ai_WP_steps mc_293 (sh_CM d) 2 ?_
  exact hk99 l3 l4 l5 l6 l7 (l8 + (1 : Int32)) h H
def f_M_layKind_l99 (N : Nat)  (k316 : sh_H → Option sh_H) (n : Nat) : Int32 → Int32 → Int32 → Int32 → Int32 → Int32 → sh_H → Option sh_H := Nat.rec (motive := fun _ => Int32 → Int32 → Int32 → Int32 → Int32 → Int32 → sh_H → Option sh_H) (fun _ _ _ _ _ _ _ => none) (fun _ k99 l3 l4 l5 l6 l7 l8 h => (if l8 < l7 then (if l3 < l8 then k316 h else f_M_layKind_l121 N (f_M_layKind_b310 N k99) N l3 l4 l5 l6 l7 l8 (0 : Int32) (0 : Int32) (0 : Int32) h) else k316 h)) n
theorem x_M_layKind_l99 (N : Nat) {d : Nat} (hd : 1 ≤ d) {Q : ai_Q} {R : sh_H → Prop} (hR : ∀ h, R h → Q none (sh_E h))  (k316 : sh_H → Option sh_H) (hk316 : ∀ {d0 d1 d2 d3 d4 d5 d6 d7 d8 d9 d10 d11 d12 d13 : Option ai_V} (h : sh_H), sh_ok (k316 h) R → wq_293 d Q 316 [d0, d1, d2, d3, d4, d5, d6, d7, d8, d9, d10, d11, d12, d13] [] (sh_E h)) (n : Nat) : ∀ (l3 : Int32) (l4 : Int32) (l5 : Int32) (l6 : Int32) (l7 : Int32) (l8 : Int32) {d1 d2 d9 d10 d11 d12 d13 : Option ai_V} (h : sh_H), sh_ok (f_M_layKind_l99 N k316 n l3 l4 l5 l6 l7 l8 h) R → wq_293 d Q 99 [oR 12 0, d1, d2, oI l3, oI l4, oI l5, oI l6, oI l7, oI l8, d9, d10, d11, d12, d13] [] (sh_E h) := by
  induction n with
  | zero => intro l3 l4 l5 l6 l7 l8 d1 d2 d9 d10 d11 d12 d13 h H; exact H.elim
  | succ n ih =>
    intro l3 l4 l5 l6 l7 l8 d1 d2 d9 d10 d11 d12 d13 h H
    have hk99 := @ih
    revert hk99 H
    show sh_ok ((fun k99 l3 l4 l5 l6 l7 l8 h => (if l8 < l7 then (if l3 < l8 then k316 h else f_M_layKind_l121 N (f_M_layKind_b310 N k99) N l3 l4 l5 l6 l7 l8 (0 : Int32) (0 : Int32) (0 : Int32) h) else k316 h)) (f_M_layKind_l99 N k316 n) l3 l4 l5 l6 l7 l8 h) R → _
    generalize f_M_layKind_l99 N k316 n = k99
    intro H hk99
    refine ai_WP_steps mc_293 (sh_CM d) 3 (And.intro (fun c => ?_) (fun c => ?_))
    · replace H := sh_okT c H
      show wq_293 d Q 106 [oR 12 0, _, _, oI l3, oI l4, oI l5, oI l6, oI l7, oI l8, _, _, _, _, _] [] (sh_E h)
      refine ai_WP_steps mc_293 (sh_CM d) 3 (And.intro (fun c => ?_) (fun c => ?_))
      · replace H := sh_okT c H
        exact hk316 h H
      · replace H := sh_okF c H
        show wq_293 d Q 112 [oR 12 0, _, _, oI l3, oI l4, oI l5, oI l6, oI l7, oI l8, _, _, _, _, _] [] (sh_E h)
        refine ai_WP_steps mc_293 (sh_CM d) 6 ?_
        exact x_M_layKind_l121 N hd hR (f_M_layKind_b310 N k99) (fun z0 z1 z2 z3 z4 z5 {e1} {e2} {e9} {e10} {e11} {e12} {e13} h H => x_M_layKind_b310 N hd hR k99 hk99 z0 z1 z2 z3 z4 z5 h H) N l3 l4 l5 l6 l7 l8 (0 : Int32) (0 : Int32) (0 : Int32) h H
    · replace H := sh_okF c H
      exact hk316 h H
def f_M_layKind_b88 (N : Nat)    (h : sh_H) : Option sh_H := (some h)
theorem x_M_layKind_b88 (N : Nat) {d : Nat} (hd : 1 ≤ d) {Q : ai_Q} {R : sh_H → Prop} (hR : ∀ h, R h → Q none (sh_E h))    {d0 d1 d2 d3 d4 d5 d6 d7 d8 d9 d10 d11 d12 d13 : Option ai_V} (h : sh_H) (H : sh_ok (f_M_layKind_b88 N h) R) : wq_293 d Q 88 [d0, d1, d2, d3, d4, d5, d6, d7, d8, d9, d10, d11, d12, d13] [] (sh_E h) := by
  exact ai_WP_steps mc_293 (sh_CM d) 1 (hR h H)
def f_M_layKind_b316 (N : Nat)    (h : sh_H) : Option sh_H := (some h)
theorem x_M_layKind_b316 (N : Nat) {d : Nat} (hd : 1 ≤ d) {Q : ai_Q} {R : sh_H → Prop} (hR : ∀ h, R h → Q none (sh_E h))    {d0 d1 d2 d3 d4 d5 d6 d7 d8 d9 d10 d11 d12 d13 : Option ai_V} (h : sh_H) (H : sh_ok (f_M_layKind_b316 N h) R) : wq_293 d Q 316 [d0, d1, d2, d3, d4, d5, d6, d7, d8, d9, d10, d11, d12, d13] [] (sh_E h) := by
  exact ai_WP_steps mc_293 (sh_CM d) 1 (hR h H)
def f_M_layKind_b46 (N : Nat)   (l2 : Int32) (l3 : Int32) (l4 : Int32) (l5 : Int32) (s0 : Int32) (h : sh_H) : Option sh_H := (if s0 = 0 then f_M_layKind_l56 N (f_M_layKind_b88 N) N l3 l4 l5 (0 : Int32) h else (Option.bind (f_M_worth l2 h) (fun v4 => f_M_layKind_l99 N (f_M_layKind_b316 N) N l3 l4 l5 s0 v4 (0 : Int32) h)))
theorem x_M_layKind_b46 (N : Nat) {d : Nat} (hd : 1 ≤ d) {Q : ai_Q} {R : sh_H → Prop} (hR : ∀ h, R h → Q none (sh_E h))   (l2 : Int32) (l3 : Int32) (l4 : Int32) (l5 : Int32) (s0 : Int32) {d1 d6 d7 d8 d9 d10 d11 d12 d13 : Option ai_V} (h : sh_H) (H : sh_ok (f_M_layKind_b46 N l2 l3 l4 l5 s0 h) R) : wq_293 d Q 46 [oR 12 0, d1, oI l2, oI l3, oI l4, oI l5, d6, d7, d8, d9, d10, d11, d12, d13] [aI s0] (sh_E h) := by
  refine ai_WP_steps mc_293 (sh_CM d) 3 (And.intro (fun c => ?_) (fun c => ?_))
  · replace H := sh_okT c H
    show wq_293 d Q 53 [oR 12 0, _, oI l2, oI l3, oI l4, oI l5, oI s0, _, _, _, _, _, _, _] [] (sh_E h)
    refine ai_WP_steps mc_293 (sh_CM d) 2 ?_
    exact x_M_layKind_l56 N hd hR (f_M_layKind_b88 N) (fun {e0} {e1} {e2} {e3} {e4} {e5} {e6} {e7} {e8} {e9} {e10} {e11} {e12} {e13} h H => x_M_layKind_b88 N hd hR  h H) N l3 l4 l5 (0 : Int32) h H
  · replace H := sh_okF c H
    show wq_293 d Q 89 [oR 12 0, _, oI l2, oI l3, oI l4, oI l5, oI s0, _, _, _, _, _, _, _] [] (sh_E h)
    refine ai_WP_steps mc_293 (sh_CM d) 3 (And.intro (Nat.le_of_ble_eq_true rfl) (x_M_worth (Nat.le_trans (Nat.le_of_ble_eq_true rfl) hd) l2 h (sh_okB H) (fun v4 H => ?_)))
    show wq_293 d Q 94 [oR 12 0, _, oI l2, oI l3, oI l4, oI l5, oI s0, _, _, _, _, _, _, _] [aI v4] (sh_E h)
    refine ai_WP_steps mc_293 (sh_CM d) 3 ?_
    exact x_M_layKind_l99 N hd hR (f_M_layKind_b316 N) (fun {e0} {e1} {e2} {e3} {e4} {e5} {e6} {e7} {e8} {e9} {e10} {e11} {e12} {e13} h H => x_M_layKind_b316 N hd hR  h H) N l3 l4 l5 s0 v4 (0 : Int32) h H
def f_M_layKind (N : Nat)  (l1 : Int32) (l2 : Int32) (l3 : Int32) (h : sh_H) : Option sh_H := (if ai_in (0 : Int32) 8000 then (if l2 < (h.1 13 46 (0 : Int32).toNatClampNeg) then (if ai_in (((6 : Int32) * l1) + l2) 12 then f_M_layKind_b46 N l2 l3 (((28007 : Int32) * l1) + ((4001 : Int32) * l2)) ((((28007 : Int32) * l1) + ((4001 : Int32) * l2)) + (4001 : Int32)) (h.1 13 54 (((6 : Int32) * l1) + l2).toNatClampNeg) h else none) else f_M_layKind_b46 N l2 l3 (((28007 : Int32) * l1) + ((4001 : Int32) * l2)) ((((28007 : Int32) * l1) + ((4001 : Int32) * l2)) + (4001 : Int32)) (0 : Int32) h) else none)
theorem x_M_layKind (N : Nat) {d : Nat} (hd : 2 ≤ d) (l1 : Int32) (l2 : Int32) (l3 : Int32) (h : sh_H) {Q : ai_Q} {R : sh_H → Prop} (H : sh_ok (f_M_layKind N l1 l2 l3 h) R) (hR : ∀ h, R h → Q none (sh_E h)) : ai_Ex sh_T d 293 [aR 12 0, aI l1, aI l2, aI l3] (sh_E h) Q := by
  obtain ⟨d, rfl⟩ : ∃ e, d = e + 1 := ⟨d - 1, by omega⟩
  replace hd : 1 ≤ d := by omega
  refine And.intro (Nat.le_of_ble_eq_true rfl) ?_
  show wq_293 d Q 0 [oR 12 0, oI l1, oI l2, oI l3, none, none, none, none, none, none, none, none, none, none] [] (sh_E h)
  have c := sh_okG H
  replace H := sh_okH H
  refine ai_WP_steps mc_293 (sh_CM d) 17 (And.intro c ?_)
  show wq_293 d Q 28 [oR 12 0, oI l1, oI l2, oI l3, oI (((28007 : Int32) * l1) + ((4001 : Int32) * l2)), oI ((((28007 : Int32) * l1) + ((4001 : Int32) * l2)) + (4001 : Int32)), _, _, _, _, _, _, _, _] [aI (h.1 13 46 (0 : Int32).toNatClampNeg), aI l2] (sh_E h)
  refine ai_WP_steps mc_293 (sh_CM d) 1 (And.intro (fun c => ?_) (fun c => ?_))
  · replace H := sh_okT c H
    show wq_293 d Q 31 [oR 12 0, oI l1, oI l2, oI l3, oI (((28007 : Int32) * l1) + ((4001 : Int32) * l2)), oI ((((28007 : Int32) * l1) + ((4001 : Int32) * l2)) + (4001 : Int32)), _, _, _, _, _, _, _, _] [] (sh_E h)
    have c := sh_okG H
    replace H := sh_okH H
    refine ai_WP_steps mc_293 (sh_CM d) 8 (And.intro c ?_)
    show wq_293 d Q 42 [oR 12 0, oI l1, oI l2, oI l3, oI (((28007 : Int32) * l1) + ((4001 : Int32) * l2)), oI ((((28007 : Int32) * l1) + ((4001 : Int32) * l2)) + (4001 : Int32)), _, _, _, _, _, _, _, _] [aI (h.1 13 54 (((6 : Int32) * l1) + l2).toNatClampNeg)] (sh_E h)
    refine ai_WP_steps mc_293 (sh_CM d) 1 ?_
    exact x_M_layKind_b46 N hd hR l2 l3 (((28007 : Int32) * l1) + ((4001 : Int32) * l2)) ((((28007 : Int32) * l1) + ((4001 : Int32) * l2)) + (4001 : Int32)) (h.1 13 54 (((6 : Int32) * l1) + l2).toNatClampNeg) h H
  · replace H := sh_okF c H
    show wq_293 d Q 45 [oR 12 0, oI l1, oI l2, oI l3, oI (((28007 : Int32) * l1) + ((4001 : Int32) * l2)), oI ((((28007 : Int32) * l1) + ((4001 : Int32) * l2)) + (4001 : Int32)), _, _, _, _, _, _, _, _] [] (sh_E h)
    refine ai_WP_steps mc_293 (sh_CM d) 1 ?_
    exact x_M_layKind_b46 N hd hR l2 l3 (((28007 : Int32) * l1) + ((4001 : Int32) * l2)) ((((28007 : Int32) * l1) + ((4001 : Int32) * l2)) + (4001 : Int32)) (0 : Int32) h H
def f_M_layFewest_b39 (N : Nat)  (k13 : Int32 → Int32 → Int32 → Int32 → sh_H → Option sh_H) (l1 : Int32) (l2 : Int32) (l3 : Int32) (l4 : Int32) (s0 : Nat) (s1 : Int32) (s2 : Int32) (h : sh_H) : Option sh_H := (if ai_in s1 (sh_l13 s0) then (sh_let (sh_pI h 13 s0 s1.toNatClampNeg s2) (fun h1 => k13 l1 l2 l3 (l4 + (1 : Int32)) h1)) else none)
theorem x_M_layFewest_b39 (N : Nat) {d : Nat} (hd : 2 ≤ d) {Q : ai_Q} {R : sh_H → Prop} (hR : ∀ h, R h → Q none (sh_E h))  (k13 : Int32 → Int32 → Int32 → Int32 → sh_H → Option sh_H) (hk13 : ∀ (l1 : Int32) (l2 : Int32) (l3 : Int32) (l4 : Int32) (h : sh_H), sh_ok (k13 l1 l2 l3 l4 h) R → wq_292 d Q 13 [oR 12 0, oI l1, oI l2, oI l3, oI l4] [] (sh_E h)) (l1 : Int32) (l2 : Int32) (l3 : Int32) (l4 : Int32) (s0 : Nat) (s1 : Int32) (s2 : Int32) (h : sh_H) (H : sh_ok (f_M_layFewest_b39 N k13 l1 l2 l3 l4 s0 s1 s2 h) R) : wq_292 d Q 39 [oR 12 0, oI l1, oI l2, oI l3, oI l4] [aI s2, aI s1, aR 13 s0] (sh_E h) := by
  have c := sh_okG H
  replace H := sh_okH H
  refine ai_WP_steps mc_292 (sh_CM d) 1 (And.intro c ?_)
  show wq_292 d Q 40 [oR 12 0, oI l1, oI l2, oI l3, oI l4] [] (sh_E (sh_pI h 13 s0 s1.toNatClampNeg s2))
  replace H := sh_okL H
  generalize sh_pI h 13 s0 s1.toNatClampNeg s2 = h1 at H ⊢
  refine ai_WP_steps mc_292 (sh_CM d) 2 ?_
  exact hk13 l1 l2 l3 (l4 + (1 : Int32)) h1 H
def f_M_layFewest_l13 (N : Nat)  (k46 : Int32 → Int32 → sh_H → Option sh_H) (n : Nat) : Int32 → Int32 → Int32 → Int32 → sh_H → Option sh_H := Nat.rec (motive := fun _ => Int32 → Int32 → Int32 → Int32 → sh_H → Option sh_H) (fun _ _ _ _ _ => none) (fun _ k13 l1 l2 l3 l4 h => (if l2 < l4 then k46 l1 l2 h else (if l4 = 0 then f_M_layFewest_b39 N k13 l1 l2 l3 l4 55 (l3 + l4) (0 : Int32) h else f_M_layFewest_b39 N k13 l1 l2 l3 l4 55 (l3 + l4) (1000000 : Int32) h))) n
theorem x_M_layFewest_l13 (N : Nat) {d : Nat} (hd : 2 ≤ d) {Q : ai_Q} {R : sh_H → Prop} (hR : ∀ h, R h → Q none (sh_E h))  (k46 : Int32 → Int32 → sh_H → Option sh_H) (hk46 : ∀ (l1 : Int32) (l2 : Int32) {d3 d4 : Option ai_V} (h : sh_H), sh_ok (k46 l1 l2 h) R → wq_292 d Q 46 [oR 12 0, oI l1, oI l2, d3, d4] [] (sh_E h)) (n : Nat) : ∀ (l1 : Int32) (l2 : Int32) (l3 : Int32) (l4 : Int32) (h : sh_H), sh_ok (f_M_layFewest_l13 N k46 n l1 l2 l3 l4 h) R → wq_292 d Q 13 [oR 12 0, oI l1, oI l2, oI l3, oI l4] [] (sh_E h) := by
  induction n with
  | zero => intro l1 l2 l3 l4 h H; exact H.elim
  | succ n ih =>
    intro l1 l2 l3 l4 h H
    have hk13 := @ih
    revert hk13 H
    show sh_ok ((fun k13 l1 l2 l3 l4 h => (if l2 < l4 then k46 l1 l2 h else (if l4 = 0 then f_M_layFewest_b39 N k13 l1 l2 l3 l4 55 (l3 + l4) (0 : Int32) h else f_M_layFewest_b39 N k13 l1 l2 l3 l4 55 (l3 + l4) (1000000 : Int32) h))) (f_M_layFewest_l13 N k46 n) l1 l2 l3 l4 h) R → _
    generalize f_M_layFewest_l13 N k46 n = k13
    intro H hk13
    refine ai_WP_steps mc_292 (sh_CM d) 3 (And.intro (fun c => ?_) (fun c => ?_))
    · replace H := sh_okT c H
      exact hk46 l1 l2 h H
    · replace H := sh_okF c H
      show wq_292 d Q 19 [oR 12 0, oI l1, oI l2, oI l3, oI l4] [] (sh_E h)
      refine ai_WP_steps mc_292 (sh_CM d) 7 (And.intro (fun c => ?_) (fun c => ?_))
      · replace H := sh_okT c H
        show wq_292 d Q 32 [oR 12 0, oI l1, oI l2, oI l3, oI l4] [aI (l3 + l4), aR 13 55] (sh_E h)
        refine ai_WP_steps mc_292 (sh_CM d) 2 ?_
        exact x_M_layFewest_b39 N hd hR k13 hk13 l1 l2 l3 l4 55 (l3 + l4) (0 : Int32) h H
      · replace H := sh_okF c H
        show wq_292 d Q 36 [oR 12 0, oI l1, oI l2, oI l3, oI l4] [aI (l3 + l4), aR 13 55] (sh_E h)
        refine ai_WP_steps mc_292 (sh_CM d) 1 ?_
        exact x_M_layFewest_b39 N hd hR k13 hk13 l1 l2 l3 l4 55 (l3 + l4) (1000000 : Int32) h H
def f_M_layFewest_l49 (N : Nat)  (k68 : sh_H → Option sh_H) (n : Nat) : Int32 → Int32 → Int32 → sh_H → Option sh_H := Nat.rec (motive := fun _ => Int32 → Int32 → Int32 → sh_H → Option sh_H) (fun _ _ _ _ => none) (fun _ k49 l1 l2 l4 h => (if l4 < 0 then k68 h else (Option.bind (f_M_layKind N l1 l4 l2 h) (fun h2 => k49 l1 l2 (l4 + (-1 : Int32)) h2)))) n
theorem x_M_layFewest_l49 (N : Nat) {d : Nat} (hd : 2 ≤ d) {Q : ai_Q} {R : sh_H → Prop} (hR : ∀ h, R h → Q none (sh_E h))  (k68 : sh_H → Option sh_H) (hk68 : ∀ {d0 d1 d2 d3 d4 : Option ai_V} (h : sh_H), sh_ok (k68 h) R → wq_292 d Q 68 [d0, d1, d2, d3, d4] [] (sh_E h)) (n : Nat) : ∀ (l1 : Int32) (l2 : Int32) (l4 : Int32) {d3 : Option ai_V} (h : sh_H), sh_ok (f_M_layFewest_l49 N k68 n l1 l2 l4 h) R → wq_292 d Q 49 [oR 12 0, oI l1, oI l2, d3, oI l4] [] (sh_E h) := by
  induction n with
  | zero => intro l1 l2 l4 d3 h H; exact H.elim
  | succ n ih =>
    intro l1 l2 l4 d3 h H
    have hk49 := @ih
    revert hk49 H
    show sh_ok ((fun k49 l1 l2 l4 h => (if l4 < 0 then k68 h else (Option.bind (f_M_layKind N l1 l4 l2 h) (fun h2 => k49 l1 l2 (l4 + (-1 : Int32)) h2)))) (f_M_layFewest_l49 N k68 n) l1 l2 l4 h) R → _
    generalize f_M_layFewest_l49 N k68 n = k49
    intro H hk49
    refine ai_WP_steps mc_292 (sh_CM d) 2 (And.intro (fun c => ?_) (fun c => ?_))
    · replace H := sh_okT c H
      exact hk68 h H
    · replace H := sh_okF c H
      show wq_292 d Q 54 [oR 12 0, oI l1, oI l2, _, oI l4] [] (sh_E h)
      refine ai_WP_steps mc_292 (sh_CM d) 5 (And.intro (Nat.le_of_ble_eq_true rfl) (x_M_layKind N (Nat.le_trans (Nat.le_of_ble_eq_true rfl) hd) l1 l4 l2 h (sh_okB H) (fun h2 H => ?_)))
      show wq_292 d Q 62 [oR 12 0, oI l1, oI l2, _, oI l4] [] (sh_E h2)
      refine ai_WP_steps mc_292 (sh_CM d) 2 ?_
      exact hk49 l1 l2 (l4 + (-1 : Int32)) h2 H
def f_M_layFewest_b68 (N : Nat)    (h : sh_H) : Option sh_H := (some h)
theorem x_M_layFewest_b68 (N : Nat) {d : Nat} (hd : 2 ≤ d) {Q : ai_Q} {R : sh_H → Prop} (hR : ∀ h, R h → Q none (sh_E h))    {d0 d1 d2 d3 d4 : Option ai_V} (h : sh_H) (H : sh_ok (f_M_layFewest_b68 N h) R) : wq_292 d Q 68 [d0, d1, d2, d3, d4] [] (sh_E h) := by
  exact ai_WP_steps mc_292 (sh_CM d) 1 (hR h H)
def f_M_layFewest_b46 (N : Nat)   (l1 : Int32) (l2 : Int32) (h : sh_H) : Option sh_H := f_M_layFewest_l49 N (f_M_layFewest_b68 N) N l1 l2 (5 : Int32) h
theorem x_M_layFewest_b46 (N : Nat) {d : Nat} (hd : 2 ≤ d) {Q : ai_Q} {R : sh_H → Prop} (hR : ∀ h, R h → Q none (sh_E h))   (l1 : Int32) (l2 : Int32) {d3 d4 : Option ai_V} (h : sh_H) (H : sh_ok (f_M_layFewest_b46 N l1 l2 h) R) : wq_292 d Q 46 [oR 12 0, oI l1, oI l2, d3, d4] [] (sh_E h) := by
  refine ai_WP_steps mc_292 (sh_CM d) 2 ?_
  exact x_M_layFewest_l49 N hd hR (f_M_layFewest_b68 N) (fun {e0} {e1} {e2} {e3} {e4} h H => x_M_layFewest_b68 N hd hR  h H) N l1 l2 (5 : Int32) h H
def f_M_layFewest (N : Nat)  (l1 : Int32) (l2 : Int32) (h : sh_H) : Option sh_H := f_M_layFewest_l13 N (f_M_layFewest_b46 N) N l1 l2 (((28007 : Int32) * l1) + (24006 : Int32)) (0 : Int32) h
theorem x_M_layFewest (N : Nat) {d : Nat} (hd : 3 ≤ d) (l1 : Int32) (l2 : Int32) (h : sh_H) {Q : ai_Q} {R : sh_H → Prop} (H : sh_ok (f_M_layFewest N l1 l2 h) R) (hR : ∀ h, R h → Q none (sh_E h)) : ai_Ex sh_T d 292 [aR 12 0, aI l1, aI l2] (sh_E h) Q := by
  obtain ⟨d, rfl⟩ : ∃ e, d = e + 1 := ⟨d - 1, by omega⟩
  replace hd : 2 ≤ d := by omega
  refine And.intro (Nat.le_of_ble_eq_true rfl) ?_
  show wq_292 d Q 0 [oR 12 0, oI l1, oI l2, none, none] [] (sh_E h)
  refine ai_WP_steps mc_292 (sh_CM d) 8 ?_
  exact x_M_layFewest_l13 N hd hR (f_M_layFewest_b46 N) (fun z0 z1 {e3} {e4} h H => x_M_layFewest_b46 N hd hR z0 z1 h H) N l1 l2 (((28007 : Int32) * l1) + (24006 : Int32)) (0 : Int32) h H
def f_M_fewestOf  (l1 : Int32) (l2 : Int32) (h : sh_H) : Option Int32 := (if ai_in (((28007 : Int32) * l1) + l2) 56014 then (if (h.1 13 55 (((28007 : Int32) * l1) + l2).toNatClampNeg) < (1000000 : Int32) then (some (h.1 13 55 (((28007 : Int32) * l1) + l2).toNatClampNeg)) else (some (1000000 : Int32))) else none)
theorem x_M_fewestOf {d : Nat} (hd : 1 ≤ d) (l1 : Int32) (l2 : Int32) (h : sh_H) {Q : ai_Q} {R : Int32 → Prop} (H : sh_ok (f_M_fewestOf l1 l2 h) R) (hR : ∀ r, R r → Q (some (aI r)) (sh_E h)) : ai_Ex sh_T d 294 [aR 12 0, aI l1, aI l2] (sh_E h) Q := by
  obtain ⟨d, rfl⟩ : ∃ e, d = e + 1 := ⟨d - 1, by omega⟩
  replace hd : 0 ≤ d := by omega
  refine And.intro (Nat.le_of_ble_eq_true rfl) ?_
  show wq_294 d Q 0 [oR 12 0, oI l1, oI l2, none] [] (sh_E h)
  have c := sh_okG H
  replace H := sh_okH H
  refine ai_WP_steps mc_294 (sh_CM d) 8 (And.intro c ?_)
  show wq_294 d Q 12 [oR 12 0, oI l1, oI l2, _] [aI (h.1 13 55 (((28007 : Int32) * l1) + l2).toNatClampNeg)] (sh_E h)
  refine ai_WP_steps mc_294 (sh_CM d) 4 (And.intro (fun c => ?_) (fun c => ?_))
  · replace H := sh_okT c H
    show wq_294 d Q 26 [oR 12 0, oI l1, _, oI (h.1 13 55 (((28007 : Int32) * l1) + l2).toNatClampNeg)] [] (sh_E h)
    exact ai_WP_steps mc_294 (sh_CM d) 2 (hR (h.1 13 55 (((28007 : Int32) * l1) + l2).toNatClampNeg) H)
  · replace H := sh_okF c H
    show wq_294 d Q 20 [oR 12 0, oI l1, _, oI (h.1 13 55 (((28007 : Int32) * l1) + l2).toNatClampNeg)] [] (sh_E h)
    exact ai_WP_steps mc_294 (sh_CM d) 3 (hR (1000000 : Int32) H)
def f_M_paidOf_l77 (N : Nat)  (k137 : Int32 → Int32 → Int32 → Int32 → Int32 → Int32 → sh_H → Option Int32) (n : Nat) : Int32 → Int32 → Int32 → Int32 → Int32 → Int32 → sh_H → Option Int32 := Nat.rec (motive := fun _ => Int32 → Int32 → Int32 → Int32 → Int32 → Int32 → sh_H → Option Int32) (fun _ _ _ _ _ _ _ => none) (fun _ k77 l1 l3 l4 l5 l6 l7 h => (if ai_in (((((28007 : Int32) * l1) + ((4001 : Int32) * (l5 + (1 : Int32)))) + l4) - (l6 * l7)) 56014 then (if ai_in ((((28007 : Int32) * l1) + ((4001 : Int32) * l5)) + l4) 56014 then (if ((h.1 13 55 (((((28007 : Int32) * l1) + ((4001 : Int32) * (l5 + (1 : Int32)))) + l4) - (l6 * l7)).toNatClampNeg) + l6) = (h.1 13 55 ((((28007 : Int32) * l1) + ((4001 : Int32) * l5)) + l4).toNatClampNeg) then k137 l1 l3 l4 l5 l6 l7 h else k77 l1 l3 l4 l5 (l6 + (-1 : Int32)) l7 h) else none) else none)) n
theorem x_M_paidOf_l77 (N : Nat) {d : Nat} (hd : 1 ≤ d) (h : sh_H) {Q : ai_Q} {R : Int32 → Prop} (hR : ∀ r, R r → Q (some (aI r)) (sh_E h))  (k137 : Int32 → Int32 → Int32 → Int32 → Int32 → Int32 → sh_H → Option Int32) (hk137 : ∀ (l1 : Int32) (l3 : Int32) (l4 : Int32) (l5 : Int32) (l6 : Int32) (l7 : Int32) {d2 : Option ai_V}, sh_ok (k137 l1 l3 l4 l5 l6 l7 h) R → wq_295 d Q 137 [oR 12 0, oI l1, d2, oI l3, oI l4, oI l5, oI l6, oI l7] [] (sh_E h)) (n : Nat) : ∀ (l1 : Int32) (l3 : Int32) (l4 : Int32) (l5 : Int32) (l6 : Int32) (l7 : Int32) {d2 : Option ai_V}, sh_ok (f_M_paidOf_l77 N k137 n l1 l3 l4 l5 l6 l7 h) R → wq_295 d Q 77 [oR 12 0, oI l1, d2, oI l3, oI l4, oI l5, oI l6, oI l7] [] (sh_E h) := by
  induction n with
  | zero => intro l1 l3 l4 l5 l6 l7 d2 H; exact H.elim
  | succ n ih =>
    intro l1 l3 l4 l5 l6 l7 d2 H
    have hk77 := @ih
    revert hk77 H
    show sh_ok ((fun k77 l1 l3 l4 l5 l6 l7 h => (if ai_in (((((28007 : Int32) * l1) + ((4001 : Int32) * (l5 + (1 : Int32)))) + l4) - (l6 * l7)) 56014 then (if ai_in ((((28007 : Int32) * l1) + ((4001 : Int32) * l5)) + l4) 56014 then (if ((h.1 13 55 (((((28007 : Int32) * l1) + ((4001 : Int32) * (l5 + (1 : Int32)))) + l4) - (l6 * l7)).toNatClampNeg) + l6) = (h.1 13 55 ((((28007 : Int32) * l1) + ((4001 : Int32) * l5)) + l4).toNatClampNeg) then k137 l1 l3 l4 l5 l6 l7 h else k77 l1 l3 l4 l5 (l6 + (-1 : Int32)) l7 h) else none) else none)) (f_M_paidOf_l77 N k137 n) l1 l3 l4 l5 l6 l7 h) R → _
    generalize f_M_paidOf_l77 N k137 n = k77
    intro H hk77
    have c := sh_okG H
    replace H := sh_okH H
    refine ai_WP_steps mc_295 (sh_CM d) 18 (And.intro c ?_)
    show wq_295 d Q 105 [oR 12 0, oI l1, _, oI l3, oI l4, oI l5, oI l6, oI l7] [aI (h.1 13 55 (((((28007 : Int32) * l1) + ((4001 : Int32) * (l5 + (1 : Int32)))) + l4) - (l6 * l7)).toNatClampNeg)] (sh_E h)
    have c := sh_okG H
    replace H := sh_okH H
    refine ai_WP_steps mc_295 (sh_CM d) 14 (And.intro c ?_)
    show wq_295 d Q 128 [oR 12 0, oI l1, _, oI l3, oI l4, oI l5, oI l6, oI l7] [aI (h.1 13 55 ((((28007 : Int32) * l1) + ((4001 : Int32) * l5)) + l4).toNatClampNeg), aI ((h.1 13 55 (((((28007 : Int32) * l1) + ((4001 : Int32) * (l5 + (1 : Int32)))) + l4) - (l6 * l7)).toNatClampNeg) + l6)] (sh_E h)
    refine ai_WP_steps mc_295 (sh_CM d) 1 (And.intro (fun c => ?_) (fun c => ?_))
    · replace H := sh_okT c H
      exact hk137 l1 l3 l4 l5 l6 l7 H
    · replace H := sh_okF c H
      show wq_295 d Q 131 [oR 12 0, oI l1, _, oI l3, oI l4, oI l5, oI l6, oI l7] [] (sh_E h)
      refine ai_WP_steps mc_295 (sh_CM d) 2 ?_
      exact hk77 l1 l3 l4 l5 (l6 + (-1 : Int32)) l7 H
def f_M_paidOf_b147 (N : Nat)  (k6 : Int32 → Int32 → Int32 → Int32 → sh_H → Option Int32) (k153 : Int32 → sh_H → Option Int32) (l1 : Int32) (l3 : Int32) (l4 : Int32) (l5 : Int32) (l6 : Int32) (h : sh_H) : Option Int32 := (if l5 = l3 then k153 l6 h else k6 l1 l3 l4 (l5 + (1 : Int32)) h)
theorem x_M_paidOf_b147 (N : Nat) {d : Nat} (hd : 1 ≤ d) (h : sh_H) {Q : ai_Q} {R : Int32 → Prop} (hR : ∀ r, R r → Q (some (aI r)) (sh_E h))  (k6 : Int32 → Int32 → Int32 → Int32 → sh_H → Option Int32) (hk6 : ∀ (l1 : Int32) (l3 : Int32) (l4 : Int32) (l5 : Int32) {d2 d6 d7 : Option ai_V}, sh_ok (k6 l1 l3 l4 l5 h) R → wq_295 d Q 6 [oR 12 0, oI l1, d2, oI l3, oI l4, oI l5, d6, d7] [] (sh_E h)) (k153 : Int32 → sh_H → Option Int32) (hk153 : ∀ (l6 : Int32) {d0 d1 d2 d3 d4 d5 d7 : Option ai_V}, sh_ok (k153 l6 h) R → wq_295 d Q 153 [d0, d1, d2, d3, d4, d5, oI l6, d7] [] (sh_E h)) (l1 : Int32) (l3 : Int32) (l4 : Int32) (l5 : Int32) (l6 : Int32) {d2 d7 : Option ai_V} (H : sh_ok (f_M_paidOf_b147 N k6 k153 l1 l3 l4 l5 l6 h) R) : wq_295 d Q 147 [oR 12 0, oI l1, d2, oI l3, oI l4, oI l5, oI l6, d7] [] (sh_E h) := by
  refine ai_WP_steps mc_295 (sh_CM d) 3 (And.intro (fun c => ?_) (fun c => ?_))
  · replace H := sh_okT c H
    exact hk153 l6 H
  · replace H := sh_okF c H
    show wq_295 d Q 156 [oR 12 0, oI l1, _, oI l3, oI l4, oI l5, oI l6, _] [] (sh_E h)
    refine ai_WP_steps mc_295 (sh_CM d) 2 ?_
    exact hk6 l1 l3 l4 (l5 + (1 : Int32)) H
def f_M_paidOf_b137 (N : Nat)  (k6 : Int32 → Int32 → Int32 → Int32 → sh_H → Option Int32) (k153 : Int32 → sh_H → Option Int32) (l1 : Int32) (l3 : Int32) (l4 : Int32) (l5 : Int32) (l6 : Int32) (l7 : Int32) (h : sh_H) : Option Int32 := f_M_paidOf_b147 N k6 k153 l1 l3 (l4 - (l6 * l7)) l5 l6 h
theorem x_M_paidOf_b137 (N : Nat) {d : Nat} (hd : 1 ≤ d) (h : sh_H) {Q : ai_Q} {R : Int32 → Prop} (hR : ∀ r, R r → Q (some (aI r)) (sh_E h))  (k6 : Int32 → Int32 → Int32 → Int32 → sh_H → Option Int32) (hk6 : ∀ (l1 : Int32) (l3 : Int32) (l4 : Int32) (l5 : Int32) {d2 d6 d7 : Option ai_V}, sh_ok (k6 l1 l3 l4 l5 h) R → wq_295 d Q 6 [oR 12 0, oI l1, d2, oI l3, oI l4, oI l5, d6, d7] [] (sh_E h)) (k153 : Int32 → sh_H → Option Int32) (hk153 : ∀ (l6 : Int32) {d0 d1 d2 d3 d4 d5 d7 : Option ai_V}, sh_ok (k153 l6 h) R → wq_295 d Q 153 [d0, d1, d2, d3, d4, d5, oI l6, d7] [] (sh_E h)) (l1 : Int32) (l3 : Int32) (l4 : Int32) (l5 : Int32) (l6 : Int32) (l7 : Int32) {d2 : Option ai_V} (H : sh_ok (f_M_paidOf_b137 N k6 k153 l1 l3 l4 l5 l6 l7 h) R) : wq_295 d Q 137 [oR 12 0, oI l1, d2, oI l3, oI l4, oI l5, oI l6, oI l7] [] (sh_E h) := by
  refine ai_WP_steps mc_295 (sh_CM d) 6 ?_
  exact x_M_paidOf_b147 N hd h hR k6 hk6 k153 hk153 l1 l3 (l4 - (l6 * l7)) l5 l6 H
def f_M_paidOf_b75 (N : Nat)  (k6 : Int32 → Int32 → Int32 → Int32 → sh_H → Option Int32) (k153 : Int32 → sh_H → Option Int32) (l1 : Int32) (l3 : Int32) (l4 : Int32) (l5 : Int32) (l7 : Int32) (s0 : Int32) (h : sh_H) : Option Int32 := f_M_paidOf_l77 N (f_M_paidOf_b137 N k6 k153) N l1 l3 l4 l5 s0 l7 h
theorem x_M_paidOf_b75 (N : Nat) {d : Nat} (hd : 1 ≤ d) (h : sh_H) {Q : ai_Q} {R : Int32 → Prop} (hR : ∀ r, R r → Q (some (aI r)) (sh_E h))  (k6 : Int32 → Int32 → Int32 → Int32 → sh_H → Option Int32) (hk6 : ∀ (l1 : Int32) (l3 : Int32) (l4 : Int32) (l5 : Int32) {d2 d6 d7 : Option ai_V}, sh_ok (k6 l1 l3 l4 l5 h) R → wq_295 d Q 6 [oR 12 0, oI l1, d2, oI l3, oI l4, oI l5, d6, d7] [] (sh_E h)) (k153 : Int32 → sh_H → Option Int32) (hk153 : ∀ (l6 : Int32) {d0 d1 d2 d3 d4 d5 d7 : Option ai_V}, sh_ok (k153 l6 h) R → wq_295 d Q 153 [d0, d1, d2, d3, d4, d5, oI l6, d7] [] (sh_E h)) (l1 : Int32) (l3 : Int32) (l4 : Int32) (l5 : Int32) (l7 : Int32) (s0 : Int32) {d2 d6 : Option ai_V} (H : sh_ok (f_M_paidOf_b75 N k6 k153 l1 l3 l4 l5 l7 s0 h) R) : wq_295 d Q 75 [oR 12 0, oI l1, d2, oI l3, oI l4, oI l5, d6, oI l7] [aI s0] (sh_E h) := by
  refine ai_WP_steps mc_295 (sh_CM d) 1 ?_
  exact x_M_paidOf_l77 N hd h hR (f_M_paidOf_b137 N k6 k153) (fun z0 z1 z2 z3 z4 z5 {e2} H => x_M_paidOf_b137 N hd h hR k6 hk6 k153 hk153 z0 z1 z2 z3 z4 z5 H) N l1 l3 l4 l5 s0 l7 H
def f_M_paidOf_l6 (N : Nat)  (k153 : Int32 → sh_H → Option Int32) (k162 : sh_H → Option Int32) (n : Nat) : Int32 → Int32 → Int32 → Int32 → sh_H → Option Int32 := Nat.rec (motive := fun _ => Int32 → Int32 → Int32 → Int32 → sh_H → Option Int32) (fun _ _ _ _ _ => none) (fun _ k6 l1 l3 l4 l5 h => (if l5 < (6 : Int32) then (if ai_in (0 : Int32) 8000 then (if l5 < (h.1 13 46 (0 : Int32).toNatClampNeg) then (Option.bind (f_M_worth l5 h) (fun v1 => (if ¬ v1 = 0 then (if ai_in (((6 : Int32) * l1) + l5) 12 then (if (l4 / v1) < (h.1 13 54 (((6 : Int32) * l1) + l5).toNatClampNeg) then (if ¬ v1 = 0 then f_M_paidOf_b75 N k6 k153 l1 l3 l4 l5 v1 (l4 / v1) h else none) else (if ai_in (((6 : Int32) * l1) + l5) 12 then f_M_paidOf_b75 N k6 k153 l1 l3 l4 l5 v1 (h.1 13 54 (((6 : Int32) * l1) + l5).toNatClampNeg) h else none)) else none) else none))) else f_M_paidOf_b147 N k6 k153 l1 l3 l4 l5 (0 : Int32) h) else none) else k162 h)) n
theorem x_M_paidOf_l6 (N : Nat) {d : Nat} (hd : 1 ≤ d) (h : sh_H) {Q : ai_Q} {R : Int32 → Prop} (hR : ∀ r, R r → Q (some (aI r)) (sh_E h))  (k153 : Int32 → sh_H → Option Int32) (hk153 : ∀ (l6 : Int32) {d0 d1 d2 d3 d4 d5 d7 : Option ai_V}, sh_ok (k153 l6 h) R → wq_295 d Q 153 [d0, d1, d2, d3, d4, d5, oI l6, d7] [] (sh_E h)) (k162 : sh_H → Option Int32) (hk162 : ∀ {d0 d1 d2 d3 d4 d5 d6 d7 : Option ai_V}, sh_ok (k162 h) R → wq_295 d Q 162 [d0, d1, d2, d3, d4, d5, d6, d7] [] (sh_E h)) (n : Nat) : ∀ (l1 : Int32) (l3 : Int32) (l4 : Int32) (l5 : Int32) {d2 d6 d7 : Option ai_V}, sh_ok (f_M_paidOf_l6 N k153 k162 n l1 l3 l4 l5 h) R → wq_295 d Q 6 [oR 12 0, oI l1, d2, oI l3, oI l4, oI l5, d6, d7] [] (sh_E h) := by
  induction n with
  | zero => intro l1 l3 l4 l5 d2 d6 d7 H; exact H.elim
  | succ n ih =>
    intro l1 l3 l4 l5 d2 d6 d7 H
    have hk6 := @ih
    revert hk6 H
    show sh_ok ((fun k6 l1 l3 l4 l5 h => (if l5 < (6 : Int32) then (if ai_in (0 : Int32) 8000 then (if l5 < (h.1 13 46 (0 : Int32).toNatClampNeg) then (Option.bind (f_M_worth l5 h) (fun v1 => (if ¬ v1 = 0 then (if ai_in (((6 : Int32) * l1) + l5) 12 then (if (l4 / v1) < (h.1 13 54 (((6 : Int32) * l1) + l5).toNatClampNeg) then (if ¬ v1 = 0 then f_M_paidOf_b75 N k6 k153 l1 l3 l4 l5 v1 (l4 / v1) h else none) else (if ai_in (((6 : Int32) * l1) + l5) 12 then f_M_paidOf_b75 N k6 k153 l1 l3 l4 l5 v1 (h.1 13 54 (((6 : Int32) * l1) + l5).toNatClampNeg) h else none)) else none) else none))) else f_M_paidOf_b147 N k6 k153 l1 l3 l4 l5 (0 : Int32) h) else none) else k162 h)) (f_M_paidOf_l6 N k153 k162 n) l1 l3 l4 l5 h) R → _
    generalize f_M_paidOf_l6 N k153 k162 n = k6
    intro H hk6
    refine ai_WP_steps mc_295 (sh_CM d) 3 (And.intro (fun c => ?_) (fun c => ?_))
    · replace H := sh_okT c H
      show wq_295 d Q 13 [oR 12 0, oI l1, _, oI l3, oI l4, oI l5, _, _] [] (sh_E h)
      have c := sh_okG H
      replace H := sh_okH H
      refine ai_WP_steps mc_295 (sh_CM d) 7 (And.intro c ?_)
      show wq_295 d Q 24 [oR 12 0, oI l1, _, oI l3, oI l4, oI l5, oI (0 : Int32), _] [aI (h.1 13 46 (0 : Int32).toNatClampNeg), aI l5] (sh_E h)
      refine ai_WP_steps mc_295 (sh_CM d) 1 (And.intro (fun c => ?_) (fun c => ?_))
      · replace H := sh_okT c H
        show wq_295 d Q 27 [oR 12 0, oI l1, _, oI l3, oI l4, oI l5, oI (0 : Int32), _] [] (sh_E h)
        refine ai_WP_steps mc_295 (sh_CM d) 3 (And.intro (Nat.le_of_ble_eq_true rfl) (x_M_worth (Nat.le_trans (Nat.le_of_ble_eq_true rfl) hd) l5 h (sh_okB H) (fun v1 H => ?_)))
        show wq_295 d Q 33 [oR 12 0, oI l1, _, oI l3, oI l4, oI l5, oI (0 : Int32), _] [aI v1] (sh_E h)
        have c := sh_okG H
        replace H := sh_okH H
        refine ai_WP_steps mc_295 (sh_CM d) 4 (And.intro c ?_)
        show wq_295 d Q 40 [oR 12 0, oI l1, _, oI l3, oI l4, oI l5, _, oI v1] [aI (l4 / v1)] (sh_E h)
        have c := sh_okG H
        replace H := sh_okH H
        refine ai_WP_steps mc_295 (sh_CM d) 8 (And.intro c ?_)
        show wq_295 d Q 52 [oR 12 0, oI l1, _, oI l3, oI l4, oI l5, _, oI v1] [aI (h.1 13 54 (((6 : Int32) * l1) + l5).toNatClampNeg), aI (l4 / v1)] (sh_E h)
        refine ai_WP_steps mc_295 (sh_CM d) 1 (And.intro (fun c => ?_) (fun c => ?_))
        · replace H := sh_okT c H
          show wq_295 d Q 55 [oR 12 0, oI l1, _, oI l3, oI l4, oI l5, _, oI v1] [] (sh_E h)
          have c := sh_okG H
          replace H := sh_okH H
          refine ai_WP_steps mc_295 (sh_CM d) 3 (And.intro c ?_)
          show wq_295 d Q 60 [oR 12 0, oI l1, _, oI l3, oI l4, oI l5, _, oI v1] [aI (l4 / v1)] (sh_E h)
          refine ai_WP_steps mc_295 (sh_CM d) 1 ?_
          exact x_M_paidOf_b75 N hd h hR k6 hk6 k153 hk153 l1 l3 l4 l5 v1 (l4 / v1) H
        · replace H := sh_okF c H
          show wq_295 d Q 63 [oR 12 0, oI l1, _, oI l3, oI l4, oI l5, _, oI v1] [] (sh_E h)
          have c := sh_okG H
          replace H := sh_okH H
          refine ai_WP_steps mc_295 (sh_CM d) 8 (And.intro c ?_)
          show wq_295 d Q 75 [oR 12 0, oI l1, _, oI l3, oI l4, oI l5, _, oI v1] [aI (h.1 13 54 (((6 : Int32) * l1) + l5).toNatClampNeg)] (sh_E h)
          exact x_M_paidOf_b75 N hd h hR k6 hk6 k153 hk153 l1 l3 l4 l5 v1 (h.1 13 54 (((6 : Int32) * l1) + l5).toNatClampNeg) H
      · replace H := sh_okF c H
        exact x_M_paidOf_b147 N hd h hR k6 hk6 k153 hk153 l1 l3 l4 l5 (0 : Int32) H
    · replace H := sh_okF c H
      exact hk162 H
def f_M_paidOf_b153 (N : Nat)   (l6 : Int32) (h : sh_H) : Option Int32 := (some l6)
theorem x_M_paidOf_b153 (N : Nat) {d : Nat} (hd : 1 ≤ d) (h : sh_H) {Q : ai_Q} {R : Int32 → Prop} (hR : ∀ r, R r → Q (some (aI r)) (sh_E h))   (l6 : Int32) {d0 d1 d2 d3 d4 d5 d7 : Option ai_V} (H : sh_ok (f_M_paidOf_b153 N l6 h) R) : wq_295 d Q 153 [d0, d1, d2, d3, d4, d5, oI l6, d7] [] (sh_E h) := by
  exact ai_WP_steps mc_295 (sh_CM d) 2 (hR l6 H)
def f_M_paidOf_b162 (N : Nat)    (h : sh_H) : Option Int32 := (some (0 : Int32))
theorem x_M_paidOf_b162 (N : Nat) {d : Nat} (hd : 1 ≤ d) (h : sh_H) {Q : ai_Q} {R : Int32 → Prop} (hR : ∀ r, R r → Q (some (aI r)) (sh_E h))    {d0 d1 d2 d3 d4 d5 d6 d7 : Option ai_V} (H : sh_ok (f_M_paidOf_b162 N h) R) : wq_295 d Q 162 [d0, d1, d2, d3, d4, d5, d6, d7] [] (sh_E h) := by
  exact ai_WP_steps mc_295 (sh_CM d) 2 (hR (0 : Int32) H)
def f_M_paidOf (N : Nat)  (l1 : Int32) (l2 : Int32) (l3 : Int32) (h : sh_H) : Option Int32 := f_M_paidOf_l6 N (f_M_paidOf_b153 N) (f_M_paidOf_b162 N) N l1 l3 l2 (0 : Int32) h
theorem x_M_paidOf (N : Nat) {d : Nat} (hd : 2 ≤ d) (l1 : Int32) (l2 : Int32) (l3 : Int32) (h : sh_H) {Q : ai_Q} {R : Int32 → Prop} (H : sh_ok (f_M_paidOf N l1 l2 l3 h) R) (hR : ∀ r, R r → Q (some (aI r)) (sh_E h)) : ai_Ex sh_T d 295 [aR 12 0, aI l1, aI l2, aI l3] (sh_E h) Q := by
  obtain ⟨d, rfl⟩ : ∃ e, d = e + 1 := ⟨d - 1, by omega⟩
  replace hd : 1 ≤ d := by omega
  refine And.intro (Nat.le_of_ble_eq_true rfl) ?_
  show wq_295 d Q 0 [oR 12 0, oI l1, oI l2, oI l3, none, none, none, none] [] (sh_E h)
  refine ai_WP_steps mc_295 (sh_CM d) 4 ?_
  exact x_M_paidOf_l6 N hd h hR (f_M_paidOf_b153 N) (fun z0 {e0} {e1} {e2} {e3} {e4} {e5} {e7} H => x_M_paidOf_b153 N hd h hR z0 H) (f_M_paidOf_b162 N) (fun {e0} {e1} {e2} {e3} {e4} {e5} {e6} {e7} H => x_M_paidOf_b162 N hd h hR  H) N l1 l3 l2 (0 : Int32) H
def f_M_pay_l39 (N : Nat)  (k66 : Int32 → Int32 → sh_H → Option (Int32 × sh_H)) (n : Nat) : Int32 → Int32 → Int32 → Int32 → sh_H → Option (Int32 × sh_H) := Nat.rec (motive := fun _ => Int32 → Int32 → Int32 → Int32 → sh_H → Option (Int32 × sh_H)) (fun _ _ _ _ _ => none) (fun _ k39 l1 l2 l3 l4 h => (if l4 < (6 : Int32) then (Option.bind (f_M_all N l1 l4 h) (fun v1 => (if ai_in l4 12 then (sh_let (sh_pI h 13 54 l4.toNatClampNeg v1) (fun h2 => k39 l1 l2 l3 (l4 + (1 : Int32)) h2)) else none))) else k66 l2 l3 h)) n
theorem x_M_pay_l39 (N : Nat) {d : Nat} (hd : 3 ≤ d) {Q : ai_Q} {R : Int32 × sh_H → Prop} (hR : ∀ r h, R (r, h) → Q (some (aI r)) (sh_E h))  (k66 : Int32 → Int32 → sh_H → Option (Int32 × sh_H)) (hk66 : ∀ (l2 : Int32) (l3 : Int32) {d1 d4 : Option ai_V} (h : sh_H), sh_ok (k66 l2 l3 h) R → wq_296 d Q 66 [oR 12 0, d1, oI l2, oI l3, d4] [] (sh_E h)) (n : Nat) : ∀ (l1 : Int32) (l2 : Int32) (l3 : Int32) (l4 : Int32) (h : sh_H), sh_ok (f_M_pay_l39 N k66 n l1 l2 l3 l4 h) R → wq_296 d Q 39 [oR 12 0, oI l1, oI l2, oI l3, oI l4] [] (sh_E h) := by
  induction n with
  | zero => intro l1 l2 l3 l4 h H; exact H.elim
  | succ n ih =>
    intro l1 l2 l3 l4 h H
    have hk39 := @ih
    revert hk39 H
    show sh_ok ((fun k39 l1 l2 l3 l4 h => (if l4 < (6 : Int32) then (Option.bind (f_M_all N l1 l4 h) (fun v1 => (if ai_in l4 12 then (sh_let (sh_pI h 13 54 l4.toNatClampNeg v1) (fun h2 => k39 l1 l2 l3 (l4 + (1 : Int32)) h2)) else none))) else k66 l2 l3 h)) (f_M_pay_l39 N k66 n) l1 l2 l3 l4 h) R → _
    generalize f_M_pay_l39 N k66 n = k39
    intro H hk39
    refine ai_WP_steps mc_296 (sh_CM d) 3 (And.intro (fun c => ?_) (fun c => ?_))
    · replace H := sh_okT c H
      show wq_296 d Q 46 [oR 12 0, oI l1, oI l2, oI l3, oI l4] [] (sh_E h)
      refine ai_WP_steps mc_296 (sh_CM d) 7 (And.intro (Nat.le_of_ble_eq_true rfl) (x_M_all N (Nat.le_trans (Nat.le_of_ble_eq_true rfl) hd) l1 l4 h (sh_okB H) (fun v1 H => ?_)))
      show wq_296 d Q 59 [oR 12 0, oI l1, oI l2, oI l3, oI l4] [aI v1, aI l4, aR 13 54] (sh_E h)
      have c := sh_okG H
      replace H := sh_okH H
      refine ai_WP_steps mc_296 (sh_CM d) 1 (And.intro c ?_)
      show wq_296 d Q 60 [oR 12 0, oI l1, oI l2, oI l3, oI l4] [] (sh_E (sh_pI h 13 54 l4.toNatClampNeg v1))
      replace H := sh_okL H
      generalize sh_pI h 13 54 l4.toNatClampNeg v1 = h2 at H ⊢
      refine ai_WP_steps mc_296 (sh_CM d) 2 ?_
      exact hk39 l1 l2 l3 (l4 + (1 : Int32)) h2 H
    · replace H := sh_okF c H
      exact hk66 l2 l3 h H
def f_M_pay_b66 (N : Nat)   (l2 : Int32) (l3 : Int32) (h : sh_H) : Option (Int32 × sh_H) := (Option.bind (f_M_layFewest N (0 : Int32) l2 h) (fun h3 => (Option.bind (f_M_fewestOf (0 : Int32) l2 h3) (fun v4 => (if v4 < (1000000 : Int32) then (if l3 = 0 then (Option.bind (f_M_fewestOf (0 : Int32) l2 h3) (fun v5 => (some (v5, h3)))) else (Option.bind (f_M_paidOf N (0 : Int32) l2 (l3 - (10 : Int32)) h3) (fun v6 => (some (v6, h3))))) else (some ((-2 : Int32), h3)))))))
theorem x_M_pay_b66 (N : Nat) {d : Nat} (hd : 3 ≤ d) {Q : ai_Q} {R : Int32 × sh_H → Prop} (hR : ∀ r h, R (r, h) → Q (some (aI r)) (sh_E h))   (l2 : Int32) (l3 : Int32) {d1 d4 : Option ai_V} (h : sh_H) (H : sh_ok (f_M_pay_b66 N l2 l3 h) R) : wq_296 d Q 66 [oR 12 0, d1, oI l2, oI l3, d4] [] (sh_E h) := by
  refine ai_WP_steps mc_296 (sh_CM d) 4 (And.intro (Nat.le_of_ble_eq_true rfl) (x_M_layFewest N (Nat.le_trans (Nat.le_of_ble_eq_true rfl) hd) (0 : Int32) l2 h (sh_okB H) (fun h3 H => ?_)))
  show wq_296 d Q 72 [oR 12 0, _, oI l2, oI l3, _] [] (sh_E h3)
  refine ai_WP_steps mc_296 (sh_CM d) 4 (And.intro (Nat.le_of_ble_eq_true rfl) (x_M_fewestOf (Nat.le_trans (Nat.le_of_ble_eq_true rfl) hd) (0 : Int32) l2 h3 (sh_okB H) (fun v4 H => ?_)))
  show wq_296 d Q 78 [oR 12 0, _, oI l2, oI l3, _] [aI v4] (sh_E h3)
  refine ai_WP_steps mc_296 (sh_CM d) 2 (And.intro (fun c => ?_) (fun c => ?_))
  · replace H := sh_okT c H
    show wq_296 d Q 87 [oR 12 0, _, oI l2, oI l3, _] [] (sh_E h3)
    refine ai_WP_steps mc_296 (sh_CM d) 2 (And.intro (fun c => ?_) (fun c => ?_))
    · replace H := sh_okT c H
      show wq_296 d Q 91 [oR 12 0, _, oI l2, oI l3, _] [] (sh_E h3)
      refine ai_WP_steps mc_296 (sh_CM d) 4 (And.intro (Nat.le_of_ble_eq_true rfl) (x_M_fewestOf (Nat.le_trans (Nat.le_of_ble_eq_true rfl) hd) (0 : Int32) l2 h3 (sh_okB H) (fun v5 H => ?_)))
      show wq_296 d Q 97 [oR 12 0, _, oI l2, oI l3, _] [aI v5] (sh_E h3)
      exact ai_WP_steps mc_296 (sh_CM d) 2 (hR v5 h3 H)
    · replace H := sh_okF c H
      show wq_296 d Q 100 [oR 12 0, _, oI l2, oI l3, _] [] (sh_E h3)
      refine ai_WP_steps mc_296 (sh_CM d) 7 (And.intro (Nat.le_of_ble_eq_true rfl) (x_M_paidOf N (Nat.le_trans (Nat.le_of_ble_eq_true rfl) hd) (0 : Int32) l2 (l3 - (10 : Int32)) h3 (sh_okB H) (fun v6 H => ?_)))
      show wq_296 d Q 110 [oR 12 0, _, oI l2, oI l3, _] [aI v6] (sh_E h3)
      exact ai_WP_steps mc_296 (sh_CM d) 1 (hR v6 h3 H)
  · replace H := sh_okF c H
    show wq_296 d Q 84 [oR 12 0, _, oI l2, oI l3, _] [] (sh_E h3)
    exact ai_WP_steps mc_296 (sh_CM d) 2 (hR (-2 : Int32) h3 H)
def f_M_pay_b36 (N : Nat)   (l1 : Int32) (l2 : Int32) (l3 : Int32) (h : sh_H) : Option (Int32 × sh_H) := f_M_pay_l39 N (f_M_pay_b66 N) N l1 l2 l3 (0 : Int32) h
theorem x_M_pay_b36 (N : Nat) {d : Nat} (hd : 3 ≤ d) {Q : ai_Q} {R : Int32 × sh_H → Prop} (hR : ∀ r h, R (r, h) → Q (some (aI r)) (sh_E h))   (l1 : Int32) (l2 : Int32) (l3 : Int32) {d4 : Option ai_V} (h : sh_H) (H : sh_ok (f_M_pay_b36 N l1 l2 l3 h) R) : wq_296 d Q 36 [oR 12 0, oI l1, oI l2, oI l3, d4] [] (sh_E h) := by
  refine ai_WP_steps mc_296 (sh_CM d) 2 ?_
  exact x_M_pay_l39 N hd hR (f_M_pay_b66 N) (fun z0 z1 {e1} {e4} h H => x_M_pay_b66 N hd hR z0 z1 h H) N l1 l2 l3 (0 : Int32) h H
def f_M_pay (N : Nat)  (l1 : Int32) (l2 : Int32) (l3 : Int32) (h : sh_H) : Option (Int32 × sh_H) := (Option.bind (f_M_isPlace l1 h) (fun v7 => (if v7 = 0 then (some ((-1 : Int32), h)) else (Option.bind (f_M_isIn l2 (1 : Int32) (2000 : Int32) h) (fun v8 => (if v8 = 0 then (some ((-1 : Int32), h)) else (if l3 = 0 then f_M_pay_b36 N l1 l2 l3 h else (Option.bind (f_M_isKind (l3 - (10 : Int32)) h) (fun v9 => (if v9 = 0 then (some ((-1 : Int32), h)) else f_M_pay_b36 N l1 l2 l3 h))))))))))
theorem x_M_pay (N : Nat) {d : Nat} (hd : 4 ≤ d) (l1 : Int32) (l2 : Int32) (l3 : Int32) (h : sh_H) {Q : ai_Q} {R : Int32 × sh_H → Prop} (H : sh_ok (f_M_pay N l1 l2 l3 h) R) (hR : ∀ r h, R (r, h) → Q (some (aI r)) (sh_E h)) : ai_Ex sh_T d 296 [aR 12 0, aI l1, aI l2, aI l3] (sh_E h) Q := by
  obtain ⟨d, rfl⟩ : ∃ e, d = e + 1 := ⟨d - 1, by omega⟩
  replace hd : 3 ≤ d := by omega
  refine And.intro (Nat.le_of_ble_eq_true rfl) ?_
  show wq_296 d Q 0 [oR 12 0, oI l1, oI l2, oI l3, none] [] (sh_E h)
  refine ai_WP_steps mc_296 (sh_CM d) 3 (And.intro (Nat.le_of_ble_eq_true rfl) (x_M_isPlace (Nat.le_trans (Nat.le_of_ble_eq_true rfl) hd) l1 h (sh_okB H) (fun v7 H => ?_)))
  show wq_296 d Q 5 [oR 12 0, oI l1, oI l2, oI l3, _] [aI v7] (sh_E h)
  refine ai_WP_steps mc_296 (sh_CM d) 1 (And.intro (fun c => ?_) (fun c => ?_))
  · replace H := sh_okT c H
    show wq_296 d Q 34 [oR 12 0, oI l1, oI l2, oI l3, _] [] (sh_E h)
    exact ai_WP_steps mc_296 (sh_CM d) 2 (hR (-1 : Int32) h H)
  · replace H := sh_okF c H
    show wq_296 d Q 8 [oR 12 0, oI l1, oI l2, oI l3, _] [] (sh_E h)
    refine ai_WP_steps mc_296 (sh_CM d) 4 (And.intro (Nat.le_of_ble_eq_true rfl) (x_M_isIn (Nat.le_trans (Nat.le_of_ble_eq_true rfl) hd) l2 (1 : Int32) (2000 : Int32) h (sh_okB H) (fun v8 H => ?_)))
    show wq_296 d Q 16 [oR 12 0, oI l1, oI l2, oI l3, _] [aI v8] (sh_E h)
    refine ai_WP_steps mc_296 (sh_CM d) 1 (And.intro (fun c => ?_) (fun c => ?_))
    · replace H := sh_okT c H
      show wq_296 d Q 34 [oR 12 0, oI l1, oI l2, oI l3, _] [] (sh_E h)
      exact ai_WP_steps mc_296 (sh_CM d) 2 (hR (-1 : Int32) h H)
    · replace H := sh_okF c H
      show wq_296 d Q 19 [oR 12 0, oI l1, oI l2, oI l3, _] [] (sh_E h)
      refine ai_WP_steps mc_296 (sh_CM d) 2 (And.intro (fun c => ?_) (fun c => ?_))
      · replace H := sh_okT c H
        exact x_M_pay_b36 N hd hR l1 l2 l3 h H
      · replace H := sh_okF c H
        show wq_296 d Q 23 [oR 12 0, oI l1, oI l2, oI l3, _] [] (sh_E h)
        refine ai_WP_steps mc_296 (sh_CM d) 5 (And.intro (Nat.le_of_ble_eq_true rfl) (x_M_isKind (Nat.le_trans (Nat.le_of_ble_eq_true rfl) hd) (l3 - (10 : Int32)) h (sh_okB H) (fun v9 H => ?_)))
        show wq_296 d Q 31 [oR 12 0, oI l1, oI l2, oI l3, _] [aI v9] (sh_E h)
        refine ai_WP_steps mc_296 (sh_CM d) 1 (And.intro (fun c => ?_) (fun c => ?_))
        · replace H := sh_okT c H
          show wq_296 d Q 34 [oR 12 0, oI l1, oI l2, oI l3, _] [] (sh_E h)
          exact ai_WP_steps mc_296 (sh_CM d) 2 (hR (-1 : Int32) h H)
        · replace H := sh_okF c H
          exact x_M_pay_b36 N hd hR l1 l2 l3 h H
def f_M_change_l63 (N : Nat)  (k101 : Int32 → Int32 → sh_H → Option (Int32 × sh_H)) (n : Nat) : Int32 → Int32 → Int32 → Int32 → Int32 → sh_H → Option (Int32 × sh_H) := Nat.rec (motive := fun _ => Int32 → Int32 → Int32 → Int32 → Int32 → sh_H → Option (Int32 × sh_H)) (fun _ _ _ _ _ _ => none) (fun _ k63 l1 l2 l3 l4 l5 h => (if l5 < (6 : Int32) then (if ai_in l5 12 then (sh_let (sh_pI h 13 54 l5.toNatClampNeg l3) (fun h1 => (Option.bind (f_M_all N l1 l5 h1) (fun v2 => (if ai_in ((6 : Int32) + l5) 12 then (sh_let (sh_pI h1 13 54 ((6 : Int32) + l5).toNatClampNeg v2) (fun h3 => k63 l1 l2 l3 l4 (l5 + (1 : Int32)) h3)) else none))))) else none) else k101 l2 l4 h)) n
theorem x_M_change_l63 (N : Nat) {d : Nat} (hd : 3 ≤ d) {Q : ai_Q} {R : Int32 × sh_H → Prop} (hR : ∀ r h, R (r, h) → Q (some (aI r)) (sh_E h))  (k101 : Int32 → Int32 → sh_H → Option (Int32 × sh_H)) (hk101 : ∀ (l2 : Int32) (l4 : Int32) {d1 d3 d5 d6 d7 d8 : Option ai_V} (h : sh_H), sh_ok (k101 l2 l4 h) R → wq_297 d Q 101 [oR 12 0, d1, oI l2, d3, oI l4, d5, d6, d7, d8] [] (sh_E h)) (n : Nat) : ∀ (l1 : Int32) (l2 : Int32) (l3 : Int32) (l4 : Int32) (l5 : Int32) {d6 d7 d8 : Option ai_V} (h : sh_H), sh_ok (f_M_change_l63 N k101 n l1 l2 l3 l4 l5 h) R → wq_297 d Q 63 [oR 12 0, oI l1, oI l2, oI l3, oI l4, oI l5, d6, d7, d8] [] (sh_E h) := by
  induction n with
  | zero => intro l1 l2 l3 l4 l5 d6 d7 d8 h H; exact H.elim
  | succ n ih =>
    intro l1 l2 l3 l4 l5 d6 d7 d8 h H
    have hk63 := @ih
    revert hk63 H
    show sh_ok ((fun k63 l1 l2 l3 l4 l5 h => (if l5 < (6 : Int32) then (if ai_in l5 12 then (sh_let (sh_pI h 13 54 l5.toNatClampNeg l3) (fun h1 => (Option.bind (f_M_all N l1 l5 h1) (fun v2 => (if ai_in ((6 : Int32) + l5) 12 then (sh_let (sh_pI h1 13 54 ((6 : Int32) + l5).toNatClampNeg v2) (fun h3 => k63 l1 l2 l3 l4 (l5 + (1 : Int32)) h3)) else none))))) else none) else k101 l2 l4 h)) (f_M_change_l63 N k101 n) l1 l2 l3 l4 l5 h) R → _
    generalize f_M_change_l63 N k101 n = k63
    intro H hk63
    refine ai_WP_steps mc_297 (sh_CM d) 3 (And.intro (fun c => ?_) (fun c => ?_))
    · replace H := sh_okT c H
      show wq_297 d Q 70 [oR 12 0, oI l1, oI l2, oI l3, oI l4, oI l5, _, _, _] [] (sh_E h)
      have c := sh_okG H
      replace H := sh_okH H
      refine ai_WP_steps mc_297 (sh_CM d) 5 (And.intro c ?_)
      show wq_297 d Q 78 [oR 12 0, oI l1, oI l2, oI l3, oI l4, oI l5, _, _, _] [] (sh_E (sh_pI h 13 54 l5.toNatClampNeg l3))
      replace H := sh_okL H
      generalize sh_pI h 13 54 l5.toNatClampNeg l3 = h1 at H ⊢
      refine ai_WP_steps mc_297 (sh_CM d) 9 (And.intro (Nat.le_of_ble_eq_true rfl) (x_M_all N (Nat.le_trans (Nat.le_of_ble_eq_true rfl) hd) l1 l5 h1 (sh_okB H) (fun v2 H => ?_)))
      show wq_297 d Q 94 [oR 12 0, oI l1, oI l2, oI l3, oI l4, oI l5, _, _, _] [aI v2, aI ((6 : Int32) + l5), aR 13 54] (sh_E h1)
      have c := sh_okG H
      replace H := sh_okH H
      refine ai_WP_steps mc_297 (sh_CM d) 1 (And.intro c ?_)
      show wq_297 d Q 95 [oR 12 0, oI l1, oI l2, oI l3, oI l4, oI l5, _, _, _] [] (sh_E (sh_pI h1 13 54 ((6 : Int32) + l5).toNatClampNeg v2))
      replace H := sh_okL H
      generalize sh_pI h1 13 54 ((6 : Int32) + l5).toNatClampNeg v2 = h3 at H ⊢
      refine ai_WP_steps mc_297 (sh_CM d) 2 ?_
      exact hk63 l1 l2 l3 l4 (l5 + (1 : Int32)) h3 H
    · replace H := sh_okF c H
      exact hk101 l2 l4 h H
def f_M_change_b175 (N : Nat)  (k130 : Int32 → Int32 → Int32 → Int32 → Int32 → sh_H → Option (Int32 × sh_H)) (l2 : Int32) (l4 : Int32) (l5 : Int32) (l6 : Int32) (l7 : Int32) (h : sh_H) : Option (Int32 × sh_H) := k130 l2 l4 l5 l6 (l7 + (1 : Int32)) h
theorem x_M_change_b175 (N : Nat) {d : Nat} (hd : 3 ≤ d) {Q : ai_Q} {R : Int32 × sh_H → Prop} (hR : ∀ r h, R (r, h) → Q (some (aI r)) (sh_E h))  (k130 : Int32 → Int32 → Int32 → Int32 → Int32 → sh_H → Option (Int32 × sh_H)) (hk130 : ∀ (l2 : Int32) (l4 : Int32) (l5 : Int32) (l6 : Int32) (l7 : Int32) {d1 d3 d8 : Option ai_V} (h : sh_H), sh_ok (k130 l2 l4 l5 l6 l7 h) R → wq_297 d Q 130 [oR 12 0, d1, oI l2, d3, oI l4, oI l5, oI l6, oI l7, d8] [] (sh_E h)) (l2 : Int32) (l4 : Int32) (l5 : Int32) (l6 : Int32) (l7 : Int32) {d1 d3 d8 : Option ai_V} (h : sh_H) (H : sh_ok (f_M_change_b175 N k130 l2 l4 l5 l6 l7 h) R) : wq_297 d Q 175 [oR 12 0, d1, oI l2, d3, oI l4, oI l5, oI l6, oI l7, d8] [] (sh_E h) := by
  refine ai_WP_steps mc_297 (sh_CM d) 2 ?_
  exact hk130 l2 l4 l5 l6 (l7 + (1 : Int32)) h H
def f_M_change_l130 (N : Nat)  (k181 : Int32 → Int32 → Int32 → Int32 → sh_H → Option (Int32 × sh_H)) (n : Nat) : Int32 → Int32 → Int32 → Int32 → Int32 → sh_H → Option (Int32 × sh_H) := Nat.rec (motive := fun _ => Int32 → Int32 → Int32 → Int32 → Int32 → sh_H → Option (Int32 × sh_H)) (fun _ _ _ _ _ _ => none) (fun _ k130 l2 l4 l5 l6 l7 h => (if (4000 : Int32) < l7 then k181 l2 l4 l5 l6 h else (Option.bind (f_M_fewestOf (0 : Int32) l7 h) (fun v4 => (Option.bind (f_M_fewestOf (1 : Int32) (l7 - l2) h) (fun v5 => (if (v4 + v5) < l5 then f_M_change_b175 N k130 l2 l4 (v4 + v5) l7 l7 h else f_M_change_b175 N k130 l2 l4 l5 l6 l7 h))))))) n
theorem x_M_change_l130 (N : Nat) {d : Nat} (hd : 3 ≤ d) {Q : ai_Q} {R : Int32 × sh_H → Prop} (hR : ∀ r h, R (r, h) → Q (some (aI r)) (sh_E h))  (k181 : Int32 → Int32 → Int32 → Int32 → sh_H → Option (Int32 × sh_H)) (hk181 : ∀ (l2 : Int32) (l4 : Int32) (l5 : Int32) (l6 : Int32) {d1 d3 d7 d8 : Option ai_V} (h : sh_H), sh_ok (k181 l2 l4 l5 l6 h) R → wq_297 d Q 181 [oR 12 0, d1, oI l2, d3, oI l4, oI l5, oI l6, d7, d8] [] (sh_E h)) (n : Nat) : ∀ (l2 : Int32) (l4 : Int32) (l5 : Int32) (l6 : Int32) (l7 : Int32) {d1 d3 d8 : Option ai_V} (h : sh_H), sh_ok (f_M_change_l130 N k181 n l2 l4 l5 l6 l7 h) R → wq_297 d Q 130 [oR 12 0, d1, oI l2, d3, oI l4, oI l5, oI l6, oI l7, d8] [] (sh_E h) := by
  induction n with
  | zero => intro l2 l4 l5 l6 l7 d1 d3 d8 h H; exact H.elim
  | succ n ih =>
    intro l2 l4 l5 l6 l7 d1 d3 d8 h H
    have hk130 := @ih
    revert hk130 H
    show sh_ok ((fun k130 l2 l4 l5 l6 l7 h => (if (4000 : Int32) < l7 then k181 l2 l4 l5 l6 h else (Option.bind (f_M_fewestOf (0 : Int32) l7 h) (fun v4 => (Option.bind (f_M_fewestOf (1 : Int32) (l7 - l2) h) (fun v5 => (if (v4 + v5) < l5 then f_M_change_b175 N k130 l2 l4 (v4 + v5) l7 l7 h else f_M_change_b175 N k130 l2 l4 l5 l6 l7 h))))))) (f_M_change_l130 N k181 n) l2 l4 l5 l6 l7 h) R → _
    generalize f_M_change_l130 N k181 n = k130
    intro H hk130
    refine ai_WP_steps mc_297 (sh_CM d) 3 (And.intro (fun c => ?_) (fun c => ?_))
    · replace H := sh_okT c H
      exact hk181 l2 l4 l5 l6 h H
    · replace H := sh_okF c H
      show wq_297 d Q 138 [oR 12 0, _, oI l2, _, oI l4, oI l5, oI l6, oI l7, _] [] (sh_E h)
      refine ai_WP_steps mc_297 (sh_CM d) 4 (And.intro (Nat.le_of_ble_eq_true rfl) (x_M_fewestOf (Nat.le_trans (Nat.le_of_ble_eq_true rfl) hd) (0 : Int32) l7 h (sh_okB H) (fun v4 H => ?_)))
      show wq_297 d Q 145 [oR 12 0, _, oI l2, _, oI l4, oI l5, oI l6, oI l7, _] [aI v4] (sh_E h)
      refine ai_WP_steps mc_297 (sh_CM d) 6 (And.intro (Nat.le_of_ble_eq_true rfl) (x_M_fewestOf (Nat.le_trans (Nat.le_of_ble_eq_true rfl) hd) (1 : Int32) (l7 - l2) h (sh_okB H) (fun v5 H => ?_)))
      show wq_297 d Q 154 [oR 12 0, _, oI l2, _, oI l4, oI l5, oI l6, oI l7, _] [aI v5, aI v4] (sh_E h)
      refine ai_WP_steps mc_297 (sh_CM d) 5 (And.intro (fun c => ?_) (fun c => ?_))
      · replace H := sh_okT c H
        show wq_297 d Q 167 [oR 12 0, _, oI l2, _, oI l4, oI l5, oI l6, oI l7, oI (v4 + v5)] [] (sh_E h)
        refine ai_WP_steps mc_297 (sh_CM d) 4 ?_
        exact x_M_change_b175 N hd hR k130 hk130 l2 l4 (v4 + v5) l7 l7 h H
      · replace H := sh_okF c H
        show wq_297 d Q 164 [oR 12 0, _, oI l2, _, oI l4, oI l5, oI l6, oI l7, oI (v4 + v5)] [] (sh_E h)
        refine ai_WP_steps mc_297 (sh_CM d) 1 ?_
        exact x_M_change_b175 N hd hR k130 hk130 l2 l4 l5 l6 l7 h H
def f_M_change_b181 (N : Nat)   (l2 : Int32) (l4 : Int32) (l5 : Int32) (l6 : Int32) (h : sh_H) : Option (Int32 × sh_H) := (if l5 < (1000000 : Int32) then (if l4 = 0 then (some (l5, h)) else (Option.bind (f_M_isKind (l4 - (10 : Int32)) h) (fun v6 => (if v6 = 0 then (Option.bind (f_M_paidOf N (1 : Int32) (l6 - l2) (l4 - (20 : Int32)) h) (fun v7 => (some (v7, h)))) else (Option.bind (f_M_paidOf N (0 : Int32) l6 (l4 - (10 : Int32)) h) (fun v8 => (some (v8, h)))))))) else (some ((-2 : Int32), h)))
theorem x_M_change_b181 (N : Nat) {d : Nat} (hd : 3 ≤ d) {Q : ai_Q} {R : Int32 × sh_H → Prop} (hR : ∀ r h, R (r, h) → Q (some (aI r)) (sh_E h))   (l2 : Int32) (l4 : Int32) (l5 : Int32) (l6 : Int32) {d1 d3 d7 d8 : Option ai_V} (h : sh_H) (H : sh_ok (f_M_change_b181 N l2 l4 l5 l6 h) R) : wq_297 d Q 181 [oR 12 0, d1, oI l2, d3, oI l4, oI l5, oI l6, d7, d8] [] (sh_E h) := by
  refine ai_WP_steps mc_297 (sh_CM d) 3 (And.intro (fun c => ?_) (fun c => ?_))
  · replace H := sh_okT c H
    show wq_297 d Q 192 [oR 12 0, _, oI l2, _, oI l4, oI l5, oI l6, _, _] [] (sh_E h)
    refine ai_WP_steps mc_297 (sh_CM d) 2 (And.intro (fun c => ?_) (fun c => ?_))
    · replace H := sh_okT c H
      show wq_297 d Q 197 [oR 12 0, _, oI l2, _, oI l4, oI l5, oI l6, _, _] [] (sh_E h)
      exact ai_WP_steps mc_297 (sh_CM d) 2 (hR l5 h H)
    · replace H := sh_okF c H
      show wq_297 d Q 200 [oR 12 0, _, oI l2, _, oI l4, oI l5, oI l6, _, _] [] (sh_E h)
      refine ai_WP_steps mc_297 (sh_CM d) 5 (And.intro (Nat.le_of_ble_eq_true rfl) (x_M_isKind (Nat.le_trans (Nat.le_of_ble_eq_true rfl) hd) (l4 - (10 : Int32)) h (sh_okB H) (fun v6 H => ?_)))
      show wq_297 d Q 209 [oR 12 0, _, oI l2, _, oI l4, oI l5, oI l6, _, _] [aI v6] (sh_E h)
      refine ai_WP_steps mc_297 (sh_CM d) 1 (And.intro (fun c => ?_) (fun c => ?_))
      · replace H := sh_okT c H
        show wq_297 d Q 227 [oR 12 0, _, oI l2, _, oI l4, oI l5, oI l6, _, _] [] (sh_E h)
        refine ai_WP_steps mc_297 (sh_CM d) 9 (And.intro (Nat.le_of_ble_eq_true rfl) (x_M_paidOf N (Nat.le_trans (Nat.le_of_ble_eq_true rfl) hd) (1 : Int32) (l6 - l2) (l4 - (20 : Int32)) h (sh_okB H) (fun v7 H => ?_)))
        show wq_297 d Q 241 [oR 12 0, _, oI l2, _, oI l4, oI l5, oI l6, _, _] [aI v7] (sh_E h)
        exact ai_WP_steps mc_297 (sh_CM d) 1 (hR v7 h H)
      · replace H := sh_okF c H
        show wq_297 d Q 212 [oR 12 0, _, oI l2, _, oI l4, oI l5, oI l6, _, _] [] (sh_E h)
        refine ai_WP_steps mc_297 (sh_CM d) 7 (And.intro (Nat.le_of_ble_eq_true rfl) (x_M_paidOf N (Nat.le_trans (Nat.le_of_ble_eq_true rfl) hd) (0 : Int32) l6 (l4 - (10 : Int32)) h (sh_okB H) (fun v8 H => ?_)))
        show wq_297 d Q 224 [oR 12 0, _, oI l2, _, oI l4, oI l5, oI l6, _, _] [aI v8] (sh_E h)
        exact ai_WP_steps mc_297 (sh_CM d) 2 (hR v8 h H)
  · replace H := sh_okF c H
    show wq_297 d Q 189 [oR 12 0, _, oI l2, _, oI l4, oI l5, oI l6, _, _] [] (sh_E h)
    exact ai_WP_steps mc_297 (sh_CM d) 2 (hR (-2 : Int32) h H)
def f_M_change_b101 (N : Nat)   (l2 : Int32) (l4 : Int32) (h : sh_H) : Option (Int32 × sh_H) := (Option.bind (f_M_layFewest N (0 : Int32) (4000 : Int32) h) (fun h9 => (Option.bind (f_M_layFewest N (1 : Int32) ((4000 : Int32) - l2) h9) (fun h10 => f_M_change_l130 N (f_M_change_b181 N) N l2 l4 (1000000 : Int32) (0 : Int32) l2 h10))))
theorem x_M_change_b101 (N : Nat) {d : Nat} (hd : 3 ≤ d) {Q : ai_Q} {R : Int32 × sh_H → Prop} (hR : ∀ r h, R (r, h) → Q (some (aI r)) (sh_E h))   (l2 : Int32) (l4 : Int32) {d1 d3 d5 d6 d7 d8 : Option ai_V} (h : sh_H) (H : sh_ok (f_M_change_b101 N l2 l4 h) R) : wq_297 d Q 101 [oR 12 0, d1, oI l2, d3, oI l4, d5, d6, d7, d8] [] (sh_E h) := by
  refine ai_WP_steps mc_297 (sh_CM d) 4 (And.intro (Nat.le_of_ble_eq_true rfl) (x_M_layFewest N (Nat.le_trans (Nat.le_of_ble_eq_true rfl) hd) (0 : Int32) (4000 : Int32) h (sh_okB H) (fun h9 H => ?_)))
  show wq_297 d Q 109 [oR 12 0, _, oI l2, _, oI l4, _, _, _, _] [] (sh_E h9)
  refine ai_WP_steps mc_297 (sh_CM d) 6 (And.intro (Nat.le_of_ble_eq_true rfl) (x_M_layFewest N (Nat.le_trans (Nat.le_of_ble_eq_true rfl) hd) (1 : Int32) ((4000 : Int32) - l2) h9 (sh_okB H) (fun h10 H => ?_)))
  show wq_297 d Q 119 [oR 12 0, _, oI l2, _, oI l4, _, _, _, _] [] (sh_E h10)
  refine ai_WP_steps mc_297 (sh_CM d) 6 ?_
  exact x_M_change_l130 N hd hR (f_M_change_b181 N) (fun z0 z1 z2 z3 {e1} {e3} {e7} {e8} h H => x_M_change_b181 N hd hR z0 z1 z2 z3 h H) N l2 l4 (1000000 : Int32) (0 : Int32) l2 h10 H
def f_M_change_b60 (N : Nat)   (l1 : Int32) (l2 : Int32) (l3 : Int32) (l4 : Int32) (h : sh_H) : Option (Int32 × sh_H) := f_M_change_l63 N (f_M_change_b101 N) N l1 l2 l3 l4 (0 : Int32) h
theorem x_M_change_b60 (N : Nat) {d : Nat} (hd : 3 ≤ d) {Q : ai_Q} {R : Int32 × sh_H → Prop} (hR : ∀ r h, R (r, h) → Q (some (aI r)) (sh_E h))   (l1 : Int32) (l2 : Int32) (l3 : Int32) (l4 : Int32) {d5 d6 d7 d8 : Option ai_V} (h : sh_H) (H : sh_ok (f_M_change_b60 N l1 l2 l3 l4 h) R) : wq_297 d Q 60 [oR 12 0, oI l1, oI l2, oI l3, oI l4, d5, d6, d7, d8] [] (sh_E h) := by
  refine ai_WP_steps mc_297 (sh_CM d) 2 ?_
  exact x_M_change_l63 N hd hR (f_M_change_b101 N) (fun z0 z1 {e1} {e3} {e5} {e6} {e7} {e8} h H => x_M_change_b101 N hd hR z0 z1 h H) N l1 l2 l3 l4 (0 : Int32) h H
def f_M_change (N : Nat)  (l1 : Int32) (l2 : Int32) (l3 : Int32) (l4 : Int32) (h : sh_H) : Option (Int32 × sh_H) := (Option.bind (f_M_isPlace l1 h) (fun v11 => (if v11 = 0 then (some ((-1 : Int32), h)) else (Option.bind (f_M_isIn l2 (1 : Int32) (2000 : Int32) h) (fun v12 => (if v12 = 0 then (some ((-1 : Int32), h)) else (Option.bind (f_M_isIn l3 (0 : Int32) (9 : Int32) h) (fun v13 => (if v13 = 0 then (some ((-1 : Int32), h)) else (if l4 = 0 then f_M_change_b60 N l1 l2 l3 l4 h else (Option.bind (f_M_isKind (l4 - (10 : Int32)) h) (fun v14 => (if v14 = 0 then (Option.bind (f_M_isKind (l4 - (20 : Int32)) h) (fun v15 => (if v15 = 0 then (some ((-1 : Int32), h)) else f_M_change_b60 N l1 l2 l3 l4 h))) else f_M_change_b60 N l1 l2 l3 l4 h)))))))))))))
theorem x_M_change (N : Nat) {d : Nat} (hd : 4 ≤ d) (l1 : Int32) (l2 : Int32) (l3 : Int32) (l4 : Int32) (h : sh_H) {Q : ai_Q} {R : Int32 × sh_H → Prop} (H : sh_ok (f_M_change N l1 l2 l3 l4 h) R) (hR : ∀ r h, R (r, h) → Q (some (aI r)) (sh_E h)) : ai_Ex sh_T d 297 [aR 12 0, aI l1, aI l2, aI l3, aI l4] (sh_E h) Q := by
  obtain ⟨d, rfl⟩ : ∃ e, d = e + 1 := ⟨d - 1, by omega⟩
  replace hd : 3 ≤ d := by omega
  refine And.intro (Nat.le_of_ble_eq_true rfl) ?_
  show wq_297 d Q 0 [oR 12 0, oI l1, oI l2, oI l3, oI l4, none, none, none, none] [] (sh_E h)
  refine ai_WP_steps mc_297 (sh_CM d) 3 (And.intro (Nat.le_of_ble_eq_true rfl) (x_M_isPlace (Nat.le_trans (Nat.le_of_ble_eq_true rfl) hd) l1 h (sh_okB H) (fun v11 H => ?_)))
  show wq_297 d Q 5 [oR 12 0, oI l1, oI l2, oI l3, oI l4, _, _, _, _] [aI v11] (sh_E h)
  refine ai_WP_steps mc_297 (sh_CM d) 1 (And.intro (fun c => ?_) (fun c => ?_))
  · replace H := sh_okT c H
    show wq_297 d Q 58 [oR 12 0, oI l1, oI l2, oI l3, oI l4, _, _, _, _] [] (sh_E h)
    exact ai_WP_steps mc_297 (sh_CM d) 2 (hR (-1 : Int32) h H)
  · replace H := sh_okF c H
    show wq_297 d Q 8 [oR 12 0, oI l1, oI l2, oI l3, oI l4, _, _, _, _] [] (sh_E h)
    refine ai_WP_steps mc_297 (sh_CM d) 4 (And.intro (Nat.le_of_ble_eq_true rfl) (x_M_isIn (Nat.le_trans (Nat.le_of_ble_eq_true rfl) hd) l2 (1 : Int32) (2000 : Int32) h (sh_okB H) (fun v12 H => ?_)))
    show wq_297 d Q 16 [oR 12 0, oI l1, oI l2, oI l3, oI l4, _, _, _, _] [aI v12] (sh_E h)
    refine ai_WP_steps mc_297 (sh_CM d) 1 (And.intro (fun c => ?_) (fun c => ?_))
    · replace H := sh_okT c H
      show wq_297 d Q 58 [oR 12 0, oI l1, oI l2, oI l3, oI l4, _, _, _, _] [] (sh_E h)
      exact ai_WP_steps mc_297 (sh_CM d) 2 (hR (-1 : Int32) h H)
    · replace H := sh_okF c H
      show wq_297 d Q 19 [oR 12 0, oI l1, oI l2, oI l3, oI l4, _, _, _, _] [] (sh_E h)
      refine ai_WP_steps mc_297 (sh_CM d) 4 (And.intro (Nat.le_of_ble_eq_true rfl) (x_M_isIn (Nat.le_trans (Nat.le_of_ble_eq_true rfl) hd) l3 (0 : Int32) (9 : Int32) h (sh_okB H) (fun v13 H => ?_)))
      show wq_297 d Q 26 [oR 12 0, oI l1, oI l2, oI l3, oI l4, _, _, _, _] [aI v13] (sh_E h)
      refine ai_WP_steps mc_297 (sh_CM d) 1 (And.intro (fun c => ?_) (fun c => ?_))
      · replace H := sh_okT c H
        show wq_297 d Q 58 [oR 12 0, oI l1, oI l2, oI l3, oI l4, _, _, _, _] [] (sh_E h)
        exact ai_WP_steps mc_297 (sh_CM d) 2 (hR (-1 : Int32) h H)
      · replace H := sh_okF c H
        show wq_297 d Q 29 [oR 12 0, oI l1, oI l2, oI l3, oI l4, _, _, _, _] [] (sh_E h)
        refine ai_WP_steps mc_297 (sh_CM d) 2 (And.intro (fun c => ?_) (fun c => ?_))
        · replace H := sh_okT c H
          exact x_M_change_b60 N hd hR l1 l2 l3 l4 h H
        · replace H := sh_okF c H
          show wq_297 d Q 34 [oR 12 0, oI l1, oI l2, oI l3, oI l4, _, _, _, _] [] (sh_E h)
          refine ai_WP_steps mc_297 (sh_CM d) 5 (And.intro (Nat.le_of_ble_eq_true rfl) (x_M_isKind (Nat.le_trans (Nat.le_of_ble_eq_true rfl) hd) (l4 - (10 : Int32)) h (sh_okB H) (fun v14 H => ?_)))
          show wq_297 d Q 43 [oR 12 0, oI l1, oI l2, oI l3, oI l4, _, _, _, _] [aI v14] (sh_E h)
          refine ai_WP_steps mc_297 (sh_CM d) 1 (And.intro (fun c => ?_) (fun c => ?_))
          · replace H := sh_okT c H
            show wq_297 d Q 46 [oR 12 0, oI l1, oI l2, oI l3, oI l4, _, _, _, _] [] (sh_E h)
            refine ai_WP_steps mc_297 (sh_CM d) 5 (And.intro (Nat.le_of_ble_eq_true rfl) (x_M_isKind (Nat.le_trans (Nat.le_of_ble_eq_true rfl) hd) (l4 - (20 : Int32)) h (sh_okB H) (fun v15 H => ?_)))
            show wq_297 d Q 55 [oR 12 0, oI l1, oI l2, oI l3, oI l4, _, _, _, _] [aI v15] (sh_E h)
            refine ai_WP_steps mc_297 (sh_CM d) 1 (And.intro (fun c => ?_) (fun c => ?_))
            · replace H := sh_okT c H
              show wq_297 d Q 58 [oR 12 0, oI l1, oI l2, oI l3, oI l4, _, _, _, _] [] (sh_E h)
              exact ai_WP_steps mc_297 (sh_CM d) 2 (hR (-1 : Int32) h H)
            · replace H := sh_okF c H
              exact x_M_change_b60 N hd hR l1 l2 l3 l4 h H
          · replace H := sh_okF c H
            exact x_M_change_b60 N hd hR l1 l2 l3 l4 h H
def f_M_piecesOf_b112 (N : Nat)  (k31 : Int32 → Int32 → Int32 → Int32 → Int32 → sh_H → Option (Int32 × sh_H)) (l1 : Int32) (l2 : Int32) (l3 : Int32) (l4 : Int32) (l5 : Int32) (h : sh_H) : Option (Int32 × sh_H) := k31 l1 l2 l3 l4 (l5 + (1 : Int32)) h
theorem x_M_piecesOf_b112 (N : Nat) {d : Nat} (hd : 1 ≤ d) {Q : ai_Q} {R : Int32 × sh_H → Prop} (hR : ∀ r h, R (r, h) → Q (some (aI r)) (sh_E h))  (k31 : Int32 → Int32 → Int32 → Int32 → Int32 → sh_H → Option (Int32 × sh_H)) (hk31 : ∀ (l1 : Int32) (l2 : Int32) (l3 : Int32) (l4 : Int32) (l5 : Int32) (h : sh_H), sh_ok (k31 l1 l2 l3 l4 l5 h) R → wq_298 d Q 31 [oR 12 0, oI l1, oI l2, oI l3, oI l4, oI l5] [] (sh_E h)) (l1 : Int32) (l2 : Int32) (l3 : Int32) (l4 : Int32) (l5 : Int32) (h : sh_H) (H : sh_ok (f_M_piecesOf_b112 N k31 l1 l2 l3 l4 l5 h) R) : wq_298 d Q 112 [oR 12 0, oI l1, oI l2, oI l3, oI l4, oI l5] [] (sh_E h) := by
  refine ai_WP_steps mc_298 (sh_CM d) 2 ?_
  exact hk31 l1 l2 l3 l4 (l5 + (1 : Int32)) h H
def f_M_piecesOf_l31 (N : Nat)  (k118 : Int32 → Int32 → Int32 → Int32 → sh_H → Option (Int32 × sh_H)) (n : Nat) : Int32 → Int32 → Int32 → Int32 → Int32 → sh_H → Option (Int32 × sh_H) := Nat.rec (motive := fun _ => Int32 → Int32 → Int32 → Int32 → Int32 → sh_H → Option (Int32 × sh_H)) (fun _ _ _ _ _ _ => none) (fun _ k31 l1 l2 l3 l4 l5 h => (if ai_in (0 : Int32) 8000 then (if l5 < (h.1 13 46 (0 : Int32).toNatClampNeg) then (if ((l1 >>> (l5 &&& 31)) &&& (1 : Int32)) = (1 : Int32) then (Option.bind (f_M_worth l5 h) (fun v1 => (if l4 < v1 then f_M_piecesOf_b112 N k31 l1 l2 l3 l4 l5 h else (Option.bind (f_M_worth l5 h) (fun v2 => (if ai_in (l4 - v2) 401 then (if ai_in l4 401 then (if ((h.1 13 57 (l4 - v2).toNatClampNeg) + (1 : Int32)) < (h.1 13 57 l4.toNatClampNeg) then (Option.bind (f_M_worth l5 h) (fun v3 => (if ai_in (l4 - v3) 401 then (if ai_in l4 401 then (sh_let (sh_pI h 13 57 l4.toNatClampNeg ((h.1 13 57 (l4 - v3).toNatClampNeg) + (1 : Int32))) (fun h4 => f_M_piecesOf_b112 N k31 l1 l2 l3 l4 l5 h4)) else none) else none))) else f_M_piecesOf_b112 N k31 l1 l2 l3 l4 l5 h) else none) else none)))))) else f_M_piecesOf_b112 N k31 l1 l2 l3 l4 l5 h) else k118 l1 l2 l3 l4 h) else none)) n
theorem x_M_piecesOf_l31 (N : Nat) {d : Nat} (hd : 1 ≤ d) {Q : ai_Q} {R : Int32 × sh_H → Prop} (hR : ∀ r h, R (r, h) → Q (some (aI r)) (sh_E h))  (k118 : Int32 → Int32 → Int32 → Int32 → sh_H → Option (Int32 × sh_H)) (hk118 : ∀ (l1 : Int32) (l2 : Int32) (l3 : Int32) (l4 : Int32) {d5 : Option ai_V} (h : sh_H), sh_ok (k118 l1 l2 l3 l4 h) R → wq_298 d Q 118 [oR 12 0, oI l1, oI l2, oI l3, oI l4, d5] [] (sh_E h)) (n : Nat) : ∀ (l1 : Int32) (l2 : Int32) (l3 : Int32) (l4 : Int32) (l5 : Int32) (h : sh_H), sh_ok (f_M_piecesOf_l31 N k118 n l1 l2 l3 l4 l5 h) R → wq_298 d Q 31 [oR 12 0, oI l1, oI l2, oI l3, oI l4, oI l5] [] (sh_E h) := by
  induction n with
  | zero => intro l1 l2 l3 l4 l5 h H; exact H.elim
  | succ n ih =>
    intro l1 l2 l3 l4 l5 h H
    have hk31 := @ih
    revert hk31 H
    show sh_ok ((fun k31 l1 l2 l3 l4 l5 h => (if ai_in (0 : Int32) 8000 then (if l5 < (h.1 13 46 (0 : Int32).toNatClampNeg) then (if ((l1 >>> (l5 &&& 31)) &&& (1 : Int32)) = (1 : Int32) then (Option.bind (f_M_worth l5 h) (fun v1 => (if l4 < v1 then f_M_piecesOf_b112 N k31 l1 l2 l3 l4 l5 h else (Option.bind (f_M_worth l5 h) (fun v2 => (if ai_in (l4 - v2) 401 then (if ai_in l4 401 then (if ((h.1 13 57 (l4 - v2).toNatClampNeg) + (1 : Int32)) < (h.1 13 57 l4.toNatClampNeg) then (Option.bind (f_M_worth l5 h) (fun v3 => (if ai_in (l4 - v3) 401 then (if ai_in l4 401 then (sh_let (sh_pI h 13 57 l4.toNatClampNeg ((h.1 13 57 (l4 - v3).toNatClampNeg) + (1 : Int32))) (fun h4 => f_M_piecesOf_b112 N k31 l1 l2 l3 l4 l5 h4)) else none) else none))) else f_M_piecesOf_b112 N k31 l1 l2 l3 l4 l5 h) else none) else none)))))) else f_M_piecesOf_b112 N k31 l1 l2 l3 l4 l5 h) else k118 l1 l2 l3 l4 h) else none)) (f_M_piecesOf_l31 N k118 n) l1 l2 l3 l4 l5 h) R → _
    generalize f_M_piecesOf_l31 N k118 n = k31
    intro H hk31
    have c := sh_okG H
    replace H := sh_okH H
    refine ai_WP_steps mc_298 (sh_CM d) 5 (And.intro c ?_)
    show wq_298 d Q 39 [oR 12 0, oI l1, oI l2, oI l3, oI l4, oI l5] [aI (h.1 13 46 (0 : Int32).toNatClampNeg), aI l5] (sh_E h)
    refine ai_WP_steps mc_298 (sh_CM d) 1 (And.intro (fun c => ?_) (fun c => ?_))
    · replace H := sh_okT c H
      show wq_298 d Q 42 [oR 12 0, oI l1, oI l2, oI l3, oI l4, oI l5] [] (sh_E h)
      refine ai_WP_steps mc_298 (sh_CM d) 7 (And.intro (fun c => ?_) (fun c => ?_))
      · replace H := sh_okT c H
        show wq_298 d Q 52 [oR 12 0, oI l1, oI l2, oI l3, oI l4, oI l5] [] (sh_E h)
        refine ai_WP_steps mc_298 (sh_CM d) 3 (And.intro (Nat.le_of_ble_eq_true rfl) (x_M_worth (Nat.le_trans (Nat.le_of_ble_eq_true rfl) hd) l5 h (sh_okB H) (fun v1 H => ?_)))
        show wq_298 d Q 58 [oR 12 0, oI l1, oI l2, oI l3, oI l4, oI l5] [aI v1] (sh_E h)
        refine ai_WP_steps mc_298 (sh_CM d) 2 (And.intro (fun c => ?_) (fun c => ?_))
        · replace H := sh_okT c H
          exact x_M_piecesOf_b112 N hd hR k31 hk31 l1 l2 l3 l4 l5 h H
        · replace H := sh_okF c H
          show wq_298 d Q 63 [oR 12 0, oI l1, oI l2, oI l3, oI l4, oI l5] [] (sh_E h)
          refine ai_WP_steps mc_298 (sh_CM d) 6 (And.intro (Nat.le_of_ble_eq_true rfl) (x_M_worth (Nat.le_trans (Nat.le_of_ble_eq_true rfl) hd) l5 h (sh_okB H) (fun v2 H => ?_)))
          show wq_298 d Q 75 [oR 12 0, oI l1, oI l2, oI l3, oI l4, oI l5] [aI v2, aI l4, aR 13 57] (sh_E h)
          have c := sh_okG H
          replace H := sh_okH H
          refine ai_WP_steps mc_298 (sh_CM d) 2 (And.intro c ?_)
          show wq_298 d Q 77 [oR 12 0, oI l1, oI l2, oI l3, oI l4, oI l5] [aI (h.1 13 57 (l4 - v2).toNatClampNeg)] (sh_E h)
          have c := sh_okG H
          replace H := sh_okH H
          refine ai_WP_steps mc_298 (sh_CM d) 6 (And.intro c ?_)
          show wq_298 d Q 86 [oR 12 0, oI l1, oI l2, oI l3, oI l4, oI l5] [aI (h.1 13 57 l4.toNatClampNeg), aI ((h.1 13 57 (l4 - v2).toNatClampNeg) + (1 : Int32))] (sh_E h)
          refine ai_WP_steps mc_298 (sh_CM d) 1 (And.intro (fun c => ?_) (fun c => ?_))
          · replace H := sh_okT c H
            show wq_298 d Q 89 [oR 12 0, oI l1, oI l2, oI l3, oI l4, oI l5] [] (sh_E h)
            refine ai_WP_steps mc_298 (sh_CM d) 9 (And.intro (Nat.le_of_ble_eq_true rfl) (x_M_worth (Nat.le_trans (Nat.le_of_ble_eq_true rfl) hd) l5 h (sh_okB H) (fun v3 H => ?_)))
            show wq_298 d Q 107 [oR 12 0, oI l1, oI l2, oI l3, oI l4, oI l5] [aI v3, aI l4, aR 13 57, aI l4, aR 13 57] (sh_E h)
            have c := sh_okG H
            replace H := sh_okH H
            refine ai_WP_steps mc_298 (sh_CM d) 2 (And.intro c ?_)
            show wq_298 d Q 109 [oR 12 0, oI l1, oI l2, oI l3, oI l4, oI l5] [aI (h.1 13 57 (l4 - v3).toNatClampNeg), aI l4, aR 13 57] (sh_E h)
            have c := sh_okG H
            replace H := sh_okH H
            refine ai_WP_steps mc_298 (sh_CM d) 3 (And.intro c ?_)
            show wq_298 d Q 112 [oR 12 0, oI l1, oI l2, oI l3, oI l4, oI l5] [] (sh_E (sh_pI h 13 57 l4.toNatClampNeg ((h.1 13 57 (l4 - v3).toNatClampNeg) + (1 : Int32))))
            replace H := sh_okL H
            generalize sh_pI h 13 57 l4.toNatClampNeg ((h.1 13 57 (l4 - v3).toNatClampNeg) + (1 : Int32)) = h4 at H ⊢
            exact x_M_piecesOf_b112 N hd hR k31 hk31 l1 l2 l3 l4 l5 h4 H
          · replace H := sh_okF c H
            exact x_M_piecesOf_b112 N hd hR k31 hk31 l1 l2 l3 l4 l5 h H
      · replace H := sh_okF c H
        exact x_M_piecesOf_b112 N hd hR k31 hk31 l1 l2 l3 l4 l5 h H
    · replace H := sh_okF c H
      exact hk118 l1 l2 l3 l4 h H
def f_M_piecesOf_b118 (N : Nat)  (k12 : Int32 → Int32 → Int32 → Int32 → sh_H → Option (Int32 × sh_H)) (l1 : Int32) (l2 : Int32) (l3 : Int32) (l4 : Int32) (h : sh_H) : Option (Int32 × sh_H) := (if ai_in l4 401 then k12 l1 l2 (l3 + (h.1 13 57 l4.toNatClampNeg)) (l4 + (1 : Int32)) h else none)
theorem x_M_piecesOf_b118 (N : Nat) {d : Nat} (hd : 1 ≤ d) {Q : ai_Q} {R : Int32 × sh_H → Prop} (hR : ∀ r h, R (r, h) → Q (some (aI r)) (sh_E h))  (k12 : Int32 → Int32 → Int32 → Int32 → sh_H → Option (Int32 × sh_H)) (hk12 : ∀ (l1 : Int32) (l2 : Int32) (l3 : Int32) (l4 : Int32) {d5 : Option ai_V} (h : sh_H), sh_ok (k12 l1 l2 l3 l4 h) R → wq_298 d Q 12 [oR 12 0, oI l1, oI l2, oI l3, oI l4, d5] [] (sh_E h)) (l1 : Int32) (l2 : Int32) (l3 : Int32) (l4 : Int32) {d5 : Option ai_V} (h : sh_H) (H : sh_ok (f_M_piecesOf_b118 N k12 l1 l2 l3 l4 h) R) : wq_298 d Q 118 [oR 12 0, oI l1, oI l2, oI l3, oI l4, d5] [] (sh_E h) := by
  have c := sh_okG H
  replace H := sh_okH H
  refine ai_WP_steps mc_298 (sh_CM d) 5 (And.intro c ?_)
  show wq_298 d Q 126 [oR 12 0, oI l1, oI l2, oI l3, oI l4, _] [aI (h.1 13 57 l4.toNatClampNeg), aI l3] (sh_E h)
  refine ai_WP_steps mc_298 (sh_CM d) 4 ?_
  exact hk12 l1 l2 (l3 + (h.1 13 57 l4.toNatClampNeg)) (l4 + (1 : Int32)) h H
def f_M_piecesOf_l12 (N : Nat)  (k134 : Int32 → sh_H → Option (Int32 × sh_H)) (n : Nat) : Int32 → Int32 → Int32 → Int32 → sh_H → Option (Int32 × sh_H) := Nat.rec (motive := fun _ => Int32 → Int32 → Int32 → Int32 → sh_H → Option (Int32 × sh_H)) (fun _ _ _ _ _ => none) (fun _ k12 l1 l2 l3 l4 h => (if l2 < l4 then k134 l3 h else (if ai_in l4 401 then (sh_let (sh_pI h 13 57 l4.toNatClampNeg (1000000 : Int32)) (fun h5 => f_M_piecesOf_l31 N (f_M_piecesOf_b118 N k12) N l1 l2 l3 l4 (0 : Int32) h5)) else none))) n
theorem x_M_piecesOf_l12 (N : Nat) {d : Nat} (hd : 1 ≤ d) {Q : ai_Q} {R : Int32 × sh_H → Prop} (hR : ∀ r h, R (r, h) → Q (some (aI r)) (sh_E h))  (k134 : Int32 → sh_H → Option (Int32 × sh_H)) (hk134 : ∀ (l3 : Int32) {d0 d1 d2 d4 d5 : Option ai_V} (h : sh_H), sh_ok (k134 l3 h) R → wq_298 d Q 134 [d0, d1, d2, oI l3, d4, d5] [] (sh_E h)) (n : Nat) : ∀ (l1 : Int32) (l2 : Int32) (l3 : Int32) (l4 : Int32) {d5 : Option ai_V} (h : sh_H), sh_ok (f_M_piecesOf_l12 N k134 n l1 l2 l3 l4 h) R → wq_298 d Q 12 [oR 12 0, oI l1, oI l2, oI l3, oI l4, d5] [] (sh_E h) := by
  induction n with
  | zero => intro l1 l2 l3 l4 d5 h H; exact H.elim
  | succ n ih =>
    intro l1 l2 l3 l4 d5 h H
    have hk12 := @ih
    revert hk12 H
    show sh_ok ((fun k12 l1 l2 l3 l4 h => (if l2 < l4 then k134 l3 h else (if ai_in l4 401 then (sh_let (sh_pI h 13 57 l4.toNatClampNeg (1000000 : Int32)) (fun h5 => f_M_piecesOf_l31 N (f_M_piecesOf_b118 N k12) N l1 l2 l3 l4 (0 : Int32) h5)) else none))) (f_M_piecesOf_l12 N k134 n) l1 l2 l3 l4 h) R → _
    generalize f_M_piecesOf_l12 N k134 n = k12
    intro H hk12
    refine ai_WP_steps mc_298 (sh_CM d) 3 (And.intro (fun c => ?_) (fun c => ?_))
    · replace H := sh_okT c H
      exact hk134 l3 h H
    · replace H := sh_okF c H
      show wq_298 d Q 18 [oR 12 0, oI l1, oI l2, oI l3, oI l4, _] [] (sh_E h)
      have c := sh_okG H
      replace H := sh_okH H
      refine ai_WP_steps mc_298 (sh_CM d) 5 (And.intro c ?_)
      show wq_298 d Q 28 [oR 12 0, oI l1, oI l2, oI l3, oI l4, _] [] (sh_E (sh_pI h 13 57 l4.toNatClampNeg (1000000 : Int32)))
      replace H := sh_okL H
      generalize sh_pI h 13 57 l4.toNatClampNeg (1000000 : Int32) = h5 at H ⊢
      refine ai_WP_steps mc_298 (sh_CM d) 2 ?_
      exact x_M_piecesOf_l31 N hd hR (f_M_piecesOf_b118 N k12) (fun z0 z1 z2 z3 {e5} h H => x_M_piecesOf_b118 N hd hR k12 hk12 z0 z1 z2 z3 h H) N l1 l2 l3 l4 (0 : Int32) h5 H
def f_M_piecesOf_b134 (N : Nat)   (l3 : Int32) (h : sh_H) : Option (Int32 × sh_H) := (some (l3, h))
theorem x_M_piecesOf_b134 (N : Nat) {d : Nat} (hd : 1 ≤ d) {Q : ai_Q} {R : Int32 × sh_H → Prop} (hR : ∀ r h, R (r, h) → Q (some (aI r)) (sh_E h))   (l3 : Int32) {d0 d1 d2 d4 d5 : Option ai_V} (h : sh_H) (H : sh_ok (f_M_piecesOf_b134 N l3 h) R) : wq_298 d Q 134 [d0, d1, d2, oI l3, d4, d5] [] (sh_E h) := by
  exact ai_WP_steps mc_298 (sh_CM d) 2 (hR l3 h H)
def f_M_piecesOf (N : Nat)  (l1 : Int32) (l2 : Int32) (h : sh_H) : Option (Int32 × sh_H) := (if ai_in (0 : Int32) 401 then (sh_let (sh_pI h 13 57 (0 : Int32).toNatClampNeg (0 : Int32)) (fun h6 => f_M_piecesOf_l12 N (f_M_piecesOf_b134 N) N l1 l2 (0 : Int32) (1 : Int32) h6)) else none)
theorem x_M_piecesOf (N : Nat) {d : Nat} (hd : 2 ≤ d) (l1 : Int32) (l2 : Int32) (h : sh_H) {Q : ai_Q} {R : Int32 × sh_H → Prop} (H : sh_ok (f_M_piecesOf N l1 l2 h) R) (hR : ∀ r h, R (r, h) → Q (some (aI r)) (sh_E h)) : ai_Ex sh_T d 298 [aR 12 0, aI l1, aI l2] (sh_E h) Q := by
  obtain ⟨d, rfl⟩ : ∃ e, d = e + 1 := ⟨d - 1, by omega⟩
  replace hd : 1 ≤ d := by omega
  refine And.intro (Nat.le_of_ble_eq_true rfl) ?_
  show wq_298 d Q 0 [oR 12 0, oI l1, oI l2, none, none, none] [] (sh_E h)
  have c := sh_okG H
  replace H := sh_okH H
  refine ai_WP_steps mc_298 (sh_CM d) 7 (And.intro c ?_)
  show wq_298 d Q 9 [oR 12 0, oI l1, oI l2, oI (0 : Int32), _, _] [] (sh_E (sh_pI h 13 57 (0 : Int32).toNatClampNeg (0 : Int32)))
  replace H := sh_okL H
  generalize sh_pI h 13 57 (0 : Int32).toNatClampNeg (0 : Int32) = h6 at H ⊢
  refine ai_WP_steps mc_298 (sh_CM d) 2 ?_
  exact x_M_piecesOf_l12 N hd hR (f_M_piecesOf_b134 N) (fun z0 {e0} {e1} {e2} {e4} {e5} h H => x_M_piecesOf_b134 N hd hR z0 h H) N l1 l2 (0 : Int32) (1 : Int32) h6 H
def f_M_manyOf_l4 (N : Nat)  (k24 : Int32 → sh_H → Option Int32) (n : Nat) : Int32 → Int32 → Int32 → sh_H → Option Int32 := Nat.rec (motive := fun _ => Int32 → Int32 → Int32 → sh_H → Option Int32) (fun _ _ _ _ => none) (fun _ k4 l0 l1 l2 h => (if l2 < (6 : Int32) then k4 l0 (l1 + ((l0 >>> (l2 &&& 31)) &&& (1 : Int32))) (l2 + (1 : Int32)) h else k24 l1 h)) n
theorem x_M_manyOf_l4 (N : Nat) {d : Nat} (hd : 0 ≤ d) (h : sh_H) {Q : ai_Q} {R : Int32 → Prop} (hR : ∀ r, R r → Q (some (aI r)) (sh_E h))  (k24 : Int32 → sh_H → Option Int32) (hk24 : ∀ (l1 : Int32) {d0 d2 : Option ai_V}, sh_ok (k24 l1 h) R → wq_299 d Q 24 [d0, oI l1, d2] [] (sh_E h)) (n : Nat) : ∀ (l0 : Int32) (l1 : Int32) (l2 : Int32), sh_ok (f_M_manyOf_l4 N k24 n l0 l1 l2 h) R → wq_299 d Q 4 [oI l0, oI l1, oI l2] [] (sh_E h) := by
  induction n with
  | zero => intro l0 l1 l2 H; exact H.elim
  | succ n ih =>
    intro l0 l1 l2 H
    have hk4 := @ih
    revert hk4 H
    show sh_ok ((fun k4 l0 l1 l2 h => (if l2 < (6 : Int32) then k4 l0 (l1 + ((l0 >>> (l2 &&& 31)) &&& (1 : Int32))) (l2 + (1 : Int32)) h else k24 l1 h)) (f_M_manyOf_l4 N k24 n) l0 l1 l2 h) R → _
    generalize f_M_manyOf_l4 N k24 n = k4
    intro H hk4
    refine ai_WP_steps mc_299 (sh_CM d) 3 (And.intro (fun c => ?_) (fun c => ?_))
    · replace H := sh_okT c H
      show wq_299 d Q 10 [oI l0, oI l1, oI l2] [] (sh_E h)
      refine ai_WP_steps mc_299 (sh_CM d) 10 ?_
      exact hk4 l0 (l1 + ((l0 >>> (l2 &&& 31)) &&& (1 : Int32))) (l2 + (1 : Int32)) H
    · replace H := sh_okF c H
      exact hk24 l1 H
def f_M_manyOf_b24 (N : Nat)   (l1 : Int32) (h : sh_H) : Option Int32 := (some l1)
theorem x_M_manyOf_b24 (N : Nat) {d : Nat} (hd : 0 ≤ d) (h : sh_H) {Q : ai_Q} {R : Int32 → Prop} (hR : ∀ r, R r → Q (some (aI r)) (sh_E h))   (l1 : Int32) {d0 d2 : Option ai_V} (H : sh_ok (f_M_manyOf_b24 N l1 h) R) : wq_299 d Q 24 [d0, oI l1, d2] [] (sh_E h) := by
  exact ai_WP_steps mc_299 (sh_CM d) 2 (hR l1 H)
def f_M_manyOf (N : Nat)  (l0 : Int32) (h : sh_H) : Option Int32 := f_M_manyOf_l4 N (f_M_manyOf_b24 N) N l0 (0 : Int32) (0 : Int32) h
theorem x_M_manyOf (N : Nat) {d : Nat} (hd : 1 ≤ d) (l0 : Int32) (h : sh_H) {Q : ai_Q} {R : Int32 → Prop} (H : sh_ok (f_M_manyOf N l0 h) R) (hR : ∀ r, R r → Q (some (aI r)) (sh_E h)) : ai_Ex sh_T d 299 [aI l0] (sh_E h) Q := by
  obtain ⟨d, rfl⟩ : ∃ e, d = e + 1 := ⟨d - 1, by omega⟩
  replace hd : 0 ≤ d := by omega
  refine And.intro (Nat.le_of_ble_eq_true rfl) ?_
  show wq_299 d Q 0 [oI l0, none, none] [] (sh_E h)
  refine ai_WP_steps mc_299 (sh_CM d) 4 ?_
  exact x_M_manyOf_l4 N hd h hR (f_M_manyOf_b24 N) (fun z0 {e0} {e2} H => x_M_manyOf_b24 N hd h hR z0 H) N l0 (0 : Int32) (0 : Int32) H
def f_M_chooses_b45 (N : Nat)  (k17 : Int32 → Int32 → Int32 → Int32 → sh_H → Option sh_H) (l1 : Int32) (l2 : Int32) (l3 : Int32) (l4 : Int32) (h : sh_H) : Option sh_H := k17 l1 l2 l3 (l4 + (1 : Int32)) h
theorem x_M_chooses_b45 (N : Nat) {d : Nat} (hd : 2 ≤ d) {Q : ai_Q} {R : sh_H → Prop} (hR : ∀ h, R h → Q none (sh_E h))  (k17 : Int32 → Int32 → Int32 → Int32 → sh_H → Option sh_H) (hk17 : ∀ (l1 : Int32) (l2 : Int32) (l3 : Int32) (l4 : Int32) {d5 : Option ai_V} (h : sh_H), sh_ok (k17 l1 l2 l3 l4 h) R → wq_300 d Q 17 [oR 12 0, oI l1, oI l2, oI l3, oI l4, d5] [] (sh_E h)) (l1 : Int32) (l2 : Int32) (l3 : Int32) (l4 : Int32) {d5 : Option ai_V} (h : sh_H) (H : sh_ok (f_M_chooses_b45 N k17 l1 l2 l3 l4 h) R) : wq_300 d Q 45 [oR 12 0, oI l1, oI l2, oI l3, oI l4, d5] [] (sh_E h) := by
  refine ai_WP_steps mc_300 (sh_CM d) 2 ?_
  exact hk17 l1 l2 l3 (l4 + (1 : Int32)) h H
def f_M_chooses_l17 (N : Nat)  (k51 : Int32 → Int32 → Int32 → sh_H → Option sh_H) (n : Nat) : Int32 → Int32 → Int32 → Int32 → sh_H → Option sh_H := Nat.rec (motive := fun _ => Int32 → Int32 → Int32 → Int32 → sh_H → Option sh_H) (fun _ _ _ _ _ => none) (fun _ k17 l1 l2 l3 l4 h => (if ai_in (0 : Int32) 8000 then (if l4 < (h.1 13 46 (0 : Int32).toNatClampNeg) then (Option.bind (f_M_worth l4 h) (fun v1 => (if v1 = (1 : Int32) then f_M_chooses_b45 N k17 l1 l2 (l3 ||| ((1 : Int32) <<< (l4 &&& 31))) l4 h else f_M_chooses_b45 N k17 l1 l2 l3 l4 h))) else k51 l1 l2 l3 h) else none)) n
theorem x_M_chooses_l17 (N : Nat) {d : Nat} (hd : 2 ≤ d) {Q : ai_Q} {R : sh_H → Prop} (hR : ∀ h, R h → Q none (sh_E h))  (k51 : Int32 → Int32 → Int32 → sh_H → Option sh_H) (hk51 : ∀ (l1 : Int32) (l2 : Int32) (l3 : Int32) {d4 d5 : Option ai_V} (h : sh_H), sh_ok (k51 l1 l2 l3 h) R → wq_300 d Q 51 [oR 12 0, oI l1, oI l2, oI l3, d4, d5] [] (sh_E h)) (n : Nat) : ∀ (l1 : Int32) (l2 : Int32) (l3 : Int32) (l4 : Int32) {d5 : Option ai_V} (h : sh_H), sh_ok (f_M_chooses_l17 N k51 n l1 l2 l3 l4 h) R → wq_300 d Q 17 [oR 12 0, oI l1, oI l2, oI l3, oI l4, d5] [] (sh_E h) := by
  induction n with
  | zero => intro l1 l2 l3 l4 d5 h H; exact H.elim
  | succ n ih =>
    intro l1 l2 l3 l4 d5 h H
    have hk17 := @ih
    revert hk17 H
    show sh_ok ((fun k17 l1 l2 l3 l4 h => (if ai_in (0 : Int32) 8000 then (if l4 < (h.1 13 46 (0 : Int32).toNatClampNeg) then (Option.bind (f_M_worth l4 h) (fun v1 => (if v1 = (1 : Int32) then f_M_chooses_b45 N k17 l1 l2 (l3 ||| ((1 : Int32) <<< (l4 &&& 31))) l4 h else f_M_chooses_b45 N k17 l1 l2 l3 l4 h))) else k51 l1 l2 l3 h) else none)) (f_M_chooses_l17 N k51 n) l1 l2 l3 l4 h) R → _
    generalize f_M_chooses_l17 N k51 n = k17
    intro H hk17
    have c := sh_okG H
    replace H := sh_okH H
    refine ai_WP_steps mc_300 (sh_CM d) 5 (And.intro c ?_)
    show wq_300 d Q 25 [oR 12 0, oI l1, oI l2, oI l3, oI l4, _] [aI (h.1 13 46 (0 : Int32).toNatClampNeg), aI l4] (sh_E h)
    refine ai_WP_steps mc_300 (sh_CM d) 1 (And.intro (fun c => ?_) (fun c => ?_))
    · replace H := sh_okT c H
      show wq_300 d Q 28 [oR 12 0, oI l1, oI l2, oI l3, oI l4, _] [] (sh_E h)
      refine ai_WP_steps mc_300 (sh_CM d) 3 (And.intro (Nat.le_of_ble_eq_true rfl) (x_M_worth (Nat.le_trans (Nat.le_of_ble_eq_true rfl) hd) l4 h (sh_okB H) (fun v1 H => ?_)))
      show wq_300 d Q 34 [oR 12 0, oI l1, oI l2, oI l3, oI l4, _] [aI v1] (sh_E h)
      refine ai_WP_steps mc_300 (sh_CM d) 2 (And.intro (fun c => ?_) (fun c => ?_))
      · replace H := sh_okT c H
        show wq_300 d Q 38 [oR 12 0, oI l1, oI l2, oI l3, oI l4, _] [] (sh_E h)
        refine ai_WP_steps mc_300 (sh_CM d) 6 ?_
        exact x_M_chooses_b45 N hd hR k17 hk17 l1 l2 (l3 ||| ((1 : Int32) <<< (l4 &&& 31))) l4 h H
      · replace H := sh_okF c H
        exact x_M_chooses_b45 N hd hR k17 hk17 l1 l2 l3 l4 h H
    · replace H := sh_okF c H
      exact hk51 l1 l2 l3 h H
def f_M_chooses_b125 (N : Nat)  (k54 : Int32 → Int32 → Int32 → Int32 → sh_H → Option sh_H) (l1 : Int32) (l2 : Int32) (l3 : Int32) (l4 : Int32) (h : sh_H) : Option sh_H := k54 l1 l2 l3 (l4 + (1 : Int32)) h
theorem x_M_chooses_b125 (N : Nat) {d : Nat} (hd : 2 ≤ d) {Q : ai_Q} {R : sh_H → Prop} (hR : ∀ h, R h → Q none (sh_E h))  (k54 : Int32 → Int32 → Int32 → Int32 → sh_H → Option sh_H) (hk54 : ∀ (l1 : Int32) (l2 : Int32) (l3 : Int32) (l4 : Int32) {d5 : Option ai_V} (h : sh_H), sh_ok (k54 l1 l2 l3 l4 h) R → wq_300 d Q 54 [oR 12 0, oI l1, oI l2, oI l3, oI l4, d5] [] (sh_E h)) (l1 : Int32) (l2 : Int32) (l3 : Int32) (l4 : Int32) {d5 : Option ai_V} (h : sh_H) (H : sh_ok (f_M_chooses_b125 N k54 l1 l2 l3 l4 h) R) : wq_300 d Q 125 [oR 12 0, oI l1, oI l2, oI l3, oI l4, d5] [] (sh_E h) := by
  refine ai_WP_steps mc_300 (sh_CM d) 2 ?_
  exact hk54 l1 l2 l3 (l4 + (1 : Int32)) h H
def f_M_chooses_b113 (N : Nat)  (k54 : Int32 → Int32 → Int32 → Int32 → sh_H → Option sh_H) (l1 : Int32) (l2 : Int32) (l3 : Int32) (l4 : Int32) (l5 : Int32) (h : sh_H) : Option sh_H := (sh_let (sh_pI h 12 0 33 l4) (fun h2 => (sh_let (sh_pI h2 12 0 34 l5) (fun h3 => f_M_chooses_b125 N k54 l1 l2 l3 l4 h3))))
theorem x_M_chooses_b113 (N : Nat) {d : Nat} (hd : 2 ≤ d) {Q : ai_Q} {R : sh_H → Prop} (hR : ∀ h, R h → Q none (sh_E h))  (k54 : Int32 → Int32 → Int32 → Int32 → sh_H → Option sh_H) (hk54 : ∀ (l1 : Int32) (l2 : Int32) (l3 : Int32) (l4 : Int32) {d5 : Option ai_V} (h : sh_H), sh_ok (k54 l1 l2 l3 l4 h) R → wq_300 d Q 54 [oR 12 0, oI l1, oI l2, oI l3, oI l4, d5] [] (sh_E h)) (l1 : Int32) (l2 : Int32) (l3 : Int32) (l4 : Int32) (l5 : Int32) (h : sh_H) (H : sh_ok (f_M_chooses_b113 N k54 l1 l2 l3 l4 l5 h) R) : wq_300 d Q 113 [oR 12 0, oI l1, oI l2, oI l3, oI l4, oI l5] [] (sh_E h) := by
  refine ai_WP_steps mc_300 (sh_CM d) 3 (And.intro trivial ?_)
  show wq_300 d Q 119 [oR 12 0, oI l1, oI l2, oI l3, oI l4, oI l5] [] (sh_E (sh_pI h 12 0 33 l4))
  replace H := sh_okL H
  generalize sh_pI h 12 0 33 l4 = h2 at H ⊢
  refine ai_WP_steps mc_300 (sh_CM d) 3 (And.intro trivial ?_)
  show wq_300 d Q 125 [oR 12 0, oI l1, oI l2, oI l3, oI l4, oI l5] [] (sh_E (sh_pI h2 12 0 34 l5))
  replace H := sh_okL H
  generalize sh_pI h2 12 0 34 l5 = h3 at H ⊢
  exact x_M_chooses_b125 N hd hR k54 hk54 l1 l2 l3 l4 h3 H
def f_M_chooses_l54 (N : Nat)  (k131 : sh_H → Option sh_H) (n : Nat) : Int32 → Int32 → Int32 → Int32 → sh_H → Option sh_H := Nat.rec (motive := fun _ => Int32 → Int32 → Int32 → Int32 → sh_H → Option sh_H) (fun _ _ _ _ _ => none) (fun _ k54 l1 l2 l3 l4 h => (if ai_in (0 : Int32) 8000 then (if l4 < ((1 : Int32) <<< ((h.1 13 46 (0 : Int32).toNatClampNeg) &&& 31)) then (if (l4 &&& l3) = 0 then f_M_chooses_b125 N k54 l1 l2 l3 l4 h else (sh_b2 (f_M_piecesOf N l4 l1 h) (fun v4 h5 => (Option.bind (f_M_manyOf N l4 h5) (fun v6 => (if (h5.1 12 0 33) < 0 then f_M_chooses_b113 N k54 l1 l2 l3 l4 (v4 + (l2 * v6)) h5 else (if (v4 + (l2 * v6)) < (h5.1 12 0 34) then f_M_chooses_b113 N k54 l1 l2 l3 l4 (v4 + (l2 * v6)) h5 else f_M_chooses_b125 N k54 l1 l2 l3 l4 h5))))))) else k131 h) else none)) n
theorem x_M_chooses_l54 (N : Nat) {d : Nat} (hd : 2 ≤ d) {Q : ai_Q} {R : sh_H → Prop} (hR : ∀ h, R h → Q none (sh_E h))  (k131 : sh_H → Option sh_H) (hk131 : ∀ {d0 d1 d2 d3 d4 d5 : Option ai_V} (h : sh_H), sh_ok (k131 h) R → wq_300 d Q 131 [d0, d1, d2, d3, d4, d5] [] (sh_E h)) (n : Nat) : ∀ (l1 : Int32) (l2 : Int32) (l3 : Int32) (l4 : Int32) {d5 : Option ai_V} (h : sh_H), sh_ok (f_M_chooses_l54 N k131 n l1 l2 l3 l4 h) R → wq_300 d Q 54 [oR 12 0, oI l1, oI l2, oI l3, oI l4, d5] [] (sh_E h) := by
  induction n with
  | zero => intro l1 l2 l3 l4 d5 h H; exact H.elim
  | succ n ih =>
    intro l1 l2 l3 l4 d5 h H
    have hk54 := @ih
    revert hk54 H
    show sh_ok ((fun k54 l1 l2 l3 l4 h => (if ai_in (0 : Int32) 8000 then (if l4 < ((1 : Int32) <<< ((h.1 13 46 (0 : Int32).toNatClampNeg) &&& 31)) then (if (l4 &&& l3) = 0 then f_M_chooses_b125 N k54 l1 l2 l3 l4 h else (sh_b2 (f_M_piecesOf N l4 l1 h) (fun v4 h5 => (Option.bind (f_M_manyOf N l4 h5) (fun v6 => (if (h5.1 12 0 33) < 0 then f_M_chooses_b113 N k54 l1 l2 l3 l4 (v4 + (l2 * v6)) h5 else (if (v4 + (l2 * v6)) < (h5.1 12 0 34) then f_M_chooses_b113 N k54 l1 l2 l3 l4 (v4 + (l2 * v6)) h5 else f_M_chooses_b125 N k54 l1 l2 l3 l4 h5))))))) else k131 h) else none)) (f_M_chooses_l54 N k131 n) l1 l2 l3 l4 h) R → _
    generalize f_M_chooses_l54 N k131 n = k54
    intro H hk54
    have c := sh_okG H
    replace H := sh_okH H
    refine ai_WP_steps mc_300 (sh_CM d) 6 (And.intro c ?_)
    show wq_300 d Q 63 [oR 12 0, oI l1, oI l2, oI l3, oI l4, _] [aI (h.1 13 46 (0 : Int32).toNatClampNeg), aI (1 : Int32), aI l4] (sh_E h)
    refine ai_WP_steps mc_300 (sh_CM d) 2 (And.intro (fun c => ?_) (fun c => ?_))
    · replace H := sh_okT c H
      show wq_300 d Q 67 [oR 12 0, oI l1, oI l2, oI l3, oI l4, _] [] (sh_E h)
      refine ai_WP_steps mc_300 (sh_CM d) 4 (And.intro (fun c => ?_) (fun c => ?_))
      · replace H := sh_okT c H
        show wq_300 d Q 74 [oR 12 0, oI l1, oI l2, oI l3, oI l4, _] [] (sh_E h)
        refine ai_WP_steps mc_300 (sh_CM d) 1 ?_
        exact x_M_chooses_b125 N hd hR k54 hk54 l1 l2 l3 l4 h H
      · replace H := sh_okF c H
        show wq_300 d Q 77 [oR 12 0, oI l1, oI l2, oI l3, oI l4, _] [] (sh_E h)
        refine ai_WP_steps mc_300 (sh_CM d) 4 (And.intro (Nat.le_of_ble_eq_true rfl) (x_M_piecesOf N (Nat.le_trans (Nat.le_of_ble_eq_true rfl) hd) l4 l1 h (sh_okB H) (fun v4 h5 H => ?_)))
        show wq_300 d Q 84 [oR 12 0, oI l1, oI l2, oI l3, oI l4, _] [aI v4] (sh_E h5)
        refine ai_WP_steps mc_300 (sh_CM d) 3 (And.intro (Nat.le_of_ble_eq_true rfl) (x_M_manyOf N (Nat.le_trans (Nat.le_of_ble_eq_true rfl) hd) l4 h5 (sh_okB H) (fun v6 H => ?_)))
        show wq_300 d Q 90 [oR 12 0, oI l1, oI l2, oI l3, oI l4, _] [aI v6, aI l2, aI v4] (sh_E h5)
        refine ai_WP_steps mc_300 (sh_CM d) 6 (And.intro (fun c => ?_) (fun c => ?_))
        · replace H := sh_okT c H
          exact x_M_chooses_b113 N hd hR k54 hk54 l1 l2 l3 l4 (v4 + (l2 * v6)) h5 H
        · replace H := sh_okF c H
          show wq_300 d Q 101 [oR 12 0, oI l1, oI l2, oI l3, oI l4, oI (v4 + (l2 * v6))] [] (sh_E h5)
          refine ai_WP_steps mc_300 (sh_CM d) 4 (And.intro (fun c => ?_) (fun c => ?_))
          · replace H := sh_okT c H
            exact x_M_chooses_b113 N hd hR k54 hk54 l1 l2 l3 l4 (v4 + (l2 * v6)) h5 H
          · replace H := sh_okF c H
            show wq_300 d Q 110 [oR 12 0, oI l1, oI l2, oI l3, oI l4, oI (v4 + (l2 * v6))] [] (sh_E h5)
            refine ai_WP_steps mc_300 (sh_CM d) 1 ?_
            exact x_M_chooses_b125 N hd hR k54 hk54 l1 l2 l3 l4 h5 H
    · replace H := sh_okF c H
      exact hk131 h H
def f_M_chooses_b131 (N : Nat)    (h : sh_H) : Option sh_H := (some h)
theorem x_M_chooses_b131 (N : Nat) {d : Nat} (hd : 2 ≤ d) {Q : ai_Q} {R : sh_H → Prop} (hR : ∀ h, R h → Q none (sh_E h))    {d0 d1 d2 d3 d4 d5 : Option ai_V} (h : sh_H) (H : sh_ok (f_M_chooses_b131 N h) R) : wq_300 d Q 131 [d0, d1, d2, d3, d4, d5] [] (sh_E h) := by
  exact ai_WP_steps mc_300 (sh_CM d) 1 (hR h H)
def f_M_chooses_b51 (N : Nat)   (l1 : Int32) (l2 : Int32) (l3 : Int32) (h : sh_H) : Option sh_H := f_M_chooses_l54 N (f_M_chooses_b131 N) N l1 l2 l3 (1 : Int32) h
theorem x_M_chooses_b51 (N : Nat) {d : Nat} (hd : 2 ≤ d) {Q : ai_Q} {R : sh_H → Prop} (hR : ∀ h, R h → Q none (sh_E h))   (l1 : Int32) (l2 : Int32) (l3 : Int32) {d4 d5 : Option ai_V} (h : sh_H) (H : sh_ok (f_M_chooses_b51 N l1 l2 l3 h) R) : wq_300 d Q 51 [oR 12 0, oI l1, oI l2, oI l3, d4, d5] [] (sh_E h) := by
  refine ai_WP_steps mc_300 (sh_CM d) 2 ?_
  exact x_M_chooses_l54 N hd hR (f_M_chooses_b131 N) (fun {e0} {e1} {e2} {e3} {e4} {e5} h H => x_M_chooses_b131 N hd hR  h H) N l1 l2 l3 (1 : Int32) h H
def f_M_chooses (N : Nat)  (l1 : Int32) (l2 : Int32) (h : sh_H) : Option sh_H := (sh_let (sh_pI h 12 0 33 (-2 : Int32)) (fun h7 => (sh_let (sh_pI h7 12 0 34 (-2 : Int32)) (fun h8 => f_M_chooses_l17 N (f_M_chooses_b51 N) N l1 l2 (0 : Int32) (0 : Int32) h8))))
theorem x_M_chooses (N : Nat) {d : Nat} (hd : 3 ≤ d) (l1 : Int32) (l2 : Int32) (h : sh_H) {Q : ai_Q} {R : sh_H → Prop} (H : sh_ok (f_M_chooses N l1 l2 h) R) (hR : ∀ h, R h → Q none (sh_E h)) : ai_Ex sh_T d 300 [aR 12 0, aI l1, aI l2] (sh_E h) Q := by
  obtain ⟨d, rfl⟩ : ∃ e, d = e + 1 := ⟨d - 1, by omega⟩
  replace hd : 2 ≤ d := by omega
  refine And.intro (Nat.le_of_ble_eq_true rfl) ?_
  show wq_300 d Q 0 [oR 12 0, oI l1, oI l2, none, none, none] [] (sh_E h)
  refine ai_WP_steps mc_300 (sh_CM d) 3 (And.intro trivial ?_)
  show wq_300 d Q 6 [oR 12 0, oI l1, oI l2, _, _, _] [] (sh_E (sh_pI h 12 0 33 (-2 : Int32)))
  replace H := sh_okL H
  generalize sh_pI h 12 0 33 (-2 : Int32) = h7 at H ⊢
  refine ai_WP_steps mc_300 (sh_CM d) 3 (And.intro trivial ?_)
  show wq_300 d Q 12 [oR 12 0, oI l1, oI l2, _, _, _] [] (sh_E (sh_pI h7 12 0 34 (-2 : Int32)))
  replace H := sh_okL H
  generalize sh_pI h7 12 0 34 (-2 : Int32) = h8 at H ⊢
  refine ai_WP_steps mc_300 (sh_CM d) 4 ?_
  exact x_M_chooses_l17 N hd hR (f_M_chooses_b51 N) (fun z0 z1 z2 {e4} {e5} h H => x_M_chooses_b51 N hd hR z0 z1 z2 h H) N l1 l2 (0 : Int32) (0 : Int32) h8 H
