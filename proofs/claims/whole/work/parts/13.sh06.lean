/-! shallow functions, written by program -/
def f_M_has (N : Nat)  (l1 : Int32) (l2 : Int32) (l3 : Int32) (h : sh_H) : Option Int32 := (Option.bind (f_M_isPlace l1 h) (fun v1 => (if v1 = 0 then (some (-1 : Int32)) else (Option.bind (f_M_isKind l2 h) (fun v2 => (if v2 = 0 then (some (-1 : Int32)) else (Option.bind (f_M_isIn l3 (-1 : Int32) (3 : Int32) h) (fun v3 => (if v3 = 0 then (some (-1 : Int32)) else (if l3 < 0 then (Option.bind (f_M_all N l1 l2 h) (fun v4 => (some v4))) else (Option.bind (f_M_cell l1 l2 l3 h) (fun v5 => (if ai_in v5 8000 then (some (h.1 13 46 v5.toNatClampNeg)) else none)))))))))))))
theorem x_M_has (N : Nat) {d : Nat} (hd : 3 ≤ d) (l1 : Int32) (l2 : Int32) (l3 : Int32) (h : sh_H) {Q : ai_Q} {R : Int32 → Prop} (H : sh_ok (f_M_has N l1 l2 l3 h) R) (hR : ∀ r, R r → Q (some (aI r)) (sh_E h)) : ai_Ex sh_T d 272 [aR 12 0, aI l1, aI l2, aI l3] (sh_E h) Q := by
  obtain ⟨d, rfl⟩ : ∃ e, d = e + 1 := ⟨d - 1, by omega⟩
  replace hd : 2 ≤ d := by omega
  refine And.intro (Nat.le_of_ble_eq_true rfl) ?_
  show wq_272 d Q 0 [oR 12 0, oI l1, oI l2, oI l3] [] (sh_E h)
  refine ai_WP_steps mc_272 (sh_CM d) 3 (And.intro (Nat.le_of_ble_eq_true rfl) (x_M_isPlace (Nat.le_trans (Nat.le_of_ble_eq_true rfl) hd) l1 h (sh_okB H) (fun v1 H => ?_)))
  show wq_272 d Q 5 [oR 12 0, oI l1, oI l2, oI l3] [aI v1] (sh_E h)
  refine ai_WP_steps mc_272 (sh_CM d) 1 (And.intro (fun c => ?_) (fun c => ?_))
  · replace H := sh_okT c H
    show wq_272 d Q 25 [oR 12 0, oI l1, oI l2, oI l3] [] (sh_E h)
    exact ai_WP_steps mc_272 (sh_CM d) 2 (hR (-1 : Int32) H)
  · replace H := sh_okF c H
    show wq_272 d Q 8 [oR 12 0, oI l1, oI l2, oI l3] [] (sh_E h)
    refine ai_WP_steps mc_272 (sh_CM d) 3 (And.intro (Nat.le_of_ble_eq_true rfl) (x_M_isKind (Nat.le_trans (Nat.le_of_ble_eq_true rfl) hd) l2 h (sh_okB H) (fun v2 H => ?_)))
    show wq_272 d Q 13 [oR 12 0, oI l1, oI l2, oI l3] [aI v2] (sh_E h)
    refine ai_WP_steps mc_272 (sh_CM d) 1 (And.intro (fun c => ?_) (fun c => ?_))
    · replace H := sh_okT c H
      show wq_272 d Q 25 [oR 12 0, oI l1, oI l2, oI l3] [] (sh_E h)
      exact ai_WP_steps mc_272 (sh_CM d) 2 (hR (-1 : Int32) H)
    · replace H := sh_okF c H
      show wq_272 d Q 16 [oR 12 0, oI l1, oI l2, oI l3] [] (sh_E h)
      refine ai_WP_steps mc_272 (sh_CM d) 4 (And.intro (Nat.le_of_ble_eq_true rfl) (x_M_isIn (Nat.le_trans (Nat.le_of_ble_eq_true rfl) hd) l3 (-1 : Int32) (3 : Int32) h (sh_okB H) (fun v3 H => ?_)))
      show wq_272 d Q 22 [oR 12 0, oI l1, oI l2, oI l3] [aI v3] (sh_E h)
      refine ai_WP_steps mc_272 (sh_CM d) 1 (And.intro (fun c => ?_) (fun c => ?_))
      · replace H := sh_okT c H
        show wq_272 d Q 25 [oR 12 0, oI l1, oI l2, oI l3] [] (sh_E h)
        exact ai_WP_steps mc_272 (sh_CM d) 2 (hR (-1 : Int32) H)
      · replace H := sh_okF c H
        show wq_272 d Q 27 [oR 12 0, oI l1, oI l2, oI l3] [] (sh_E h)
        refine ai_WP_steps mc_272 (sh_CM d) 2 (And.intro (fun c => ?_) (fun c => ?_))
        · replace H := sh_okT c H
          show wq_272 d Q 31 [oR 12 0, oI l1, oI l2, oI l3] [] (sh_E h)
          refine ai_WP_steps mc_272 (sh_CM d) 4 (And.intro (Nat.le_of_ble_eq_true rfl) (x_M_all N (Nat.le_trans (Nat.le_of_ble_eq_true rfl) hd) l1 l2 h (sh_okB H) (fun v4 H => ?_)))
          show wq_272 d Q 37 [oR 12 0, oI l1, oI l2, oI l3] [aI v4] (sh_E h)
          exact ai_WP_steps mc_272 (sh_CM d) 2 (hR v4 H)
        · replace H := sh_okF c H
          show wq_272 d Q 40 [oR 12 0, oI l1, oI l2, oI l3] [] (sh_E h)
          refine ai_WP_steps mc_272 (sh_CM d) 6 (And.intro (Nat.le_of_ble_eq_true rfl) (x_M_cell (Nat.le_trans (Nat.le_of_ble_eq_true rfl) hd) l1 l2 l3 h (sh_okB H) (fun v5 H => ?_)))
          show wq_272 d Q 50 [oR 12 0, oI l1, oI l2, oI l3] [aI v5, aR 13 46] (sh_E h)
          have c := sh_okG H
          replace H := sh_okH H
          refine ai_WP_steps mc_272 (sh_CM d) 1 (And.intro c ?_)
          show wq_272 d Q 51 [oR 12 0, oI l1, oI l2, oI l3] [aI (h.1 13 46 v5.toNatClampNeg)] (sh_E h)
          exact ai_WP_steps mc_272 (sh_CM d) 1 (hR (h.1 13 46 v5.toNatClampNeg) H)
def f_M_go_b103 (N : Nat)  (k7 : Int32 → Int32 → Int32 → Int32 → Int32 → Int32 → sh_H → Option sh_H) (l1 : Int32) (l2 : Int32) (l3 : Int32) (l5 : Int32) (l6 : Int32) (l7 : Int32) (l9 : Int32) (h : sh_H) : Option sh_H := k7 l1 l2 l3 l5 (l6 - l9) (l7 + (1 : Int32)) h
theorem x_M_go_b103 (N : Nat) {d : Nat} (hd : 1 ≤ d) {Q : ai_Q} {R : sh_H → Prop} (hR : ∀ h, R h → Q none (sh_E h))  (k7 : Int32 → Int32 → Int32 → Int32 → Int32 → Int32 → sh_H → Option sh_H) (hk7 : ∀ (l1 : Int32) (l2 : Int32) (l3 : Int32) (l5 : Int32) (l6 : Int32) (l7 : Int32) {d4 d8 d9 : Option ai_V} (h : sh_H), sh_ok (k7 l1 l2 l3 l5 l6 l7 h) R → wq_273 d Q 7 [oR 12 0, oI l1, oI l2, oI l3, d4, oI l5, oI l6, oI l7, d8, d9] [] (sh_E h)) (l1 : Int32) (l2 : Int32) (l3 : Int32) (l5 : Int32) (l6 : Int32) (l7 : Int32) (l9 : Int32) {d4 d8 : Option ai_V} (h : sh_H) (H : sh_ok (f_M_go_b103 N k7 l1 l2 l3 l5 l6 l7 l9 h) R) : wq_273 d Q 103 [oR 12 0, oI l1, oI l2, oI l3, d4, oI l5, oI l6, oI l7, d8, oI l9] [] (sh_E h) := by
  refine ai_WP_steps mc_273 (sh_CM d) 6 ?_
  exact hk7 l1 l2 l3 l5 (l6 - l9) (l7 + (1 : Int32)) h H
def f_M_go_b63 (N : Nat)  (k7 : Int32 → Int32 → Int32 → Int32 → Int32 → Int32 → sh_H → Option sh_H) (l1 : Int32) (l2 : Int32) (l3 : Int32) (l5 : Int32) (l6 : Int32) (l7 : Int32) (l8 : Int32) (s0 : Int32) (h : sh_H) : Option sh_H := (Option.bind (f_M_cell l1 l3 l8 h) (fun v1 => (if ai_in v1 8000 then (if ai_in v1 8000 then (sh_let (sh_pI h 13 46 v1.toNatClampNeg ((h.1 13 46 v1.toNatClampNeg) - s0)) (fun h2 => (if l2 < 0 then f_M_go_b103 N k7 l1 l2 l3 l5 l6 l7 s0 h2 else (Option.bind (f_M_cell l2 l3 l8 h2) (fun v3 => (if ai_in v3 8000 then (if ai_in v3 8000 then (sh_let (sh_pI h2 13 46 v3.toNatClampNeg ((h2.1 13 46 v3.toNatClampNeg) + s0)) (fun h4 => f_M_go_b103 N k7 l1 l2 l3 l5 l6 l7 s0 h4)) else none) else none)))))) else none) else none)))
theorem x_M_go_b63 (N : Nat) {d : Nat} (hd : 1 ≤ d) {Q : ai_Q} {R : sh_H → Prop} (hR : ∀ h, R h → Q none (sh_E h))  (k7 : Int32 → Int32 → Int32 → Int32 → Int32 → Int32 → sh_H → Option sh_H) (hk7 : ∀ (l1 : Int32) (l2 : Int32) (l3 : Int32) (l5 : Int32) (l6 : Int32) (l7 : Int32) {d4 d8 d9 : Option ai_V} (h : sh_H), sh_ok (k7 l1 l2 l3 l5 l6 l7 h) R → wq_273 d Q 7 [oR 12 0, oI l1, oI l2, oI l3, d4, oI l5, oI l6, oI l7, d8, d9] [] (sh_E h)) (l1 : Int32) (l2 : Int32) (l3 : Int32) (l5 : Int32) (l6 : Int32) (l7 : Int32) (l8 : Int32) (s0 : Int32) {d4 d9 : Option ai_V} (h : sh_H) (H : sh_ok (f_M_go_b63 N k7 l1 l2 l3 l5 l6 l7 l8 s0 h) R) : wq_273 d Q 63 [oR 12 0, oI l1, oI l2, oI l3, d4, oI l5, oI l6, oI l7, oI l8, d9] [aI s0] (sh_E h) := by
  refine ai_WP_steps mc_273 (sh_CM d) 7 (And.intro (Nat.le_of_ble_eq_true rfl) (x_M_cell (Nat.le_trans (Nat.le_of_ble_eq_true rfl) hd) l1 l3 l8 h (sh_okB H) (fun v1 H => ?_)))
  show wq_273 d Q 76 [oR 12 0, oI l1, oI l2, oI l3, _, oI l5, oI l6, oI l7, oI l8, oI s0] [aI v1, aR 13 46] (sh_E h)
  have c := sh_okG H
  replace H := sh_okH H
  refine ai_WP_steps mc_273 (sh_CM d) 2 (And.intro c ?_)
  show wq_273 d Q 78 [oR 12 0, oI l1, oI l2, oI l3, _, oI l5, oI l6, oI l7, oI l8, oI s0] [aI (h.1 13 46 v1.toNatClampNeg), aI v1, aR 13 46] (sh_E h)
  have c := sh_okG H
  replace H := sh_okH H
  refine ai_WP_steps mc_273 (sh_CM d) 3 (And.intro c ?_)
  show wq_273 d Q 82 [oR 12 0, oI l1, oI l2, oI l3, _, oI l5, oI l6, oI l7, oI l8, oI s0] [] (sh_E (sh_pI h 13 46 v1.toNatClampNeg ((h.1 13 46 v1.toNatClampNeg) - s0)))
  replace H := sh_okL H
  generalize sh_pI h 13 46 v1.toNatClampNeg ((h.1 13 46 v1.toNatClampNeg) - s0) = h2 at H ⊢
  refine ai_WP_steps mc_273 (sh_CM d) 2 (And.intro (fun c => ?_) (fun c => ?_))
  · replace H := sh_okT c H
    exact x_M_go_b103 N hd hR k7 hk7 l1 l2 l3 l5 l6 l7 s0 h2 H
  · replace H := sh_okF c H
    show wq_273 d Q 86 [oR 12 0, oI l1, oI l2, oI l3, _, oI l5, oI l6, oI l7, oI l8, oI s0] [] (sh_E h2)
    refine ai_WP_steps mc_273 (sh_CM d) 6 (And.intro (Nat.le_of_ble_eq_true rfl) (x_M_cell (Nat.le_trans (Nat.le_of_ble_eq_true rfl) hd) l2 l3 l8 h2 (sh_okB H) (fun v3 H => ?_)))
    show wq_273 d Q 97 [oR 12 0, oI l1, oI l2, oI l3, _, oI l5, oI l6, oI l7, oI l8, oI s0] [aI v3, aR 13 46] (sh_E h2)
    have c := sh_okG H
    replace H := sh_okH H
    refine ai_WP_steps mc_273 (sh_CM d) 2 (And.intro c ?_)
    show wq_273 d Q 99 [oR 12 0, oI l1, oI l2, oI l3, _, oI l5, oI l6, oI l7, oI l8, oI s0] [aI (h2.1 13 46 v3.toNatClampNeg), aI v3, aR 13 46] (sh_E h2)
    have c := sh_okG H
    replace H := sh_okH H
    refine ai_WP_steps mc_273 (sh_CM d) 3 (And.intro c ?_)
    show wq_273 d Q 103 [oR 12 0, oI l1, oI l2, oI l3, _, oI l5, oI l6, oI l7, oI l8, oI s0] [] (sh_E (sh_pI h2 13 46 v3.toNatClampNeg ((h2.1 13 46 v3.toNatClampNeg) + s0)))
    replace H := sh_okL H
    generalize sh_pI h2 13 46 v3.toNatClampNeg ((h2.1 13 46 v3.toNatClampNeg) + s0) = h4 at H ⊢
    exact x_M_go_b103 N hd hR k7 hk7 l1 l2 l3 l5 l6 l7 s0 h4 H
def f_M_go_b27 (N : Nat)  (k7 : Int32 → Int32 → Int32 → Int32 → Int32 → Int32 → sh_H → Option sh_H) (l1 : Int32) (l2 : Int32) (l3 : Int32) (l5 : Int32) (l6 : Int32) (l7 : Int32) (s0 : Int32) (h : sh_H) : Option sh_H := (Option.bind (f_M_cell l1 l3 s0 h) (fun v5 => (if ai_in v5 8000 then (if (h.1 13 46 v5.toNatClampNeg) < l6 then (Option.bind (f_M_cell l1 l3 s0 h) (fun v6 => (if ai_in v6 8000 then f_M_go_b63 N k7 l1 l2 l3 l5 l6 l7 s0 (h.1 13 46 v6.toNatClampNeg) h else none))) else f_M_go_b63 N k7 l1 l2 l3 l5 l6 l7 s0 l6 h) else none)))
theorem x_M_go_b27 (N : Nat) {d : Nat} (hd : 1 ≤ d) {Q : ai_Q} {R : sh_H → Prop} (hR : ∀ h, R h → Q none (sh_E h))  (k7 : Int32 → Int32 → Int32 → Int32 → Int32 → Int32 → sh_H → Option sh_H) (hk7 : ∀ (l1 : Int32) (l2 : Int32) (l3 : Int32) (l5 : Int32) (l6 : Int32) (l7 : Int32) {d4 d8 d9 : Option ai_V} (h : sh_H), sh_ok (k7 l1 l2 l3 l5 l6 l7 h) R → wq_273 d Q 7 [oR 12 0, oI l1, oI l2, oI l3, d4, oI l5, oI l6, oI l7, d8, d9] [] (sh_E h)) (l1 : Int32) (l2 : Int32) (l3 : Int32) (l5 : Int32) (l6 : Int32) (l7 : Int32) (s0 : Int32) {d4 d8 d9 : Option ai_V} (h : sh_H) (H : sh_ok (f_M_go_b27 N k7 l1 l2 l3 l5 l6 l7 s0 h) R) : wq_273 d Q 27 [oR 12 0, oI l1, oI l2, oI l3, d4, oI l5, oI l6, oI l7, d8, d9] [aI s0] (sh_E h) := by
  refine ai_WP_steps mc_273 (sh_CM d) 7 (And.intro (Nat.le_of_ble_eq_true rfl) (x_M_cell (Nat.le_trans (Nat.le_of_ble_eq_true rfl) hd) l1 l3 s0 h (sh_okB H) (fun v5 H => ?_)))
  show wq_273 d Q 40 [oR 12 0, oI l1, oI l2, oI l3, _, oI l5, oI l6, oI l7, oI s0, _] [aI v5, aR 13 46] (sh_E h)
  have c := sh_okG H
  replace H := sh_okH H
  refine ai_WP_steps mc_273 (sh_CM d) 1 (And.intro c ?_)
  show wq_273 d Q 41 [oR 12 0, oI l1, oI l2, oI l3, _, oI l5, oI l6, oI l7, oI s0, _] [aI (h.1 13 46 v5.toNatClampNeg)] (sh_E h)
  refine ai_WP_steps mc_273 (sh_CM d) 2 (And.intro (fun c => ?_) (fun c => ?_))
  · replace H := sh_okT c H
    show wq_273 d Q 46 [oR 12 0, oI l1, oI l2, oI l3, _, oI l5, oI l6, oI l7, oI s0, _] [] (sh_E h)
    refine ai_WP_steps mc_273 (sh_CM d) 6 (And.intro (Nat.le_of_ble_eq_true rfl) (x_M_cell (Nat.le_trans (Nat.le_of_ble_eq_true rfl) hd) l1 l3 s0 h (sh_okB H) (fun v6 H => ?_)))
    show wq_273 d Q 57 [oR 12 0, oI l1, oI l2, oI l3, _, oI l5, oI l6, oI l7, oI s0, _] [aI v6, aR 13 46] (sh_E h)
    have c := sh_okG H
    replace H := sh_okH H
    refine ai_WP_steps mc_273 (sh_CM d) 1 (And.intro c ?_)
    show wq_273 d Q 58 [oR 12 0, oI l1, oI l2, oI l3, _, oI l5, oI l6, oI l7, oI s0, _] [aI (h.1 13 46 v6.toNatClampNeg)] (sh_E h)
    refine ai_WP_steps mc_273 (sh_CM d) 1 ?_
    exact x_M_go_b63 N hd hR k7 hk7 l1 l2 l3 l5 l6 l7 s0 (h.1 13 46 v6.toNatClampNeg) h H
  · replace H := sh_okF c H
    show wq_273 d Q 61 [oR 12 0, oI l1, oI l2, oI l3, _, oI l5, oI l6, oI l7, oI s0, _] [] (sh_E h)
    refine ai_WP_steps mc_273 (sh_CM d) 1 ?_
    exact x_M_go_b63 N hd hR k7 hk7 l1 l2 l3 l5 l6 l7 s0 l6 h H
def f_M_go_c7 (N : Nat)   (k7 : Int32 → Int32 → Int32 → Int32 → Int32 → Int32 → sh_H → Option sh_H) (l1 : Int32) (l2 : Int32) (l3 : Int32) (l5 : Int32) (l6 : Int32) (l7 : Int32) (h : sh_H) : Option sh_H := (if l7 < (4 : Int32) then (if l5 = 0 then f_M_go_b27 N k7 l1 l2 l3 l5 l6 l7 l7 h else f_M_go_b27 N k7 l1 l2 l3 l5 l6 l7 ((3 : Int32) - l7) h) else (some h))
def f_M_go_l7 (N : Nat)   (n : Nat) : Int32 → Int32 → Int32 → Int32 → Int32 → Int32 → sh_H → Option sh_H := Nat.rec (motive := fun _ => Int32 → Int32 → Int32 → Int32 → Int32 → Int32 → sh_H → Option sh_H) (fun _ _ _ _ _ _ _ => none) (fun _ k7 => f_M_go_c7 N k7) n
theorem x_M_go_l7 (N : Nat) {d : Nat} (hd : 1 ≤ d) {Q : ai_Q} {R : sh_H → Prop} (hR : ∀ h, R h → Q none (sh_E h))   (n : Nat) : ∀ (l1 : Int32) (l2 : Int32) (l3 : Int32) (l5 : Int32) (l6 : Int32) (l7 : Int32) {d4 d8 d9 : Option ai_V} (h : sh_H), sh_ok (f_M_go_l7 N n l1 l2 l3 l5 l6 l7 h) R → wq_273 d Q 7 [oR 12 0, oI l1, oI l2, oI l3, d4, oI l5, oI l6, oI l7, d8, d9] [] (sh_E h) := by
  induction n with
  | zero => intro l1 l2 l3 l5 l6 l7 d4 d8 d9 h H; exact H.elim
  | succ n ih =>
    intro l1 l2 l3 l5 l6 l7 d4 d8 d9 h H
    have hk7 := @ih
    replace H : sh_ok (f_M_go_c7 N (f_M_go_l7 N n) l1 l2 l3 l5 l6 l7 h) R := H
    revert hk7 H
    generalize f_M_go_l7 N n = k7
    intro hk7 H
    refine ai_WP_steps mc_273 (sh_CM d) 3 (And.intro (fun c => ?_) (fun c => ?_))
    · replace H := sh_okT c H
      show wq_273 d Q 13 [oR 12 0, oI l1, oI l2, oI l3, _, oI l5, oI l6, oI l7, _, _] [] (sh_E h)
      refine ai_WP_steps mc_273 (sh_CM d) 2 (And.intro (fun c => ?_) (fun c => ?_))
      · replace H := sh_okT c H
        show wq_273 d Q 25 [oR 12 0, oI l1, oI l2, oI l3, _, oI l5, oI l6, oI l7, _, _] [] (sh_E h)
        refine ai_WP_steps mc_273 (sh_CM d) 1 ?_
        exact x_M_go_b27 N hd hR k7 hk7 l1 l2 l3 l5 l6 l7 l7 h H
      · replace H := sh_okF c H
        show wq_273 d Q 18 [oR 12 0, oI l1, oI l2, oI l3, _, oI l5, oI l6, oI l7, _, _] [] (sh_E h)
        refine ai_WP_steps mc_273 (sh_CM d) 4 ?_
        exact x_M_go_b27 N hd hR k7 hk7 l1 l2 l3 l5 l6 l7 ((3 : Int32) - l7) h H
    · replace H := sh_okF c H
      show wq_273 d Q 116 [oR 12 0, oI l1, oI l2, oI l3, _, oI l5, oI l6, oI l7, _, _] [] (sh_E h)
      exact ai_WP_steps mc_273 (sh_CM d) 1 (hR h H)
def f_M_go (N : Nat)  (l1 : Int32) (l2 : Int32) (l3 : Int32) (l4 : Int32) (l5 : Int32) (h : sh_H) : Option sh_H := f_M_go_l7 N N l1 l2 l3 l5 l4 (0 : Int32) h
theorem x_M_go (N : Nat) {d : Nat} (hd : 2 ≤ d) (l1 : Int32) (l2 : Int32) (l3 : Int32) (l4 : Int32) (l5 : Int32) (h : sh_H) {Q : ai_Q} {R : sh_H → Prop} (H : sh_ok (f_M_go N l1 l2 l3 l4 l5 h) R) (hR : ∀ h, R h → Q none (sh_E h)) : ai_Ex sh_T d 273 [aR 12 0, aI l1, aI l2, aI l3, aI l4, aI l5] (sh_E h) Q := by
  obtain ⟨d, rfl⟩ : ∃ e, d = e + 1 := ⟨d - 1, by omega⟩
  replace hd : 1 ≤ d := by omega
  refine And.intro (Nat.le_of_ble_eq_true rfl) ?_
  show wq_273 d Q 0 [oR 12 0, oI l1, oI l2, oI l3, oI l4, oI l5, none, none, none, none] [] (sh_E h)
  refine ai_WP_steps mc_273 (sh_CM d) 4 ?_
  exact x_M_go_l7 N hd hR N l1 l2 l3 l5 l4 (0 : Int32) h H
def f_M_send_b132   (l6 : Int32) (s0 : Nat) (s1 : Int32) (s2 : Int32) (h : sh_H) : Option (Int32 × sh_H) := (if ai_in s1 (sh_l13 s0) then (sh_let (sh_pI h 13 s0 s1.toNatClampNeg s2) (fun h1 => (if ai_in (l6 + (5 : Int32)) 8000 then (sh_let (sh_pI h1 13 46 (l6 + (5 : Int32)).toNatClampNeg (-2 : Int32)) (fun h2 => (if ai_in (7 : Int32) 8000 then (if ai_in (7 : Int32) 8000 then (sh_let (sh_pI h2 13 46 (7 : Int32).toNatClampNeg ((h2.1 13 46 (7 : Int32).toNatClampNeg) + (1 : Int32))) (fun h3 => (if ai_in (7 : Int32) 8000 then (some (((h3.1 13 46 (7 : Int32).toNatClampNeg) - (1 : Int32)), h3)) else none))) else none) else none))) else none))) else none)
theorem x_M_send_b132 {d : Nat} (hd : 1 ≤ d) {Q : ai_Q} {R : Int32 × sh_H → Prop} (hR : ∀ r h, R (r, h) → Q (some (aI r)) (sh_E h))   (l6 : Int32) (s0 : Nat) (s1 : Int32) (s2 : Int32) {d1 d2 d3 d4 d5 : Option ai_V} (h : sh_H) (H : sh_ok (f_M_send_b132 l6 s0 s1 s2 h) R) : wq_274 d Q 132 [oR 12 0, d1, d2, d3, d4, d5, oI l6] [aI s2, aI s1, aR 13 s0] (sh_E h) := by
  have c := sh_okG H
  replace H := sh_okH H
  refine ai_WP_steps mc_274 (sh_CM d) 1 (And.intro c ?_)
  show wq_274 d Q 133 [oR 12 0, _, _, _, _, _, oI l6] [] (sh_E (sh_pI h 13 s0 s1.toNatClampNeg s2))
  replace H := sh_okL H
  generalize sh_pI h 13 s0 s1.toNatClampNeg s2 = h1 at H ⊢
  have c := sh_okG H
  replace H := sh_okH H
  refine ai_WP_steps mc_274 (sh_CM d) 7 (And.intro c ?_)
  show wq_274 d Q 144 [oR 12 0, _, _, _, _, _, oI l6] [] (sh_E (sh_pI h1 13 46 (l6 + (5 : Int32)).toNatClampNeg (-2 : Int32)))
  replace H := sh_okL H
  generalize sh_pI h1 13 46 (l6 + (5 : Int32)).toNatClampNeg (-2 : Int32) = h2 at H ⊢
  have c := sh_okG H
  replace H := sh_okH H
  refine ai_WP_steps mc_274 (sh_CM d) 5 (And.intro c ?_)
  show wq_274 d Q 152 [oR 12 0, _, _, _, _, _, oI l6] [aI (h2.1 13 46 (7 : Int32).toNatClampNeg), aI (7 : Int32), aR 13 46] (sh_E h2)
  have c := sh_okG H
  replace H := sh_okH H
  refine ai_WP_steps mc_274 (sh_CM d) 3 (And.intro c ?_)
  show wq_274 d Q 155 [oR 12 0, _, _, _, _, _, oI l6] [] (sh_E (sh_pI h2 13 46 (7 : Int32).toNatClampNeg ((h2.1 13 46 (7 : Int32).toNatClampNeg) + (1 : Int32))))
  replace H := sh_okL H
  generalize sh_pI h2 13 46 (7 : Int32).toNatClampNeg ((h2.1 13 46 (7 : Int32).toNatClampNeg) + (1 : Int32)) = h3 at H ⊢
  have c := sh_okG H
  replace H := sh_okH H
  refine ai_WP_steps mc_274 (sh_CM d) 4 (And.intro c ?_)
  show wq_274 d Q 162 [oR 12 0, _, _, _, _, _, oI l6] [aI (h3.1 13 46 (7 : Int32).toNatClampNeg)] (sh_E h3)
  exact ai_WP_steps mc_274 (sh_CM d) 3 (hR ((h3.1 13 46 (7 : Int32).toNatClampNeg) - (1 : Int32)) h3 H)
def f_M_send  (l1 : Int32) (l2 : Int32) (l3 : Int32) (l4 : Int32) (l5 : Int32) (h : sh_H) : Option (Int32 × sh_H) := (if ai_in (7 : Int32) 8000 then (if (h.1 13 46 (7 : Int32).toNatClampNeg) = (40 : Int32) then (some ((-1 : Int32), h)) else (if ai_in (9 : Int32) 8000 then (Option.bind (f_M_isIn l1 (h.1 13 46 (9 : Int32).toNatClampNeg) (239 : Int32) h) (fun v4 => (if v4 = 0 then (some ((-1 : Int32), h)) else (Option.bind (f_M_isIsland l2 h) (fun v5 => (if v5 = 0 then (some ((-1 : Int32), h)) else (Option.bind (f_M_isKind l3 h) (fun v6 => (if v6 = 0 then (some ((-1 : Int32), h)) else (Option.bind (f_M_isIn l4 (1 : Int32) (9999 : Int32) h) (fun v7 => (if v7 = 0 then (some ((-1 : Int32), h)) else (if ai_in (7 : Int32) 8000 then (if ai_in ((310 : Int32) + ((6 : Int32) * (h.1 13 46 (7 : Int32).toNatClampNeg))) 8000 then (sh_let (sh_pI h 13 46 ((310 : Int32) + ((6 : Int32) * (h.1 13 46 (7 : Int32).toNatClampNeg))).toNatClampNeg l1) (fun h8 => (if ai_in (((310 : Int32) + ((6 : Int32) * (h.1 13 46 (7 : Int32).toNatClampNeg))) + (1 : Int32)) 8000 then (sh_let (sh_pI h8 13 46 (((310 : Int32) + ((6 : Int32) * (h.1 13 46 (7 : Int32).toNatClampNeg))) + (1 : Int32)).toNatClampNeg l2) (fun h9 => (if ai_in (((310 : Int32) + ((6 : Int32) * (h.1 13 46 (7 : Int32).toNatClampNeg))) + (2 : Int32)) 8000 then (sh_let (sh_pI h9 13 46 (((310 : Int32) + ((6 : Int32) * (h.1 13 46 (7 : Int32).toNatClampNeg))) + (2 : Int32)).toNatClampNeg l3) (fun h10 => (if ai_in (((310 : Int32) + ((6 : Int32) * (h.1 13 46 (7 : Int32).toNatClampNeg))) + (3 : Int32)) 8000 then (sh_let (sh_pI h10 13 46 (((310 : Int32) + ((6 : Int32) * (h.1 13 46 (7 : Int32).toNatClampNeg))) + (3 : Int32)).toNatClampNeg l4) (fun h11 => (if l5 = 0 then f_M_send_b132 ((310 : Int32) + ((6 : Int32) * (h.1 13 46 (7 : Int32).toNatClampNeg))) 46 (((310 : Int32) + ((6 : Int32) * (h.1 13 46 (7 : Int32).toNatClampNeg))) + (4 : Int32)) (0 : Int32) h11 else f_M_send_b132 ((310 : Int32) + ((6 : Int32) * (h.1 13 46 (7 : Int32).toNatClampNeg))) 46 (((310 : Int32) + ((6 : Int32) * (h.1 13 46 (7 : Int32).toNatClampNeg))) + (4 : Int32)) (1 : Int32) h11))) else none))) else none))) else none))) else none) else none))))))))))))) else none)) else none)
theorem x_M_send {d : Nat} (hd : 2 ≤ d) (l1 : Int32) (l2 : Int32) (l3 : Int32) (l4 : Int32) (l5 : Int32) (h : sh_H) {Q : ai_Q} {R : Int32 × sh_H → Prop} (H : sh_ok (f_M_send l1 l2 l3 l4 l5 h) R) (hR : ∀ r h, R (r, h) → Q (some (aI r)) (sh_E h)) : ai_Ex sh_T d 274 [aR 12 0, aI l1, aI l2, aI l3, aI l4, aI l5] (sh_E h) Q := by
  obtain ⟨d, rfl⟩ : ∃ e, d = e + 1 := ⟨d - 1, by omega⟩
  replace hd : 1 ≤ d := by omega
  refine And.intro (Nat.le_of_ble_eq_true rfl) ?_
  show wq_274 d Q 0 [oR 12 0, oI l1, oI l2, oI l3, oI l4, oI l5, none] [] (sh_E h)
  have c := sh_okG H
  replace H := sh_okH H
  refine ai_WP_steps mc_274 (sh_CM d) 4 (And.intro c ?_)
  show wq_274 d Q 7 [oR 12 0, oI l1, oI l2, oI l3, oI l4, oI l5, _] [aI (h.1 13 46 (7 : Int32).toNatClampNeg)] (sh_E h)
  refine ai_WP_steps mc_274 (sh_CM d) 2 (And.intro (fun c => ?_) (fun c => ?_))
  · replace H := sh_okT c H
    show wq_274 d Q 57 [oR 12 0, oI l1, oI l2, oI l3, oI l4, oI l5, _] [] (sh_E h)
    exact ai_WP_steps mc_274 (sh_CM d) 2 (hR (-1 : Int32) h H)
  · replace H := sh_okF c H
    show wq_274 d Q 12 [oR 12 0, oI l1, oI l2, oI l3, oI l4, oI l5, _] [] (sh_E h)
    have c := sh_okG H
    replace H := sh_okH H
    refine ai_WP_steps mc_274 (sh_CM d) 5 (And.intro c ?_)
    show wq_274 d Q 20 [oR 12 0, oI l1, oI l2, oI l3, oI l4, oI l5, _] [aI (h.1 13 46 (9 : Int32).toNatClampNeg), aI l1] (sh_E h)
    refine ai_WP_steps mc_274 (sh_CM d) 2 (And.intro (Nat.le_of_ble_eq_true rfl) (x_M_isIn (Nat.le_trans (Nat.le_of_ble_eq_true rfl) hd) l1 (h.1 13 46 (9 : Int32).toNatClampNeg) (239 : Int32) h (sh_okB H) (fun v4 H => ?_)))
    show wq_274 d Q 26 [oR 12 0, oI l1, oI l2, oI l3, oI l4, oI l5, _] [aI v4] (sh_E h)
    refine ai_WP_steps mc_274 (sh_CM d) 1 (And.intro (fun c => ?_) (fun c => ?_))
    · replace H := sh_okT c H
      show wq_274 d Q 57 [oR 12 0, oI l1, oI l2, oI l3, oI l4, oI l5, _] [] (sh_E h)
      exact ai_WP_steps mc_274 (sh_CM d) 2 (hR (-1 : Int32) h H)
    · replace H := sh_okF c H
      show wq_274 d Q 29 [oR 12 0, oI l1, oI l2, oI l3, oI l4, oI l5, _] [] (sh_E h)
      refine ai_WP_steps mc_274 (sh_CM d) 3 (And.intro (Nat.le_of_ble_eq_true rfl) (x_M_isIsland (Nat.le_trans (Nat.le_of_ble_eq_true rfl) hd) l2 h (sh_okB H) (fun v5 H => ?_)))
      show wq_274 d Q 34 [oR 12 0, oI l1, oI l2, oI l3, oI l4, oI l5, _] [aI v5] (sh_E h)
      refine ai_WP_steps mc_274 (sh_CM d) 1 (And.intro (fun c => ?_) (fun c => ?_))
      · replace H := sh_okT c H
        show wq_274 d Q 57 [oR 12 0, oI l1, oI l2, oI l3, oI l4, oI l5, _] [] (sh_E h)
        exact ai_WP_steps mc_274 (sh_CM d) 2 (hR (-1 : Int32) h H)
      · replace H := sh_okF c H
        show wq_274 d Q 37 [oR 12 0, oI l1, oI l2, oI l3, oI l4, oI l5, _] [] (sh_E h)
        refine ai_WP_steps mc_274 (sh_CM d) 3 (And.intro (Nat.le_of_ble_eq_true rfl) (x_M_isKind (Nat.le_trans (Nat.le_of_ble_eq_true rfl) hd) l3 h (sh_okB H) (fun v6 H => ?_)))
        show wq_274 d Q 42 [oR 12 0, oI l1, oI l2, oI l3, oI l4, oI l5, _] [aI v6] (sh_E h)
        refine ai_WP_steps mc_274 (sh_CM d) 1 (And.intro (fun c => ?_) (fun c => ?_))
        · replace H := sh_okT c H
          show wq_274 d Q 57 [oR 12 0, oI l1, oI l2, oI l3, oI l4, oI l5, _] [] (sh_E h)
          exact ai_WP_steps mc_274 (sh_CM d) 2 (hR (-1 : Int32) h H)
        · replace H := sh_okF c H
          show wq_274 d Q 45 [oR 12 0, oI l1, oI l2, oI l3, oI l4, oI l5, _] [] (sh_E h)
          refine ai_WP_steps mc_274 (sh_CM d) 4 (And.intro (Nat.le_of_ble_eq_true rfl) (x_M_isIn (Nat.le_trans (Nat.le_of_ble_eq_true rfl) hd) l4 (1 : Int32) (9999 : Int32) h (sh_okB H) (fun v7 H => ?_)))
          show wq_274 d Q 54 [oR 12 0, oI l1, oI l2, oI l3, oI l4, oI l5, _] [aI v7] (sh_E h)
          refine ai_WP_steps mc_274 (sh_CM d) 1 (And.intro (fun c => ?_) (fun c => ?_))
          · replace H := sh_okT c H
            show wq_274 d Q 57 [oR 12 0, oI l1, oI l2, oI l3, oI l4, oI l5, _] [] (sh_E h)
            exact ai_WP_steps mc_274 (sh_CM d) 2 (hR (-1 : Int32) h H)
          · replace H := sh_okF c H
            show wq_274 d Q 59 [oR 12 0, oI l1, oI l2, oI l3, oI l4, oI l5, _] [] (sh_E h)
            have c := sh_okG H
            replace H := sh_okH H
            refine ai_WP_steps mc_274 (sh_CM d) 6 (And.intro c ?_)
            show wq_274 d Q 71 [oR 12 0, oI l1, oI l2, oI l3, oI l4, oI l5, _] [aI (h.1 13 46 (7 : Int32).toNatClampNeg), aI (6 : Int32), aI (310 : Int32)] (sh_E h)
            have c := sh_okG H
            replace H := sh_okH H
            refine ai_WP_steps mc_274 (sh_CM d) 8 (And.intro c ?_)
            show wq_274 d Q 83 [oR 12 0, oI l1, oI l2, oI l3, oI l4, oI l5, oI ((310 : Int32) + ((6 : Int32) * (h.1 13 46 (7 : Int32).toNatClampNeg)))] [] (sh_E (sh_pI h 13 46 ((310 : Int32) + ((6 : Int32) * (h.1 13 46 (7 : Int32).toNatClampNeg))).toNatClampNeg l1))
            replace H := sh_okL H
            generalize sh_pI h 13 46 ((310 : Int32) + ((6 : Int32) * (h.1 13 46 (7 : Int32).toNatClampNeg))).toNatClampNeg l1 = h8 at H ⊢
            have c := sh_okG H
            replace H := sh_okH H
            refine ai_WP_steps mc_274 (sh_CM d) 7 (And.intro c ?_)
            show wq_274 d Q 93 [oR 12 0, oI l1, oI l2, oI l3, oI l4, oI l5, oI ((310 : Int32) + ((6 : Int32) * (h.1 13 46 (7 : Int32).toNatClampNeg)))] [] (sh_E (sh_pI h8 13 46 (((310 : Int32) + ((6 : Int32) * (h.1 13 46 (7 : Int32).toNatClampNeg))) + (1 : Int32)).toNatClampNeg l2))
            replace H := sh_okL H
            generalize sh_pI h8 13 46 (((310 : Int32) + ((6 : Int32) * (h.1 13 46 (7 : Int32).toNatClampNeg))) + (1 : Int32)).toNatClampNeg l2 = h9 at H ⊢
            have c := sh_okG H
            replace H := sh_okH H
            refine ai_WP_steps mc_274 (sh_CM d) 7 (And.intro c ?_)
            show wq_274 d Q 103 [oR 12 0, oI l1, oI l2, oI l3, oI l4, oI l5, oI ((310 : Int32) + ((6 : Int32) * (h.1 13 46 (7 : Int32).toNatClampNeg)))] [] (sh_E (sh_pI h9 13 46 (((310 : Int32) + ((6 : Int32) * (h.1 13 46 (7 : Int32).toNatClampNeg))) + (2 : Int32)).toNatClampNeg l3))
            replace H := sh_okL H
            generalize sh_pI h9 13 46 (((310 : Int32) + ((6 : Int32) * (h.1 13 46 (7 : Int32).toNatClampNeg))) + (2 : Int32)).toNatClampNeg l3 = h10 at H ⊢
            have c := sh_okG H
            replace H := sh_okH H
            refine ai_WP_steps mc_274 (sh_CM d) 7 (And.intro c ?_)
            show wq_274 d Q 114 [oR 12 0, oI l1, oI l2, oI l3, oI l4, oI l5, oI ((310 : Int32) + ((6 : Int32) * (h.1 13 46 (7 : Int32).toNatClampNeg)))] [] (sh_E (sh_pI h10 13 46 (((310 : Int32) + ((6 : Int32) * (h.1 13 46 (7 : Int32).toNatClampNeg))) + (3 : Int32)).toNatClampNeg l4))
            replace H := sh_okL H
            generalize sh_pI h10 13 46 (((310 : Int32) + ((6 : Int32) * (h.1 13 46 (7 : Int32).toNatClampNeg))) + (3 : Int32)).toNatClampNeg l4 = h11 at H ⊢
            refine ai_WP_steps mc_274 (sh_CM d) 7 (And.intro (fun c => ?_) (fun c => ?_))
            · replace H := sh_okT c H
              show wq_274 d Q 131 [oR 12 0, oI l1, oI l2, oI l3, oI l4, oI l5, oI ((310 : Int32) + ((6 : Int32) * (h.1 13 46 (7 : Int32).toNatClampNeg)))] [aI (((310 : Int32) + ((6 : Int32) * (h.1 13 46 (7 : Int32).toNatClampNeg))) + (4 : Int32)), aR 13 46] (sh_E h11)
              refine ai_WP_steps mc_274 (sh_CM d) 1 ?_
              exact x_M_send_b132 hd hR ((310 : Int32) + ((6 : Int32) * (h.1 13 46 (7 : Int32).toNatClampNeg))) 46 (((310 : Int32) + ((6 : Int32) * (h.1 13 46 (7 : Int32).toNatClampNeg))) + (4 : Int32)) (0 : Int32) h11 H
            · replace H := sh_okF c H
              show wq_274 d Q 127 [oR 12 0, oI l1, oI l2, oI l3, oI l4, oI l5, oI ((310 : Int32) + ((6 : Int32) * (h.1 13 46 (7 : Int32).toNatClampNeg)))] [aI (((310 : Int32) + ((6 : Int32) * (h.1 13 46 (7 : Int32).toNatClampNeg))) + (4 : Int32)), aR 13 46] (sh_E h11)
              refine ai_WP_steps mc_274 (sh_CM d) 2 ?_
              exact x_M_send_b132 hd hR ((310 : Int32) + ((6 : Int32) * (h.1 13 46 (7 : Int32).toNatClampNeg))) 46 (((310 : Int32) + ((6 : Int32) * (h.1 13 46 (7 : Int32).toNatClampNeg))) + (4 : Int32)) (1 : Int32) h11 H
def f_M_done  (l1 : Int32) (h : sh_H) : Option Int32 := (if ai_in (7 : Int32) 8000 then (Option.bind (f_M_isIn l1 (0 : Int32) ((h.1 13 46 (7 : Int32).toNatClampNeg) - (1 : Int32)) h) (fun v1 => (if v1 = 0 then (some (-1 : Int32)) else (if ai_in (((310 : Int32) + ((6 : Int32) * l1)) + (5 : Int32)) 8000 then (some (h.1 13 46 (((310 : Int32) + ((6 : Int32) * l1)) + (5 : Int32)).toNatClampNeg)) else none)))) else none)
theorem x_M_done {d : Nat} (hd : 2 ≤ d) (l1 : Int32) (h : sh_H) {Q : ai_Q} {R : Int32 → Prop} (H : sh_ok (f_M_done l1 h) R) (hR : ∀ r, R r → Q (some (aI r)) (sh_E h)) : ai_Ex sh_T d 275 [aR 12 0, aI l1] (sh_E h) Q := by
  obtain ⟨d, rfl⟩ : ∃ e, d = e + 1 := ⟨d - 1, by omega⟩
  replace hd : 1 ≤ d := by omega
  refine And.intro (Nat.le_of_ble_eq_true rfl) ?_
  show wq_275 d Q 0 [oR 12 0, oI l1] [] (sh_E h)
  have c := sh_okG H
  replace H := sh_okH H
  refine ai_WP_steps mc_275 (sh_CM d) 6 (And.intro c ?_)
  show wq_275 d Q 9 [oR 12 0, oI l1] [aI (h.1 13 46 (7 : Int32).toNatClampNeg), aI (0 : Int32), aI l1] (sh_E h)
  refine ai_WP_steps mc_275 (sh_CM d) 3 (And.intro (Nat.le_of_ble_eq_true rfl) (x_M_isIn (Nat.le_trans (Nat.le_of_ble_eq_true rfl) hd) l1 (0 : Int32) ((h.1 13 46 (7 : Int32).toNatClampNeg) - (1 : Int32)) h (sh_okB H) (fun v1 H => ?_)))
  show wq_275 d Q 14 [oR 12 0, oI l1] [aI v1] (sh_E h)
  refine ai_WP_steps mc_275 (sh_CM d) 1 (And.intro (fun c => ?_) (fun c => ?_))
  · replace H := sh_okT c H
    show wq_275 d Q 35 [oR 12 0, oI l1] [] (sh_E h)
    exact ai_WP_steps mc_275 (sh_CM d) 2 (hR (-1 : Int32) H)
  · replace H := sh_okF c H
    show wq_275 d Q 17 [oR 12 0, oI l1] [] (sh_E h)
    have c := sh_okG H
    replace H := sh_okH H
    refine ai_WP_steps mc_275 (sh_CM d) 10 (And.intro c ?_)
    show wq_275 d Q 32 [oR 12 0, oI l1] [aI (h.1 13 46 (((310 : Int32) + ((6 : Int32) * l1)) + (5 : Int32)).toNatClampNeg)] (sh_E h)
    exact ai_WP_steps mc_275 (sh_CM d) 2 (hR (h.1 13 46 (((310 : Int32) + ((6 : Int32) * l1)) + (5 : Int32)).toNatClampNeg) H)
def f_M_reason_b107 (N : Nat)   (l1 : Int32) (l4 : Int32) (s0 : Nat) (s1 : Int32) (s2 : Int32) (h : sh_H) : Option Int32 := (if ai_in ((s1 * s2) + l4) (sh_l13 s0) then (if ai_in (l1 + (3 : Int32)) 8000 then (if (h.1 13 s0 ((s1 * s2) + l4).toNatClampNeg) < (h.1 13 46 (l1 + (3 : Int32)).toNatClampNeg) then (some (4 : Int32)) else (some (0 : Int32))) else none) else none)
theorem x_M_reason_b107 (N : Nat) {d : Nat} (hd : 1 ≤ d) (h : sh_H) {Q : ai_Q} {R : Int32 → Prop} (hR : ∀ r, R r → Q (some (aI r)) (sh_E h))   (l1 : Int32) (l4 : Int32) (s0 : Nat) (s1 : Int32) (s2 : Int32) {d2 d3 d5 : Option ai_V} (H : sh_ok (f_M_reason_b107 N l1 l4 s0 s1 s2 h) R) : wq_276 d Q 107 [oR 12 0, oI l1, d2, d3, oI l4, d5] [aI s2, aI s1, aR 13 s0] (sh_E h) := by
  have c := sh_okG H
  replace H := sh_okH H
  refine ai_WP_steps mc_276 (sh_CM d) 4 (And.intro c ?_)
  show wq_276 d Q 112 [oR 12 0, oI l1, _, _, oI l4, _] [aI (h.1 13 s0 ((s1 * s2) + l4).toNatClampNeg)] (sh_E h)
  have c := sh_okG H
  replace H := sh_okH H
  refine ai_WP_steps mc_276 (sh_CM d) 6 (And.intro c ?_)
  show wq_276 d Q 120 [oR 12 0, oI l1, _, _, oI l4, _] [aI (h.1 13 46 (l1 + (3 : Int32)).toNatClampNeg), aI (h.1 13 s0 ((s1 * s2) + l4).toNatClampNeg)] (sh_E h)
  refine ai_WP_steps mc_276 (sh_CM d) 1 (And.intro (fun c => ?_) (fun c => ?_))
  · replace H := sh_okT c H
    show wq_276 d Q 123 [oR 12 0, oI l1, _, _, oI l4, _] [] (sh_E h)
    exact ai_WP_steps mc_276 (sh_CM d) 3 (hR (4 : Int32) H)
  · replace H := sh_okF c H
    show wq_276 d Q 127 [oR 12 0, oI l1, _, _, oI l4, _] [] (sh_E h)
    exact ai_WP_steps mc_276 (sh_CM d) 2 (hR (0 : Int32) H)
def f_M_reason (N : Nat)  (l1 : Int32) (l2 : Int32) (h : sh_H) : Option Int32 := (if ai_in (l1 + (1 : Int32)) 8000 then (if ai_in (l1 + (2 : Int32)) 8000 then (Option.bind (f_M_boatOf N (h.1 13 46 (l1 + (1 : Int32)).toNatClampNeg) l2 h) (fun v1 => (if v1 < 0 then (some (1 : Int32)) else (if ai_in (h.1 13 46 (l1 + (1 : Int32)).toNatClampNeg) 5 then (if ai_in (l1 + (3 : Int32)) 8000 then (if ai_in (((20 : Int32) + ((3 : Int32) * (h.1 13 46 (l1 + (2 : Int32)).toNatClampNeg))) + (1 : Int32)) 8000 then (if ai_in (((250 : Int32) + ((5 : Int32) * v1)) + (2 : Int32)) 8000 then (if (h.1 13 46 (((250 : Int32) + ((5 : Int32) * v1)) + (2 : Int32)).toNatClampNeg) < ((h.1 13 52 (h.1 13 46 (l1 + (1 : Int32)).toNatClampNeg).toNatClampNeg) + ((h.1 13 46 (l1 + (3 : Int32)).toNatClampNeg) * (h.1 13 46 (((20 : Int32) + ((3 : Int32) * (h.1 13 46 (l1 + (2 : Int32)).toNatClampNeg))) + (1 : Int32)).toNatClampNeg))) then (some (3 : Int32)) else (if ai_in (l1 + (4 : Int32)) 8000 then (if (h.1 13 46 (l1 + (4 : Int32)).toNatClampNeg) = (1 : Int32) then f_M_reason_b107 N l1 (h.1 13 46 (l1 + (2 : Int32)).toNatClampNeg) 53 (6 : Int32) (h.1 13 46 (l1 + (1 : Int32)).toNatClampNeg) h else f_M_reason_b107 N l1 (h.1 13 46 (l1 + (2 : Int32)).toNatClampNeg) 53 (6 : Int32) (0 : Int32) h) else none)) else none) else none) else none) else none)))) else none) else none)
theorem x_M_reason (N : Nat) {d : Nat} (hd : 2 ≤ d) (l1 : Int32) (l2 : Int32) (h : sh_H) {Q : ai_Q} {R : Int32 → Prop} (H : sh_ok (f_M_reason N l1 l2 h) R) (hR : ∀ r, R r → Q (some (aI r)) (sh_E h)) : ai_Ex sh_T d 276 [aR 12 0, aI l1, aI l2] (sh_E h) Q := by
  obtain ⟨d, rfl⟩ : ∃ e, d = e + 1 := ⟨d - 1, by omega⟩
  replace hd : 1 ≤ d := by omega
  refine And.intro (Nat.le_of_ble_eq_true rfl) ?_
  show wq_276 d Q 0 [oR 12 0, oI l1, oI l2, none, none, none] [] (sh_E h)
  have c := sh_okG H
  replace H := sh_okH H
  refine ai_WP_steps mc_276 (sh_CM d) 6 (And.intro c ?_)
  show wq_276 d Q 8 [oR 12 0, oI l1, oI l2, _, _, _] [aI (h.1 13 46 (l1 + (1 : Int32)).toNatClampNeg)] (sh_E h)
  have c := sh_okG H
  replace H := sh_okH H
  refine ai_WP_steps mc_276 (sh_CM d) 7 (And.intro c ?_)
  show wq_276 d Q 17 [oR 12 0, oI l1, oI l2, oI (h.1 13 46 (l1 + (1 : Int32)).toNatClampNeg), _, _] [aI (h.1 13 46 (l1 + (2 : Int32)).toNatClampNeg)] (sh_E h)
  refine ai_WP_steps mc_276 (sh_CM d) 5 (And.intro (Nat.le_of_ble_eq_true rfl) (x_M_boatOf N (Nat.le_trans (Nat.le_of_ble_eq_true rfl) hd) (h.1 13 46 (l1 + (1 : Int32)).toNatClampNeg) l2 h (sh_okB H) (fun v1 H => ?_)))
  show wq_276 d Q 25 [oR 12 0, oI l1, oI l2, oI (h.1 13 46 (l1 + (1 : Int32)).toNatClampNeg), oI (h.1 13 46 (l1 + (2 : Int32)).toNatClampNeg), _] [aI v1] (sh_E h)
  refine ai_WP_steps mc_276 (sh_CM d) 3 (And.intro (fun c => ?_) (fun c => ?_))
  · replace H := sh_okT c H
    show wq_276 d Q 32 [oR 12 0, oI l1, oI l2, oI (h.1 13 46 (l1 + (1 : Int32)).toNatClampNeg), oI (h.1 13 46 (l1 + (2 : Int32)).toNatClampNeg), oI v1] [] (sh_E h)
    exact ai_WP_steps mc_276 (sh_CM d) 2 (hR (1 : Int32) H)
  · replace H := sh_okF c H
    show wq_276 d Q 34 [oR 12 0, oI l1, oI l2, oI (h.1 13 46 (l1 + (1 : Int32)).toNatClampNeg), oI (h.1 13 46 (l1 + (2 : Int32)).toNatClampNeg), oI v1] [] (sh_E h)
    have c := sh_okG H
    replace H := sh_okH H
    refine ai_WP_steps mc_276 (sh_CM d) 4 (And.intro c ?_)
    show wq_276 d Q 40 [oR 12 0, oI l1, oI l2, oI (h.1 13 46 (l1 + (1 : Int32)).toNatClampNeg), oI (h.1 13 46 (l1 + (2 : Int32)).toNatClampNeg), oI v1] [aI (h.1 13 52 (h.1 13 46 (l1 + (1 : Int32)).toNatClampNeg).toNatClampNeg)] (sh_E h)
    have c := sh_okG H
    replace H := sh_okH H
    refine ai_WP_steps mc_276 (sh_CM d) 6 (And.intro c ?_)
    show wq_276 d Q 48 [oR 12 0, oI l1, oI l2, oI (h.1 13 46 (l1 + (1 : Int32)).toNatClampNeg), oI (h.1 13 46 (l1 + (2 : Int32)).toNatClampNeg), oI v1] [aI (h.1 13 46 (l1 + (3 : Int32)).toNatClampNeg), aI (h.1 13 52 (h.1 13 46 (l1 + (1 : Int32)).toNatClampNeg).toNatClampNeg)] (sh_E h)
    have c := sh_okG H
    replace H := sh_okH H
    refine ai_WP_steps mc_276 (sh_CM d) 10 (And.intro c ?_)
    show wq_276 d Q 62 [oR 12 0, oI l1, oI l2, oI (h.1 13 46 (l1 + (1 : Int32)).toNatClampNeg), oI (h.1 13 46 (l1 + (2 : Int32)).toNatClampNeg), oI v1] [aI (h.1 13 46 (((20 : Int32) + ((3 : Int32) * (h.1 13 46 (l1 + (2 : Int32)).toNatClampNeg))) + (1 : Int32)).toNatClampNeg), aI (h.1 13 46 (l1 + (3 : Int32)).toNatClampNeg), aI (h.1 13 52 (h.1 13 46 (l1 + (1 : Int32)).toNatClampNeg).toNatClampNeg)] (sh_E h)
    have c := sh_okG H
    replace H := sh_okH H
    refine ai_WP_steps mc_276 (sh_CM d) 12 (And.intro c ?_)
    show wq_276 d Q 79 [oR 12 0, oI l1, oI l2, oI (h.1 13 46 (l1 + (1 : Int32)).toNatClampNeg), oI (h.1 13 46 (l1 + (2 : Int32)).toNatClampNeg), oI v1] [aI (h.1 13 46 (((250 : Int32) + ((5 : Int32) * v1)) + (2 : Int32)).toNatClampNeg), aI ((h.1 13 52 (h.1 13 46 (l1 + (1 : Int32)).toNatClampNeg).toNatClampNeg) + ((h.1 13 46 (l1 + (3 : Int32)).toNatClampNeg) * (h.1 13 46 (((20 : Int32) + ((3 : Int32) * (h.1 13 46 (l1 + (2 : Int32)).toNatClampNeg))) + (1 : Int32)).toNatClampNeg)))] (sh_E h)
    refine ai_WP_steps mc_276 (sh_CM d) 1 (And.intro (fun c => ?_) (fun c => ?_))
    · replace H := sh_okT c H
      show wq_276 d Q 82 [oR 12 0, oI l1, oI l2, oI (h.1 13 46 (l1 + (1 : Int32)).toNatClampNeg), oI (h.1 13 46 (l1 + (2 : Int32)).toNatClampNeg), oI v1] [] (sh_E h)
      exact ai_WP_steps mc_276 (sh_CM d) 2 (hR (3 : Int32) H)
    · replace H := sh_okF c H
      show wq_276 d Q 84 [oR 12 0, oI l1, oI l2, oI (h.1 13 46 (l1 + (1 : Int32)).toNatClampNeg), oI (h.1 13 46 (l1 + (2 : Int32)).toNatClampNeg), oI v1] [] (sh_E h)
      have c := sh_okG H
      replace H := sh_okH H
      refine ai_WP_steps mc_276 (sh_CM d) 9 (And.intro c ?_)
      show wq_276 d Q 98 [oR 12 0, oI l1, oI l2, oI (h.1 13 46 (l1 + (1 : Int32)).toNatClampNeg), oI (h.1 13 46 (l1 + (2 : Int32)).toNatClampNeg), oI v1] [aI (h.1 13 46 (l1 + (4 : Int32)).toNatClampNeg), aI (6 : Int32), aR 13 53] (sh_E h)
      refine ai_WP_steps mc_276 (sh_CM d) 2 (And.intro (fun c => ?_) (fun c => ?_))
      · replace H := sh_okT c H
        show wq_276 d Q 102 [oR 12 0, oI l1, oI l2, oI (h.1 13 46 (l1 + (1 : Int32)).toNatClampNeg), oI (h.1 13 46 (l1 + (2 : Int32)).toNatClampNeg), oI v1] [aI (6 : Int32), aR 13 53] (sh_E h)
        refine ai_WP_steps mc_276 (sh_CM d) 2 ?_
        exact x_M_reason_b107 N hd h hR l1 (h.1 13 46 (l1 + (2 : Int32)).toNatClampNeg) 53 (6 : Int32) (h.1 13 46 (l1 + (1 : Int32)).toNatClampNeg) H
      · replace H := sh_okF c H
        show wq_276 d Q 106 [oR 12 0, oI l1, oI l2, oI (h.1 13 46 (l1 + (1 : Int32)).toNatClampNeg), oI (h.1 13 46 (l1 + (2 : Int32)).toNatClampNeg), oI v1] [aI (6 : Int32), aR 13 53] (sh_E h)
        refine ai_WP_steps mc_276 (sh_CM d) 1 ?_
        exact x_M_reason_b107 N hd h hR l1 (h.1 13 46 (l1 + (2 : Int32)).toNatClampNeg) 53 (6 : Int32) (0 : Int32) H
def f_M_layTills_c9 (N : Nat)  (k38 : Int32 → sh_H → Option sh_H) (k9 : Int32 → Int32 → sh_H → Option sh_H) (l1 : Int32) (l2 : Int32) (h : sh_H) : Option sh_H := (if l2 < (6 : Int32) then (Option.bind (f_M_all N l1 l2 h) (fun v1 => (if ai_in (((6 : Int32) * l1) + l2) 30 then (sh_let (sh_pI h 13 53 (((6 : Int32) * l1) + l2).toNatClampNeg v1) (fun h2 => k9 l1 (l2 + (1 : Int32)) h2)) else none))) else k38 l1 h)
def f_M_layTills_l9 (N : Nat)  (k38 : Int32 → sh_H → Option sh_H) (n : Nat) : Int32 → Int32 → sh_H → Option sh_H := Nat.rec (motive := fun _ => Int32 → Int32 → sh_H → Option sh_H) (fun _ _ _ => none) (fun _ k9 => f_M_layTills_c9 N k38 k9) n
theorem x_M_layTills_l9 (N : Nat) {d : Nat} (hd : 2 ≤ d) {Q : ai_Q} {R : sh_H → Prop} (hR : ∀ h, R h → Q none (sh_E h))  (k38 : Int32 → sh_H → Option sh_H) (hk38 : ∀ (l1 : Int32) {d2 : Option ai_V} (h : sh_H), sh_ok (k38 l1 h) R → wq_277 d Q 38 [oR 12 0, oI l1, d2] [] (sh_E h)) (n : Nat) : ∀ (l1 : Int32) (l2 : Int32) (h : sh_H), sh_ok (f_M_layTills_l9 N k38 n l1 l2 h) R → wq_277 d Q 9 [oR 12 0, oI l1, oI l2] [] (sh_E h) := by
  induction n with
  | zero => intro l1 l2 h H; exact H.elim
  | succ n ih =>
    intro l1 l2 h H
    have hk9 := @ih
    replace H : sh_ok (f_M_layTills_c9 N k38 (f_M_layTills_l9 N k38 n) l1 l2 h) R := H
    revert hk9 H
    generalize f_M_layTills_l9 N k38 n = k9
    intro hk9 H
    refine ai_WP_steps mc_277 (sh_CM d) 3 (And.intro (fun c => ?_) (fun c => ?_))
    · replace H := sh_okT c H
      show wq_277 d Q 15 [oR 12 0, oI l1, oI l2] [] (sh_E h)
      refine ai_WP_steps mc_277 (sh_CM d) 11 (And.intro (Nat.le_of_ble_eq_true rfl) (x_M_all N (Nat.le_trans (Nat.le_of_ble_eq_true rfl) hd) l1 l2 h (sh_okB H) (fun v1 H => ?_)))
      show wq_277 d Q 31 [oR 12 0, oI l1, oI l2] [aI v1, aI (((6 : Int32) * l1) + l2), aR 13 53] (sh_E h)
      have c := sh_okG H
      replace H := sh_okH H
      refine ai_WP_steps mc_277 (sh_CM d) 1 (And.intro c ?_)
      show wq_277 d Q 32 [oR 12 0, oI l1, oI l2] [] (sh_E (sh_pI h 13 53 (((6 : Int32) * l1) + l2).toNatClampNeg v1))
      replace H := sh_okL H
      generalize sh_pI h 13 53 (((6 : Int32) * l1) + l2).toNatClampNeg v1 = h2 at H ⊢
      refine ai_WP_steps mc_277 (sh_CM d) 2 ?_
      exact hk9 l1 (l2 + (1 : Int32)) h2 H
    · replace H := sh_okF c H
      exact hk38 l1 h H
def f_M_layTills_b38 (N : Nat)  (k2 : Int32 → sh_H → Option sh_H) (l1 : Int32) (h : sh_H) : Option sh_H := k2 (l1 + (1 : Int32)) h
theorem x_M_layTills_b38 (N : Nat) {d : Nat} (hd : 2 ≤ d) {Q : ai_Q} {R : sh_H → Prop} (hR : ∀ h, R h → Q none (sh_E h))  (k2 : Int32 → sh_H → Option sh_H) (hk2 : ∀ (l1 : Int32) {d2 : Option ai_V} (h : sh_H), sh_ok (k2 l1 h) R → wq_277 d Q 2 [oR 12 0, oI l1, d2] [] (sh_E h)) (l1 : Int32) {d2 : Option ai_V} (h : sh_H) (H : sh_ok (f_M_layTills_b38 N k2 l1 h) R) : wq_277 d Q 38 [oR 12 0, oI l1, d2] [] (sh_E h) := by
  refine ai_WP_steps mc_277 (sh_CM d) 2 ?_
  exact hk2 (l1 + (1 : Int32)) h H
def f_M_layTills_c2 (N : Nat)   (k2 : Int32 → sh_H → Option sh_H) (l1 : Int32) (h : sh_H) : Option sh_H := (if l1 < (5 : Int32) then f_M_layTills_l9 N (f_M_layTills_b38 N k2) N l1 (0 : Int32) h else (some h))
def f_M_layTills_l2 (N : Nat)   (n : Nat) : Int32 → sh_H → Option sh_H := Nat.rec (motive := fun _ => Int32 → sh_H → Option sh_H) (fun _ _ => none) (fun _ k2 => f_M_layTills_c2 N k2) n
theorem x_M_layTills_l2 (N : Nat) {d : Nat} (hd : 2 ≤ d) {Q : ai_Q} {R : sh_H → Prop} (hR : ∀ h, R h → Q none (sh_E h))   (n : Nat) : ∀ (l1 : Int32) {d2 : Option ai_V} (h : sh_H), sh_ok (f_M_layTills_l2 N n l1 h) R → wq_277 d Q 2 [oR 12 0, oI l1, d2] [] (sh_E h) := by
  induction n with
  | zero => intro l1 d2 h H; exact H.elim
  | succ n ih =>
    intro l1 d2 h H
    have hk2 := @ih
    replace H : sh_ok (f_M_layTills_c2 N (f_M_layTills_l2 N n) l1 h) R := H
    revert hk2 H
    generalize f_M_layTills_l2 N n = k2
    intro hk2 H
    refine ai_WP_steps mc_277 (sh_CM d) 3 (And.intro (fun c => ?_) (fun c => ?_))
    · replace H := sh_okT c H
      show wq_277 d Q 7 [oR 12 0, oI l1, _] [] (sh_E h)
      refine ai_WP_steps mc_277 (sh_CM d) 2 ?_
      exact x_M_layTills_l9 N hd hR (f_M_layTills_b38 N k2) (fun z0 {e2} h H => x_M_layTills_b38 N hd hR k2 hk2 z0 h H) N l1 (0 : Int32) h H
    · replace H := sh_okF c H
      show wq_277 d Q 44 [oR 12 0, oI l1, _] [] (sh_E h)
      exact ai_WP_steps mc_277 (sh_CM d) 1 (hR h H)
def f_M_layTills (N : Nat)   (h : sh_H) : Option sh_H := f_M_layTills_l2 N N (0 : Int32) h
theorem x_M_layTills (N : Nat) {d : Nat} (hd : 3 ≤ d)  (h : sh_H) {Q : ai_Q} {R : sh_H → Prop} (H : sh_ok (f_M_layTills N h) R) (hR : ∀ h, R h → Q none (sh_E h)) : ai_Ex sh_T d 277 [aR 12 0] (sh_E h) Q := by
  obtain ⟨d, rfl⟩ : ∃ e, d = e + 1 := ⟨d - 1, by omega⟩
  replace hd : 2 ≤ d := by omega
  refine And.intro (Nat.le_of_ble_eq_true rfl) ?_
  show wq_277 d Q 0 [oR 12 0, none, none] [] (sh_E h)
  refine ai_WP_steps mc_277 (sh_CM d) 2 ?_
  exact x_M_layTills_l2 N hd hR N (0 : Int32) h H
def f_M_judgeAll_c32 (N : Nat)  (k50 : Int32 → sh_H → Option sh_H) (k32 : Int32 → Int32 → sh_H → Option sh_H) (l1 : Int32) (l2 : Int32) (h : sh_H) : Option sh_H := (if l2 < (5 : Int32) then (if ai_in l2 5 then (sh_let (sh_pI h 13 52 l2.toNatClampNeg (0 : Int32)) (fun h1 => k32 l1 (l2 + (1 : Int32)) h1)) else none) else k50 l1 h)
def f_M_judgeAll_l32 (N : Nat)  (k50 : Int32 → sh_H → Option sh_H) (n : Nat) : Int32 → Int32 → sh_H → Option sh_H := Nat.rec (motive := fun _ => Int32 → Int32 → sh_H → Option sh_H) (fun _ _ _ => none) (fun _ k32 => f_M_judgeAll_c32 N k50 k32) n
theorem x_M_judgeAll_l32 (N : Nat) {d : Nat} (hd : 3 ≤ d) {Q : ai_Q} {R : sh_H → Prop} (hR : ∀ h, R h → Q none (sh_E h))  (k50 : Int32 → sh_H → Option sh_H) (hk50 : ∀ (l1 : Int32) {d2 d3 d4 d5 d6 : Option ai_V} (h : sh_H), sh_ok (k50 l1 h) R → wq_278 d Q 50 [oR 12 0, oI l1, d2, d3, d4, d5, d6] [] (sh_E h)) (n : Nat) : ∀ (l1 : Int32) (l2 : Int32) {d3 d4 d5 d6 : Option ai_V} (h : sh_H), sh_ok (f_M_judgeAll_l32 N k50 n l1 l2 h) R → wq_278 d Q 32 [oR 12 0, oI l1, oI l2, d3, d4, d5, d6] [] (sh_E h) := by
  induction n with
  | zero => intro l1 l2 d3 d4 d5 d6 h H; exact H.elim
  | succ n ih =>
    intro l1 l2 d3 d4 d5 d6 h H
    have hk32 := @ih
    replace H : sh_ok (f_M_judgeAll_c32 N k50 (f_M_judgeAll_l32 N k50 n) l1 l2 h) R := H
    revert hk32 H
    generalize f_M_judgeAll_l32 N k50 n = k32
    intro hk32 H
    refine ai_WP_steps mc_278 (sh_CM d) 3 (And.intro (fun c => ?_) (fun c => ?_))
    · replace H := sh_okT c H
      show wq_278 d Q 37 [oR 12 0, oI l1, oI l2, _, _, _, _] [] (sh_E h)
      have c := sh_okG H
      replace H := sh_okH H
      refine ai_WP_steps mc_278 (sh_CM d) 5 (And.intro c ?_)
      show wq_278 d Q 44 [oR 12 0, oI l1, oI l2, _, _, _, _] [] (sh_E (sh_pI h 13 52 l2.toNatClampNeg (0 : Int32)))
      replace H := sh_okL H
      generalize sh_pI h 13 52 l2.toNatClampNeg (0 : Int32) = h1 at H ⊢
      refine ai_WP_steps mc_278 (sh_CM d) 2 ?_
      exact hk32 l1 (l2 + (1 : Int32)) h1 H
    · replace H := sh_okF c H
      exact hk50 l1 h H
def f_M_judgeAll_b270 (N : Nat)  (k52 : Int32 → Int32 → sh_H → Option sh_H) (l1 : Int32) (l2 : Int32) (h : sh_H) : Option sh_H := k52 l1 (l2 + (1 : Int32)) h
theorem x_M_judgeAll_b270 (N : Nat) {d : Nat} (hd : 3 ≤ d) {Q : ai_Q} {R : sh_H → Prop} (hR : ∀ h, R h → Q none (sh_E h))  (k52 : Int32 → Int32 → sh_H → Option sh_H) (hk52 : ∀ (l1 : Int32) (l2 : Int32) {d3 d4 d5 d6 : Option ai_V} (h : sh_H), sh_ok (k52 l1 l2 h) R → wq_278 d Q 52 [oR 12 0, oI l1, oI l2, d3, d4, d5, d6] [] (sh_E h)) (l1 : Int32) (l2 : Int32) {d3 d4 d5 d6 : Option ai_V} (h : sh_H) (H : sh_ok (f_M_judgeAll_b270 N k52 l1 l2 h) R) : wq_278 d Q 270 [oR 12 0, oI l1, oI l2, d3, d4, d5, d6] [] (sh_E h) := by
  refine ai_WP_steps mc_278 (sh_CM d) 2 ?_
  exact hk52 l1 (l2 + (1 : Int32)) h H
def f_M_judgeAll_b240 (N : Nat)  (k52 : Int32 → Int32 → sh_H → Option sh_H) (l1 : Int32) (l2 : Int32) (l3 : Int32) (l6 : Int32) (h : sh_H) : Option sh_H := (if ai_in (l3 + (2 : Int32)) 8000 then (if ai_in (((6 : Int32) * l6) + (h.1 13 46 (l3 + (2 : Int32)).toNatClampNeg)) 30 then (if ai_in (l3 + (3 : Int32)) 8000 then (if ai_in (((6 : Int32) * l6) + (h.1 13 46 (l3 + (2 : Int32)).toNatClampNeg)) 30 then (sh_let (sh_pI h 13 53 (((6 : Int32) * l6) + (h.1 13 46 (l3 + (2 : Int32)).toNatClampNeg)).toNatClampNeg ((h.1 13 53 (((6 : Int32) * l6) + (h.1 13 46 (l3 + (2 : Int32)).toNatClampNeg)).toNatClampNeg) + (h.1 13 46 (l3 + (3 : Int32)).toNatClampNeg))) (fun h2 => f_M_judgeAll_b270 N k52 l1 l2 h2)) else none) else none) else none) else none)
theorem x_M_judgeAll_b240 (N : Nat) {d : Nat} (hd : 3 ≤ d) {Q : ai_Q} {R : sh_H → Prop} (hR : ∀ h, R h → Q none (sh_E h))  (k52 : Int32 → Int32 → sh_H → Option sh_H) (hk52 : ∀ (l1 : Int32) (l2 : Int32) {d3 d4 d5 d6 : Option ai_V} (h : sh_H), sh_ok (k52 l1 l2 h) R → wq_278 d Q 52 [oR 12 0, oI l1, oI l2, d3, d4, d5, d6] [] (sh_E h)) (l1 : Int32) (l2 : Int32) (l3 : Int32) (l6 : Int32) {d4 d5 : Option ai_V} (h : sh_H) (H : sh_ok (f_M_judgeAll_b240 N k52 l1 l2 l3 l6 h) R) : wq_278 d Q 240 [oR 12 0, oI l1, oI l2, oI l3, d4, d5, oI l6] [] (sh_E h) := by
  have c := sh_okG H
  replace H := sh_okH H
  refine ai_WP_steps mc_278 (sh_CM d) 11 (And.intro c ?_)
  show wq_278 d Q 257 [oR 12 0, oI l1, oI l2, oI l3, _, _, oI l6] [aI (h.1 13 46 (l3 + (2 : Int32)).toNatClampNeg), aI ((6 : Int32) * l6), aR 13 53] (sh_E h)
  have c := sh_okG H
  replace H := sh_okH H
  refine ai_WP_steps mc_278 (sh_CM d) 3 (And.intro c ?_)
  show wq_278 d Q 260 [oR 12 0, oI l1, oI l2, oI l3, _, _, oI l6] [aI (h.1 13 53 (((6 : Int32) * l6) + (h.1 13 46 (l3 + (2 : Int32)).toNatClampNeg)).toNatClampNeg), aI (((6 : Int32) * l6) + (h.1 13 46 (l3 + (2 : Int32)).toNatClampNeg)), aR 13 53] (sh_E h)
  have c := sh_okG H
  replace H := sh_okH H
  refine ai_WP_steps mc_278 (sh_CM d) 6 (And.intro c ?_)
  show wq_278 d Q 268 [oR 12 0, oI l1, oI l2, oI l3, _, _, oI l6] [aI (h.1 13 46 (l3 + (3 : Int32)).toNatClampNeg), aI (h.1 13 53 (((6 : Int32) * l6) + (h.1 13 46 (l3 + (2 : Int32)).toNatClampNeg)).toNatClampNeg), aI (((6 : Int32) * l6) + (h.1 13 46 (l3 + (2 : Int32)).toNatClampNeg)), aR 13 53] (sh_E h)
  have c := sh_okG H
  replace H := sh_okH H
  refine ai_WP_steps mc_278 (sh_CM d) 2 (And.intro c ?_)
  show wq_278 d Q 270 [oR 12 0, oI l1, oI l2, oI l3, _, _, oI l6] [] (sh_E (sh_pI h 13 53 (((6 : Int32) * l6) + (h.1 13 46 (l3 + (2 : Int32)).toNatClampNeg)).toNatClampNeg ((h.1 13 53 (((6 : Int32) * l6) + (h.1 13 46 (l3 + (2 : Int32)).toNatClampNeg)).toNatClampNeg) + (h.1 13 46 (l3 + (3 : Int32)).toNatClampNeg))))
  replace H := sh_okL H
  generalize sh_pI h 13 53 (((6 : Int32) * l6) + (h.1 13 46 (l3 + (2 : Int32)).toNatClampNeg)).toNatClampNeg ((h.1 13 53 (((6 : Int32) * l6) + (h.1 13 46 (l3 + (2 : Int32)).toNatClampNeg)).toNatClampNeg) + (h.1 13 46 (l3 + (3 : Int32)).toNatClampNeg)) = h2 at H ⊢
  exact x_M_judgeAll_b270 N hd hR k52 hk52 l1 l2 h2 H
def f_M_judgeAll_b210 (N : Nat)  (k52 : Int32 → Int32 → sh_H → Option sh_H) (l1 : Int32) (l2 : Int32) (l3 : Int32) (l5 : Int32) (l6 : Int32) (h : sh_H) : Option sh_H := (if ai_in (l3 + (2 : Int32)) 8000 then (if ai_in (((6 : Int32) * l5) + (h.1 13 46 (l3 + (2 : Int32)).toNatClampNeg)) 30 then (if ai_in (l3 + (3 : Int32)) 8000 then (if ai_in (((6 : Int32) * l5) + (h.1 13 46 (l3 + (2 : Int32)).toNatClampNeg)) 30 then (sh_let (sh_pI h 13 53 (((6 : Int32) * l5) + (h.1 13 46 (l3 + (2 : Int32)).toNatClampNeg)).toNatClampNeg ((h.1 13 53 (((6 : Int32) * l5) + (h.1 13 46 (l3 + (2 : Int32)).toNatClampNeg)).toNatClampNeg) - (h.1 13 46 (l3 + (3 : Int32)).toNatClampNeg))) (fun h3 => f_M_judgeAll_b240 N k52 l1 l2 l3 l6 h3)) else none) else none) else none) else none)
theorem x_M_judgeAll_b210 (N : Nat) {d : Nat} (hd : 3 ≤ d) {Q : ai_Q} {R : sh_H → Prop} (hR : ∀ h, R h → Q none (sh_E h))  (k52 : Int32 → Int32 → sh_H → Option sh_H) (hk52 : ∀ (l1 : Int32) (l2 : Int32) {d3 d4 d5 d6 : Option ai_V} (h : sh_H), sh_ok (k52 l1 l2 h) R → wq_278 d Q 52 [oR 12 0, oI l1, oI l2, d3, d4, d5, d6] [] (sh_E h)) (l1 : Int32) (l2 : Int32) (l3 : Int32) (l5 : Int32) (l6 : Int32) {d4 : Option ai_V} (h : sh_H) (H : sh_ok (f_M_judgeAll_b210 N k52 l1 l2 l3 l5 l6 h) R) : wq_278 d Q 210 [oR 12 0, oI l1, oI l2, oI l3, d4, oI l5, oI l6] [] (sh_E h) := by
  have c := sh_okG H
  replace H := sh_okH H
  refine ai_WP_steps mc_278 (sh_CM d) 11 (And.intro c ?_)
  show wq_278 d Q 227 [oR 12 0, oI l1, oI l2, oI l3, _, oI l5, oI l6] [aI (h.1 13 46 (l3 + (2 : Int32)).toNatClampNeg), aI ((6 : Int32) * l5), aR 13 53] (sh_E h)
  have c := sh_okG H
  replace H := sh_okH H
  refine ai_WP_steps mc_278 (sh_CM d) 3 (And.intro c ?_)
  show wq_278 d Q 230 [oR 12 0, oI l1, oI l2, oI l3, _, oI l5, oI l6] [aI (h.1 13 53 (((6 : Int32) * l5) + (h.1 13 46 (l3 + (2 : Int32)).toNatClampNeg)).toNatClampNeg), aI (((6 : Int32) * l5) + (h.1 13 46 (l3 + (2 : Int32)).toNatClampNeg)), aR 13 53] (sh_E h)
  have c := sh_okG H
  replace H := sh_okH H
  refine ai_WP_steps mc_278 (sh_CM d) 6 (And.intro c ?_)
  show wq_278 d Q 238 [oR 12 0, oI l1, oI l2, oI l3, _, oI l5, oI l6] [aI (h.1 13 46 (l3 + (3 : Int32)).toNatClampNeg), aI (h.1 13 53 (((6 : Int32) * l5) + (h.1 13 46 (l3 + (2 : Int32)).toNatClampNeg)).toNatClampNeg), aI (((6 : Int32) * l5) + (h.1 13 46 (l3 + (2 : Int32)).toNatClampNeg)), aR 13 53] (sh_E h)
  have c := sh_okG H
  replace H := sh_okH H
  refine ai_WP_steps mc_278 (sh_CM d) 2 (And.intro c ?_)
  show wq_278 d Q 240 [oR 12 0, oI l1, oI l2, oI l3, _, oI l5, oI l6] [] (sh_E (sh_pI h 13 53 (((6 : Int32) * l5) + (h.1 13 46 (l3 + (2 : Int32)).toNatClampNeg)).toNatClampNeg ((h.1 13 53 (((6 : Int32) * l5) + (h.1 13 46 (l3 + (2 : Int32)).toNatClampNeg)).toNatClampNeg) - (h.1 13 46 (l3 + (3 : Int32)).toNatClampNeg))))
  replace H := sh_okL H
  generalize sh_pI h 13 53 (((6 : Int32) * l5) + (h.1 13 46 (l3 + (2 : Int32)).toNatClampNeg)).toNatClampNeg ((h.1 13 53 (((6 : Int32) * l5) + (h.1 13 46 (l3 + (2 : Int32)).toNatClampNeg)).toNatClampNeg) - (h.1 13 46 (l3 + (3 : Int32)).toNatClampNeg)) = h3 at H ⊢
  exact x_M_judgeAll_b240 N hd hR k52 hk52 l1 l2 l3 l6 h3 H
def f_M_judgeAll_b163 (N : Nat)  (k52 : Int32 → Int32 → sh_H → Option sh_H) (l1 : Int32) (l2 : Int32) (l3 : Int32) (l5 : Int32) (s0 : Int32) (h : sh_H) : Option sh_H := (if ai_in (l3 + (1 : Int32)) 8000 then (if ai_in (h.1 13 46 (l3 + (1 : Int32)).toNatClampNeg) 5 then (if ai_in (l3 + (3 : Int32)) 8000 then (if ai_in (l3 + (2 : Int32)) 8000 then (if ai_in (((20 : Int32) + ((3 : Int32) * (h.1 13 46 (l3 + (2 : Int32)).toNatClampNeg))) + (1 : Int32)) 8000 then (if ai_in (h.1 13 46 (l3 + (1 : Int32)).toNatClampNeg) 5 then (sh_let (sh_pI h 13 52 (h.1 13 46 (l3 + (1 : Int32)).toNatClampNeg).toNatClampNeg ((h.1 13 52 (h.1 13 46 (l3 + (1 : Int32)).toNatClampNeg).toNatClampNeg) + ((h.1 13 46 (l3 + (3 : Int32)).toNatClampNeg) * (h.1 13 46 (((20 : Int32) + ((3 : Int32) * (h.1 13 46 (l3 + (2 : Int32)).toNatClampNeg))) + (1 : Int32)).toNatClampNeg)))) (fun h4 => f_M_judgeAll_b210 N k52 l1 l2 l3 l5 s0 h4)) else none) else none) else none) else none) else none) else none)
theorem x_M_judgeAll_b163 (N : Nat) {d : Nat} (hd : 3 ≤ d) {Q : ai_Q} {R : sh_H → Prop} (hR : ∀ h, R h → Q none (sh_E h))  (k52 : Int32 → Int32 → sh_H → Option sh_H) (hk52 : ∀ (l1 : Int32) (l2 : Int32) {d3 d4 d5 d6 : Option ai_V} (h : sh_H), sh_ok (k52 l1 l2 h) R → wq_278 d Q 52 [oR 12 0, oI l1, oI l2, d3, d4, d5, d6] [] (sh_E h)) (l1 : Int32) (l2 : Int32) (l3 : Int32) (l5 : Int32) (s0 : Int32) {d4 d6 : Option ai_V} (h : sh_H) (H : sh_ok (f_M_judgeAll_b163 N k52 l1 l2 l3 l5 s0 h) R) : wq_278 d Q 163 [oR 12 0, oI l1, oI l2, oI l3, d4, oI l5, d6] [aI s0] (sh_E h) := by
  have c := sh_okG H
  replace H := sh_okH H
  refine ai_WP_steps mc_278 (sh_CM d) 9 (And.intro c ?_)
  show wq_278 d Q 177 [oR 12 0, oI l1, oI l2, oI l3, _, oI l5, oI s0] [aI (h.1 13 46 (l3 + (1 : Int32)).toNatClampNeg), aR 13 52] (sh_E h)
  have c := sh_okG H
  replace H := sh_okH H
  refine ai_WP_steps mc_278 (sh_CM d) 2 (And.intro c ?_)
  show wq_278 d Q 179 [oR 12 0, oI l1, oI l2, oI l3, _, oI l5, oI s0] [aI (h.1 13 52 (h.1 13 46 (l3 + (1 : Int32)).toNatClampNeg).toNatClampNeg), aI (h.1 13 46 (l3 + (1 : Int32)).toNatClampNeg), aR 13 52] (sh_E h)
  have c := sh_okG H
  replace H := sh_okH H
  refine ai_WP_steps mc_278 (sh_CM d) 6 (And.intro c ?_)
  show wq_278 d Q 187 [oR 12 0, oI l1, oI l2, oI l3, _, oI l5, oI s0] [aI (h.1 13 46 (l3 + (3 : Int32)).toNatClampNeg), aI (h.1 13 52 (h.1 13 46 (l3 + (1 : Int32)).toNatClampNeg).toNatClampNeg), aI (h.1 13 46 (l3 + (1 : Int32)).toNatClampNeg), aR 13 52] (sh_E h)
  have c := sh_okG H
  replace H := sh_okH H
  refine ai_WP_steps mc_278 (sh_CM d) 10 (And.intro c ?_)
  show wq_278 d Q 202 [oR 12 0, oI l1, oI l2, oI l3, _, oI l5, oI s0] [aI (h.1 13 46 (l3 + (2 : Int32)).toNatClampNeg), aI (3 : Int32), aI (20 : Int32), aR 13 46, aI (h.1 13 46 (l3 + (3 : Int32)).toNatClampNeg), aI (h.1 13 52 (h.1 13 46 (l3 + (1 : Int32)).toNatClampNeg).toNatClampNeg), aI (h.1 13 46 (l3 + (1 : Int32)).toNatClampNeg), aR 13 52] (sh_E h)
  have c := sh_okG H
  replace H := sh_okH H
  refine ai_WP_steps mc_278 (sh_CM d) 5 (And.intro c ?_)
  show wq_278 d Q 207 [oR 12 0, oI l1, oI l2, oI l3, _, oI l5, oI s0] [aI (h.1 13 46 (((20 : Int32) + ((3 : Int32) * (h.1 13 46 (l3 + (2 : Int32)).toNatClampNeg))) + (1 : Int32)).toNatClampNeg), aI (h.1 13 46 (l3 + (3 : Int32)).toNatClampNeg), aI (h.1 13 52 (h.1 13 46 (l3 + (1 : Int32)).toNatClampNeg).toNatClampNeg), aI (h.1 13 46 (l3 + (1 : Int32)).toNatClampNeg), aR 13 52] (sh_E h)
  have c := sh_okG H
  replace H := sh_okH H
  refine ai_WP_steps mc_278 (sh_CM d) 3 (And.intro c ?_)
  show wq_278 d Q 210 [oR 12 0, oI l1, oI l2, oI l3, _, oI l5, oI s0] [] (sh_E (sh_pI h 13 52 (h.1 13 46 (l3 + (1 : Int32)).toNatClampNeg).toNatClampNeg ((h.1 13 52 (h.1 13 46 (l3 + (1 : Int32)).toNatClampNeg).toNatClampNeg) + ((h.1 13 46 (l3 + (3 : Int32)).toNatClampNeg) * (h.1 13 46 (((20 : Int32) + ((3 : Int32) * (h.1 13 46 (l3 + (2 : Int32)).toNatClampNeg))) + (1 : Int32)).toNatClampNeg)))))
  replace H := sh_okL H
  generalize sh_pI h 13 52 (h.1 13 46 (l3 + (1 : Int32)).toNatClampNeg).toNatClampNeg ((h.1 13 52 (h.1 13 46 (l3 + (1 : Int32)).toNatClampNeg).toNatClampNeg) + ((h.1 13 46 (l3 + (3 : Int32)).toNatClampNeg) * (h.1 13 46 (((20 : Int32) + ((3 : Int32) * (h.1 13 46 (l3 + (2 : Int32)).toNatClampNeg))) + (1 : Int32)).toNatClampNeg))) = h4 at H ⊢
  exact x_M_judgeAll_b210 N hd hR k52 hk52 l1 l2 l3 l5 s0 h4 H
def f_M_judgeAll_b137 (N : Nat)  (k52 : Int32 → Int32 → sh_H → Option sh_H) (l1 : Int32) (l2 : Int32) (l3 : Int32) (s0 : Int32) (h : sh_H) : Option sh_H := (if ai_in (l3 + (4 : Int32)) 8000 then (if (h.1 13 46 (l3 + (4 : Int32)).toNatClampNeg) = (1 : Int32) then f_M_judgeAll_b163 N k52 l1 l2 l3 s0 (0 : Int32) h else (if ai_in (l3 + (1 : Int32)) 8000 then f_M_judgeAll_b163 N k52 l1 l2 l3 s0 (h.1 13 46 (l3 + (1 : Int32)).toNatClampNeg) h else none)) else none)
theorem x_M_judgeAll_b137 (N : Nat) {d : Nat} (hd : 3 ≤ d) {Q : ai_Q} {R : sh_H → Prop} (hR : ∀ h, R h → Q none (sh_E h))  (k52 : Int32 → Int32 → sh_H → Option sh_H) (hk52 : ∀ (l1 : Int32) (l2 : Int32) {d3 d4 d5 d6 : Option ai_V} (h : sh_H), sh_ok (k52 l1 l2 h) R → wq_278 d Q 52 [oR 12 0, oI l1, oI l2, d3, d4, d5, d6] [] (sh_E h)) (l1 : Int32) (l2 : Int32) (l3 : Int32) (s0 : Int32) {d4 d5 d6 : Option ai_V} (h : sh_H) (H : sh_ok (f_M_judgeAll_b137 N k52 l1 l2 l3 s0 h) R) : wq_278 d Q 137 [oR 12 0, oI l1, oI l2, oI l3, d4, d5, d6] [aI s0] (sh_E h) := by
  have c := sh_okG H
  replace H := sh_okH H
  refine ai_WP_steps mc_278 (sh_CM d) 7 (And.intro c ?_)
  show wq_278 d Q 147 [oR 12 0, oI l1, oI l2, oI l3, _, oI s0, _] [aI (h.1 13 46 (l3 + (4 : Int32)).toNatClampNeg)] (sh_E h)
  refine ai_WP_steps mc_278 (sh_CM d) 2 (And.intro (fun c => ?_) (fun c => ?_))
  · replace H := sh_okT c H
    show wq_278 d Q 151 [oR 12 0, oI l1, oI l2, oI l3, _, oI s0, _] [] (sh_E h)
    refine ai_WP_steps mc_278 (sh_CM d) 2 ?_
    exact x_M_judgeAll_b163 N hd hR k52 hk52 l1 l2 l3 s0 (0 : Int32) h H
  · replace H := sh_okF c H
    show wq_278 d Q 155 [oR 12 0, oI l1, oI l2, oI l3, _, oI s0, _] [] (sh_E h)
    have c := sh_okG H
    replace H := sh_okH H
    refine ai_WP_steps mc_278 (sh_CM d) 6 (And.intro c ?_)
    show wq_278 d Q 163 [oR 12 0, oI l1, oI l2, oI l3, _, oI s0, _] [aI (h.1 13 46 (l3 + (1 : Int32)).toNatClampNeg)] (sh_E h)
    exact x_M_judgeAll_b163 N hd hR k52 hk52 l1 l2 l3 s0 (h.1 13 46 (l3 + (1 : Int32)).toNatClampNeg) h H
def f_M_judgeAll_c52 (N : Nat)  (k101 : Int32 → Int32 → sh_H → Option sh_H) (k276 : Int32 → sh_H → Option sh_H) (k52 : Int32 → Int32 → sh_H → Option sh_H) (l1 : Int32) (l2 : Int32) (h : sh_H) : Option sh_H := (if ai_in (7 : Int32) 8000 then (if l2 < (h.1 13 46 (7 : Int32).toNatClampNeg) then (if ai_in ((310 : Int32) + ((6 : Int32) * l2)) 8000 then (if (h.1 13 46 ((310 : Int32) + ((6 : Int32) * l2)).toNatClampNeg) = l1 then (if ¬ (12 : Int32) = 0 then (Option.bind (f_M_reason N ((310 : Int32) + ((6 : Int32) * l2)) (l1 - l1 / (12 : Int32) * (12 : Int32)) h) (fun v5 => (if 0 < v5 then k101 l2 v5 h else (if ai_in (((310 : Int32) + ((6 : Int32) * l2)) + (4 : Int32)) 8000 then (if (h.1 13 46 (((310 : Int32) + ((6 : Int32) * l2)) + (4 : Int32)).toNatClampNeg) = (1 : Int32) then (if ai_in (((310 : Int32) + ((6 : Int32) * l2)) + (1 : Int32)) 8000 then f_M_judgeAll_b137 N k52 l1 l2 ((310 : Int32) + ((6 : Int32) * l2)) (h.1 13 46 (((310 : Int32) + ((6 : Int32) * l2)) + (1 : Int32)).toNatClampNeg) h else none) else f_M_judgeAll_b137 N k52 l1 l2 ((310 : Int32) + ((6 : Int32) * l2)) (0 : Int32) h) else none)))) else none) else f_M_judgeAll_b270 N k52 l1 l2 h) else none) else k276 l1 h) else none)
def f_M_judgeAll_l52 (N : Nat)  (k101 : Int32 → Int32 → sh_H → Option sh_H) (k276 : Int32 → sh_H → Option sh_H) (n : Nat) : Int32 → Int32 → sh_H → Option sh_H := Nat.rec (motive := fun _ => Int32 → Int32 → sh_H → Option sh_H) (fun _ _ _ => none) (fun _ k52 => f_M_judgeAll_c52 N k101 k276 k52) n
theorem x_M_judgeAll_l52 (N : Nat) {d : Nat} (hd : 3 ≤ d) {Q : ai_Q} {R : sh_H → Prop} (hR : ∀ h, R h → Q none (sh_E h))  (k101 : Int32 → Int32 → sh_H → Option sh_H) (hk101 : ∀ (l2 : Int32) (l4 : Int32) {d1 d3 d5 d6 : Option ai_V} (h : sh_H), sh_ok (k101 l2 l4 h) R → wq_278 d Q 101 [oR 12 0, d1, oI l2, d3, oI l4, d5, d6] [] (sh_E h)) (k276 : Int32 → sh_H → Option sh_H) (hk276 : ∀ (l1 : Int32) {d2 d3 d4 d5 d6 : Option ai_V} (h : sh_H), sh_ok (k276 l1 h) R → wq_278 d Q 276 [oR 12 0, oI l1, d2, d3, d4, d5, d6] [] (sh_E h)) (n : Nat) : ∀ (l1 : Int32) (l2 : Int32) {d3 d4 d5 d6 : Option ai_V} (h : sh_H), sh_ok (f_M_judgeAll_l52 N k101 k276 n l1 l2 h) R → wq_278 d Q 52 [oR 12 0, oI l1, oI l2, d3, d4, d5, d6] [] (sh_E h) := by
  induction n with
  | zero => intro l1 l2 d3 d4 d5 d6 h H; exact H.elim
  | succ n ih =>
    intro l1 l2 d3 d4 d5 d6 h H
    have hk52 := @ih
    replace H : sh_ok (f_M_judgeAll_c52 N k101 k276 (f_M_judgeAll_l52 N k101 k276 n) l1 l2 h) R := H
    revert hk52 H
    generalize f_M_judgeAll_l52 N k101 k276 n = k52
    intro hk52 H
    have c := sh_okG H
    replace H := sh_okH H
    refine ai_WP_steps mc_278 (sh_CM d) 5 (And.intro c ?_)
    show wq_278 d Q 60 [oR 12 0, oI l1, oI l2, _, _, _, _] [aI (h.1 13 46 (7 : Int32).toNatClampNeg), aI l2] (sh_E h)
    refine ai_WP_steps mc_278 (sh_CM d) 1 (And.intro (fun c => ?_) (fun c => ?_))
    · replace H := sh_okT c H
      show wq_278 d Q 63 [oR 12 0, oI l1, oI l2, _, _, _, _] [] (sh_E h)
      have c := sh_okG H
      replace H := sh_okH H
      refine ai_WP_steps mc_278 (sh_CM d) 10 (And.intro c ?_)
      show wq_278 d Q 78 [oR 12 0, oI l1, oI l2, oI ((310 : Int32) + ((6 : Int32) * l2)), _, _, _] [aI (h.1 13 46 ((310 : Int32) + ((6 : Int32) * l2)).toNatClampNeg)] (sh_E h)
      refine ai_WP_steps mc_278 (sh_CM d) 2 (And.intro (fun c => ?_) (fun c => ?_))
      · replace H := sh_okT c H
        show wq_278 d Q 85 [oR 12 0, oI l1, oI l2, oI ((310 : Int32) + ((6 : Int32) * l2)), _, _, _] [] (sh_E h)
        have c := sh_okG H
        replace H := sh_okH H
        refine ai_WP_steps mc_278 (sh_CM d) 5 (And.intro c ?_)
        show wq_278 d Q 91 [oR 12 0, oI l1, oI l2, oI ((310 : Int32) + ((6 : Int32) * l2)), _, _, _] [aI (l1 - l1 / (12 : Int32) * (12 : Int32)), aI ((310 : Int32) + ((6 : Int32) * l2)), aR 12 0] (sh_E h)
        refine ai_WP_steps mc_278 (sh_CM d) 1 (And.intro (Nat.le_of_ble_eq_true rfl) (x_M_reason N (Nat.le_trans (Nat.le_of_ble_eq_true rfl) hd) ((310 : Int32) + ((6 : Int32) * l2)) (l1 - l1 / (12 : Int32) * (12 : Int32)) h (sh_okB H) (fun v5 H => ?_)))
        show wq_278 d Q 94 [oR 12 0, oI l1, oI l2, oI ((310 : Int32) + ((6 : Int32) * l2)), _, _, _] [aI v5] (sh_E h)
        refine ai_WP_steps mc_278 (sh_CM d) 3 (And.intro (fun c => ?_) (fun c => ?_))
        · replace H := sh_okT c H
          exact hk101 l2 v5 h H
        · replace H := sh_okF c H
          show wq_278 d Q 113 [oR 12 0, oI l1, oI l2, oI ((310 : Int32) + ((6 : Int32) * l2)), oI v5, _, _] [] (sh_E h)
          have c := sh_okG H
          replace H := sh_okH H
          refine ai_WP_steps mc_278 (sh_CM d) 6 (And.intro c ?_)
          show wq_278 d Q 121 [oR 12 0, oI l1, oI l2, oI ((310 : Int32) + ((6 : Int32) * l2)), oI v5, _, _] [aI (h.1 13 46 (((310 : Int32) + ((6 : Int32) * l2)) + (4 : Int32)).toNatClampNeg)] (sh_E h)
          refine ai_WP_steps mc_278 (sh_CM d) 2 (And.intro (fun c => ?_) (fun c => ?_))
          · replace H := sh_okT c H
            show wq_278 d Q 125 [oR 12 0, oI l1, oI l2, oI ((310 : Int32) + ((6 : Int32) * l2)), oI v5, _, _] [] (sh_E h)
            have c := sh_okG H
            replace H := sh_okH H
            refine ai_WP_steps mc_278 (sh_CM d) 6 (And.intro c ?_)
            show wq_278 d Q 133 [oR 12 0, oI l1, oI l2, oI ((310 : Int32) + ((6 : Int32) * l2)), oI v5, _, _] [aI (h.1 13 46 (((310 : Int32) + ((6 : Int32) * l2)) + (1 : Int32)).toNatClampNeg)] (sh_E h)
            refine ai_WP_steps mc_278 (sh_CM d) 1 ?_
            exact x_M_judgeAll_b137 N hd hR k52 hk52 l1 l2 ((310 : Int32) + ((6 : Int32) * l2)) (h.1 13 46 (((310 : Int32) + ((6 : Int32) * l2)) + (1 : Int32)).toNatClampNeg) h H
          · replace H := sh_okF c H
            show wq_278 d Q 136 [oR 12 0, oI l1, oI l2, oI ((310 : Int32) + ((6 : Int32) * l2)), oI v5, _, _] [] (sh_E h)
            refine ai_WP_steps mc_278 (sh_CM d) 1 ?_
            exact x_M_judgeAll_b137 N hd hR k52 hk52 l1 l2 ((310 : Int32) + ((6 : Int32) * l2)) (0 : Int32) h H
      · replace H := sh_okF c H
        show wq_278 d Q 82 [oR 12 0, oI l1, oI l2, oI ((310 : Int32) + ((6 : Int32) * l2)), _, _, _] [] (sh_E h)
        refine ai_WP_steps mc_278 (sh_CM d) 1 ?_
        exact x_M_judgeAll_b270 N hd hR k52 hk52 l1 l2 h H
    · replace H := sh_okF c H
      exact hk276 l1 h H
def f_M_judgeAll_b276 (N : Nat)  (k23 : Int32 → sh_H → Option sh_H) (l1 : Int32) (h : sh_H) : Option sh_H := k23 (l1 + (1 : Int32)) h
theorem x_M_judgeAll_b276 (N : Nat) {d : Nat} (hd : 3 ≤ d) {Q : ai_Q} {R : sh_H → Prop} (hR : ∀ h, R h → Q none (sh_E h))  (k23 : Int32 → sh_H → Option sh_H) (hk23 : ∀ (l1 : Int32) {d2 d3 d4 d5 d6 : Option ai_V} (h : sh_H), sh_ok (k23 l1 h) R → wq_278 d Q 23 [oR 12 0, oI l1, d2, d3, d4, d5, d6] [] (sh_E h)) (l1 : Int32) {d2 d3 d4 d5 d6 : Option ai_V} (h : sh_H) (H : sh_ok (f_M_judgeAll_b276 N k23 l1 h) R) : wq_278 d Q 276 [oR 12 0, oI l1, d2, d3, d4, d5, d6] [] (sh_E h) := by
  refine ai_WP_steps mc_278 (sh_CM d) 2 ?_
  exact hk23 (l1 + (1 : Int32)) h H
def f_M_judgeAll_b50 (N : Nat)  (k23 : Int32 → sh_H → Option sh_H) (k101 : Int32 → Int32 → sh_H → Option sh_H) (l1 : Int32) (h : sh_H) : Option sh_H := f_M_judgeAll_l52 N k101 (f_M_judgeAll_b276 N k23) N l1 (0 : Int32) h
theorem x_M_judgeAll_b50 (N : Nat) {d : Nat} (hd : 3 ≤ d) {Q : ai_Q} {R : sh_H → Prop} (hR : ∀ h, R h → Q none (sh_E h))  (k23 : Int32 → sh_H → Option sh_H) (hk23 : ∀ (l1 : Int32) {d2 d3 d4 d5 d6 : Option ai_V} (h : sh_H), sh_ok (k23 l1 h) R → wq_278 d Q 23 [oR 12 0, oI l1, d2, d3, d4, d5, d6] [] (sh_E h)) (k101 : Int32 → Int32 → sh_H → Option sh_H) (hk101 : ∀ (l2 : Int32) (l4 : Int32) {d1 d3 d5 d6 : Option ai_V} (h : sh_H), sh_ok (k101 l2 l4 h) R → wq_278 d Q 101 [oR 12 0, d1, oI l2, d3, oI l4, d5, d6] [] (sh_E h)) (l1 : Int32) {d2 d3 d4 d5 d6 : Option ai_V} (h : sh_H) (H : sh_ok (f_M_judgeAll_b50 N k23 k101 l1 h) R) : wq_278 d Q 50 [oR 12 0, oI l1, d2, d3, d4, d5, d6] [] (sh_E h) := by
  refine ai_WP_steps mc_278 (sh_CM d) 2 ?_
  exact x_M_judgeAll_l52 N hd hR k101 hk101 (f_M_judgeAll_b276 N k23) (fun z0 {e2} {e3} {e4} {e5} {e6} h H => x_M_judgeAll_b276 N hd hR k23 hk23 z0 h H) N l1 (0 : Int32) h H
def f_M_judgeAll_c23 (N : Nat)  (k101 : Int32 → Int32 → sh_H → Option sh_H) (k23 : Int32 → sh_H → Option sh_H) (l1 : Int32) (h : sh_H) : Option sh_H := (if l1 < (240 : Int32) then f_M_judgeAll_l32 N (f_M_judgeAll_b50 N k23 k101) N l1 (0 : Int32) h else (some h))
def f_M_judgeAll_l23 (N : Nat)  (k101 : Int32 → Int32 → sh_H → Option sh_H) (n : Nat) : Int32 → sh_H → Option sh_H := Nat.rec (motive := fun _ => Int32 → sh_H → Option sh_H) (fun _ _ => none) (fun _ k23 => f_M_judgeAll_c23 N k101 k23) n
theorem x_M_judgeAll_l23 (N : Nat) {d : Nat} (hd : 3 ≤ d) {Q : ai_Q} {R : sh_H → Prop} (hR : ∀ h, R h → Q none (sh_E h))  (k101 : Int32 → Int32 → sh_H → Option sh_H) (hk101 : ∀ (l2 : Int32) (l4 : Int32) {d1 d3 d5 d6 : Option ai_V} (h : sh_H), sh_ok (k101 l2 l4 h) R → wq_278 d Q 101 [oR 12 0, d1, oI l2, d3, oI l4, d5, d6] [] (sh_E h)) (n : Nat) : ∀ (l1 : Int32) {d2 d3 d4 d5 d6 : Option ai_V} (h : sh_H), sh_ok (f_M_judgeAll_l23 N k101 n l1 h) R → wq_278 d Q 23 [oR 12 0, oI l1, d2, d3, d4, d5, d6] [] (sh_E h) := by
  induction n with
  | zero => intro l1 d2 d3 d4 d5 d6 h H; exact H.elim
  | succ n ih =>
    intro l1 d2 d3 d4 d5 d6 h H
    have hk23 := @ih
    replace H : sh_ok (f_M_judgeAll_c23 N k101 (f_M_judgeAll_l23 N k101 n) l1 h) R := H
    revert hk23 H
    generalize f_M_judgeAll_l23 N k101 n = k23
    intro hk23 H
    refine ai_WP_steps mc_278 (sh_CM d) 3 (And.intro (fun c => ?_) (fun c => ?_))
    · replace H := sh_okT c H
      show wq_278 d Q 30 [oR 12 0, oI l1, _, _, _, _, _] [] (sh_E h)
      refine ai_WP_steps mc_278 (sh_CM d) 2 ?_
      exact x_M_judgeAll_l32 N hd hR (f_M_judgeAll_b50 N k23 k101) (fun z0 {e2} {e3} {e4} {e5} {e6} h H => x_M_judgeAll_b50 N hd hR k23 hk23 k101 hk101 z0 h H) N l1 (0 : Int32) h H
    · replace H := sh_okF c H
      show wq_278 d Q 282 [oR 12 0, oI l1, _, _, _, _, _] [] (sh_E h)
      exact ai_WP_steps mc_278 (sh_CM d) 1 (hR h H)
def f_M_judgeAll_b101 (N : Nat)   (l2 : Int32) (l4 : Int32) (h : sh_H) : Option sh_H := (sh_let (sh_pI h 12 0 27 l2) (fun h6 => (sh_let (sh_pI h6 12 0 28 l4) (fun h7 => (some h7)))))
theorem x_M_judgeAll_b101 (N : Nat) {d : Nat} (hd : 3 ≤ d) {Q : ai_Q} {R : sh_H → Prop} (hR : ∀ h, R h → Q none (sh_E h))   (l2 : Int32) (l4 : Int32) {d1 d3 d5 d6 : Option ai_V} (h : sh_H) (H : sh_ok (f_M_judgeAll_b101 N l2 l4 h) R) : wq_278 d Q 101 [oR 12 0, d1, oI l2, d3, oI l4, d5, d6] [] (sh_E h) := by
  refine ai_WP_steps mc_278 (sh_CM d) 3 (And.intro trivial ?_)
  show wq_278 d Q 106 [oR 12 0, _, oI l2, _, oI l4, _, _] [] (sh_E (sh_pI h 12 0 27 l2))
  replace H := sh_okL H
  generalize sh_pI h 12 0 27 l2 = h6 at H ⊢
  refine ai_WP_steps mc_278 (sh_CM d) 3 (And.intro trivial ?_)
  show wq_278 d Q 112 [oR 12 0, _, oI l2, _, oI l4, _, _] [] (sh_E (sh_pI h6 12 0 28 l4))
  replace H := sh_okL H
  generalize sh_pI h6 12 0 28 l4 = h7 at H ⊢
  exact ai_WP_steps mc_278 (sh_CM d) 1 (hR h7 H)
def f_M_judgeAll (N : Nat)   (h : sh_H) : Option sh_H := (Option.bind (f_M_layTills N h) (fun h8 => (sh_let (sh_pI h8 12 0 27 (-2 : Int32)) (fun h9 => (sh_let (sh_pI h9 12 0 28 (0 : Int32)) (fun h10 => (if ai_in (9 : Int32) 8000 then f_M_judgeAll_l23 N (f_M_judgeAll_b101 N) N (h10.1 13 46 (9 : Int32).toNatClampNeg) h10 else none)))))))
theorem x_M_judgeAll (N : Nat) {d : Nat} (hd : 4 ≤ d)  (h : sh_H) {Q : ai_Q} {R : sh_H → Prop} (H : sh_ok (f_M_judgeAll N h) R) (hR : ∀ h, R h → Q none (sh_E h)) : ai_Ex sh_T d 278 [aR 12 0] (sh_E h) Q := by
  obtain ⟨d, rfl⟩ : ∃ e, d = e + 1 := ⟨d - 1, by omega⟩
  replace hd : 3 ≤ d := by omega
  refine And.intro (Nat.le_of_ble_eq_true rfl) ?_
  show wq_278 d Q 0 [oR 12 0, none, none, none, none, none, none] [] (sh_E h)
  refine ai_WP_steps mc_278 (sh_CM d) 2 (And.intro (Nat.le_of_ble_eq_true rfl) (x_M_layTills N (Nat.le_trans (Nat.le_of_ble_eq_true rfl) hd) h (sh_okB H) (fun h8 H => ?_)))
  show wq_278 d Q 4 [oR 12 0, _, _, _, _, _, _] [] (sh_E h8)
  refine ai_WP_steps mc_278 (sh_CM d) 3 (And.intro trivial ?_)
  show wq_278 d Q 10 [oR 12 0, _, _, _, _, _, _] [] (sh_E (sh_pI h8 12 0 27 (-2 : Int32)))
  replace H := sh_okL H
  generalize sh_pI h8 12 0 27 (-2 : Int32) = h9 at H ⊢
  refine ai_WP_steps mc_278 (sh_CM d) 3 (And.intro trivial ?_)
  show wq_278 d Q 15 [oR 12 0, _, _, _, _, _, _] [] (sh_E (sh_pI h9 12 0 28 (0 : Int32)))
  replace H := sh_okL H
  generalize sh_pI h9 12 0 28 (0 : Int32) = h10 at H ⊢
  have c := sh_okG H
  replace H := sh_okH H
  refine ai_WP_steps mc_278 (sh_CM d) 4 (And.intro c ?_)
  show wq_278 d Q 22 [oR 12 0, _, _, _, _, _, _] [aI (h10.1 13 46 (9 : Int32).toNatClampNeg)] (sh_E h10)
  refine ai_WP_steps mc_278 (sh_CM d) 1 ?_
  exact x_M_judgeAll_l23 N hd hR (f_M_judgeAll_b101 N) (fun z0 z1 {e1} {e3} {e5} {e6} h H => x_M_judgeAll_b101 N hd hR z0 z1 h H) N (h10.1 13 46 (9 : Int32).toNatClampNeg) h10 H
def f_M_judge (N : Nat)   (h : sh_H) : Option (Int32 × sh_H) := (Option.bind (f_M_judgeAll N h) (fun h1 => (some ((h1.1 12 0 27), h1))))
theorem x_M_judge (N : Nat) {d : Nat} (hd : 5 ≤ d)  (h : sh_H) {Q : ai_Q} {R : Int32 × sh_H → Prop} (H : sh_ok (f_M_judge N h) R) (hR : ∀ r h, R (r, h) → Q (some (aI r)) (sh_E h)) : ai_Ex sh_T d 279 [aR 12 0] (sh_E h) Q := by
  obtain ⟨d, rfl⟩ : ∃ e, d = e + 1 := ⟨d - 1, by omega⟩
  replace hd : 4 ≤ d := by omega
  refine And.intro (Nat.le_of_ble_eq_true rfl) ?_
  show wq_279 d Q 0 [oR 12 0] [] (sh_E h)
  refine ai_WP_steps mc_279 (sh_CM d) 2 (And.intro (Nat.le_of_ble_eq_true rfl) (x_M_judgeAll N (Nat.le_trans (Nat.le_of_ble_eq_true rfl) hd) h (sh_okB H) (fun h1 H => ?_)))
  show wq_279 d Q 4 [oR 12 0] [] (sh_E h1)
  exact ai_WP_steps mc_279 (sh_CM d) 3 (hR (h1.1 12 0 27) h1 H)
def f_M_why (N : Nat)   (h : sh_H) : Option (Int32 × sh_H) := (Option.bind (f_M_judgeAll N h) (fun h1 => (some ((h1.1 12 0 28), h1))))
theorem x_M_why (N : Nat) {d : Nat} (hd : 5 ≤ d)  (h : sh_H) {Q : ai_Q} {R : Int32 × sh_H → Prop} (H : sh_ok (f_M_why N h) R) (hR : ∀ r h, R (r, h) → Q (some (aI r)) (sh_E h)) : ai_Ex sh_T d 280 [aR 12 0] (sh_E h) Q := by
  obtain ⟨d, rfl⟩ : ∃ e, d = e + 1 := ⟨d - 1, by omega⟩
  replace hd : 4 ≤ d := by omega
  refine And.intro (Nat.le_of_ble_eq_true rfl) ?_
  show wq_280 d Q 0 [oR 12 0] [] (sh_E h)
  refine ai_WP_steps mc_280 (sh_CM d) 2 (And.intro (Nat.le_of_ble_eq_true rfl) (x_M_judgeAll N (Nat.le_trans (Nat.le_of_ble_eq_true rfl) hd) h (sh_okB H) (fun h1 H => ?_)))
  show wq_280 d Q 4 [oR 12 0] [] (sh_E h1)
  exact ai_WP_steps mc_280 (sh_CM d) 3 (hR (h1.1 12 0 28) h1 H)
def f_M_mixed  (l0 : Int32) (l1 : Int32) (h : sh_H) : Option Int32 := (some ((((l0 ^^^ l1) * (1103515245 : Int32)) + (12345 : Int32)) ^^^ (sh_us (((l0 ^^^ l1) * (1103515245 : Int32)) + (12345 : Int32)) (15 : Int32))))
theorem x_M_mixed {d : Nat} (hd : 1 ≤ d) (l0 : Int32) (l1 : Int32) (h : sh_H) {Q : ai_Q} {R : Int32 → Prop} (H : sh_ok (f_M_mixed l0 l1 h) R) (hR : ∀ r, R r → Q (some (aI r)) (sh_E h)) : ai_Ex sh_T d 281 [aI l0, aI l1] (sh_E h) Q := by
  obtain ⟨d, rfl⟩ : ∃ e, d = e + 1 := ⟨d - 1, by omega⟩
  replace hd : 0 ≤ d := by omega
  refine And.intro (Nat.le_of_ble_eq_true rfl) ?_
  show wq_281 d Q 0 [oI l0, oI l1, none] [] (sh_E h)
  exact ai_WP_steps mc_281 (sh_CM d) 14 (hR ((((l0 ^^^ l1) * (1103515245 : Int32)) + (12345 : Int32)) ^^^ (sh_us (((l0 ^^^ l1) * (1103515245 : Int32)) + (12345 : Int32)) (15 : Int32))) H)
def f_M_lot  (l0 : Int32) (l1 : Int32) (l2 : Int32) (h : sh_H) : Option Int32 := (Option.bind (f_M_mixed l0 (15 : Int32) h) (fun v1 => (Option.bind (f_M_mixed v1 l1 h) (fun v2 => (if ¬ l2 = 0 then (some ((sh_us v2 (1 : Int32)) - (sh_us v2 (1 : Int32)) / l2 * l2)) else none)))))
theorem x_M_lot {d : Nat} (hd : 2 ≤ d) (l0 : Int32) (l1 : Int32) (l2 : Int32) (h : sh_H) {Q : ai_Q} {R : Int32 → Prop} (H : sh_ok (f_M_lot l0 l1 l2 h) R) (hR : ∀ r, R r → Q (some (aI r)) (sh_E h)) : ai_Ex sh_T d 282 [aI l0, aI l1, aI l2] (sh_E h) Q := by
  obtain ⟨d, rfl⟩ : ∃ e, d = e + 1 := ⟨d - 1, by omega⟩
  replace hd : 1 ≤ d := by omega
  refine And.intro (Nat.le_of_ble_eq_true rfl) ?_
  show wq_282 d Q 0 [oI l0, oI l1, oI l2] [] (sh_E h)
  refine ai_WP_steps mc_282 (sh_CM d) 3 (And.intro (Nat.le_of_ble_eq_true rfl) (x_M_mixed (Nat.le_trans (Nat.le_of_ble_eq_true rfl) hd) l0 (15 : Int32) h (sh_okB H) (fun v1 H => ?_)))
  show wq_282 d Q 6 [oI l0, oI l1, oI l2] [aI v1] (sh_E h)
  refine ai_WP_steps mc_282 (sh_CM d) 2 (And.intro (Nat.le_of_ble_eq_true rfl) (x_M_mixed (Nat.le_trans (Nat.le_of_ble_eq_true rfl) hd) v1 l1 h (sh_okB H) (fun v2 H => ?_)))
  show wq_282 d Q 10 [oI l0, oI l1, oI l2] [aI v2] (sh_E h)
  have c := sh_okG H
  replace H := sh_okH H
  refine ai_WP_steps mc_282 (sh_CM d) 4 (And.intro c ?_)
  show wq_282 d Q 14 [oI l0, oI l1, oI l2] [aI ((sh_us v2 (1 : Int32)) - (sh_us v2 (1 : Int32)) / l2 * l2)] (sh_E h)
  exact ai_WP_steps mc_282 (sh_CM d) 1 (hR ((sh_us v2 (1 : Int32)) - (sh_us v2 (1 : Int32)) / l2 * l2) H)
def f_M_sends_c2 (N : Nat)  (k20 : Int32 → Int32 → sh_H → Option sh_H) (k2 : Int32 → Int32 → Int32 → sh_H → Option sh_H) (l1 : Int32) (l2 : Int32) (l3 : Int32) (h : sh_H) : Option sh_H := (if l3 < (5 : Int32) then (if ai_in l3 5 then (sh_let (sh_pI h 13 52 l3.toNatClampNeg (0 : Int32)) (fun h1 => k2 l1 l2 (l3 + (1 : Int32)) h1)) else none) else k20 l1 l2 h)
def f_M_sends_l2 (N : Nat)  (k20 : Int32 → Int32 → sh_H → Option sh_H) (n : Nat) : Int32 → Int32 → Int32 → sh_H → Option sh_H := Nat.rec (motive := fun _ => Int32 → Int32 → Int32 → sh_H → Option sh_H) (fun _ _ _ _ => none) (fun _ k2 => f_M_sends_c2 N k20 k2) n
theorem x_M_sends_l2 (N : Nat) {d : Nat} (hd : 3 ≤ d) {Q : ai_Q} {R : sh_H → Prop} (hR : ∀ h, R h → Q none (sh_E h))  (k20 : Int32 → Int32 → sh_H → Option sh_H) (hk20 : ∀ (l1 : Int32) (l2 : Int32) {d3 d4 d5 d6 d7 d8 : Option ai_V} (h : sh_H), sh_ok (k20 l1 l2 h) R → wq_283 d Q 20 [oR 12 0, oI l1, oI l2, d3, d4, d5, d6, d7, d8] [] (sh_E h)) (n : Nat) : ∀ (l1 : Int32) (l2 : Int32) (l3 : Int32) {d4 d5 d6 d7 d8 : Option ai_V} (h : sh_H), sh_ok (f_M_sends_l2 N k20 n l1 l2 l3 h) R → wq_283 d Q 2 [oR 12 0, oI l1, oI l2, oI l3, d4, d5, d6, d7, d8] [] (sh_E h) := by
  induction n with
  | zero => intro l1 l2 l3 d4 d5 d6 d7 d8 h H; exact H.elim
  | succ n ih =>
    intro l1 l2 l3 d4 d5 d6 d7 d8 h H
    have hk2 := @ih
    replace H : sh_ok (f_M_sends_c2 N k20 (f_M_sends_l2 N k20 n) l1 l2 l3 h) R := H
    revert hk2 H
    generalize f_M_sends_l2 N k20 n = k2
    intro hk2 H
    refine ai_WP_steps mc_283 (sh_CM d) 3 (And.intro (fun c => ?_) (fun c => ?_))
    · replace H := sh_okT c H
      show wq_283 d Q 7 [oR 12 0, oI l1, oI l2, oI l3, _, _, _, _, _] [] (sh_E h)
      have c := sh_okG H
      replace H := sh_okH H
      refine ai_WP_steps mc_283 (sh_CM d) 5 (And.intro c ?_)
      show wq_283 d Q 14 [oR 12 0, oI l1, oI l2, oI l3, _, _, _, _, _] [] (sh_E (sh_pI h 13 52 l3.toNatClampNeg (0 : Int32)))
      replace H := sh_okL H
      generalize sh_pI h 13 52 l3.toNatClampNeg (0 : Int32) = h1 at H ⊢
      refine ai_WP_steps mc_283 (sh_CM d) 2 ?_
      exact hk2 l1 l2 (l3 + (1 : Int32)) h1 H
    · replace H := sh_okF c H
      exact hk20 l1 l2 h H
def f_M_sends_b261 (N : Nat)  (k22 : Int32 → Int32 → Int32 → sh_H → Option sh_H) (l1 : Int32) (l2 : Int32) (l3 : Int32) (h : sh_H) : Option sh_H := k22 l1 l2 (l3 + (1 : Int32)) h
theorem x_M_sends_b261 (N : Nat) {d : Nat} (hd : 3 ≤ d) {Q : ai_Q} {R : sh_H → Prop} (hR : ∀ h, R h → Q none (sh_E h))  (k22 : Int32 → Int32 → Int32 → sh_H → Option sh_H) (hk22 : ∀ (l1 : Int32) (l2 : Int32) (l3 : Int32) {d4 d5 d6 d7 d8 : Option ai_V} (h : sh_H), sh_ok (k22 l1 l2 l3 h) R → wq_283 d Q 22 [oR 12 0, oI l1, oI l2, oI l3, d4, d5, d6, d7, d8] [] (sh_E h)) (l1 : Int32) (l2 : Int32) (l3 : Int32) {d4 d5 d6 d7 d8 : Option ai_V} (h : sh_H) (H : sh_ok (f_M_sends_b261 N k22 l1 l2 l3 h) R) : wq_283 d Q 261 [oR 12 0, oI l1, oI l2, oI l3, d4, d5, d6, d7, d8] [] (sh_E h) := by
  refine ai_WP_steps mc_283 (sh_CM d) 2 ?_
  exact hk22 l1 l2 (l3 + (1 : Int32)) h H
def f_M_sends_b238 (N : Nat)  (k22 : Int32 → Int32 → Int32 → sh_H → Option sh_H) (l1 : Int32) (l2 : Int32) (l3 : Int32) (l4 : Int32) (l8 : Int32) (s1 : Int32) (s2 : Int32) (h : sh_H) : Option sh_H := (if ai_in (l4 + (2 : Int32)) 8000 then (if ai_in (l4 + (3 : Int32)) 8000 then (Option.bind (f_M_go N s1 s2 (h.1 13 46 (l4 + (2 : Int32)).toNatClampNeg) (h.1 13 46 (l4 + (3 : Int32)).toNatClampNeg) l8 h) (fun h2 => f_M_sends_b261 N k22 l1 l2 l3 h2)) else none) else none)
theorem x_M_sends_b238 (N : Nat) {d : Nat} (hd : 3 ≤ d) {Q : ai_Q} {R : sh_H → Prop} (hR : ∀ h, R h → Q none (sh_E h))  (k22 : Int32 → Int32 → Int32 → sh_H → Option sh_H) (hk22 : ∀ (l1 : Int32) (l2 : Int32) (l3 : Int32) {d4 d5 d6 d7 d8 : Option ai_V} (h : sh_H), sh_ok (k22 l1 l2 l3 h) R → wq_283 d Q 22 [oR 12 0, oI l1, oI l2, oI l3, d4, d5, d6, d7, d8] [] (sh_E h)) (l1 : Int32) (l2 : Int32) (l3 : Int32) (l4 : Int32) (l8 : Int32) (s1 : Int32) (s2 : Int32) {d5 d6 d7 : Option ai_V} (h : sh_H) (H : sh_ok (f_M_sends_b238 N k22 l1 l2 l3 l4 l8 s1 s2 h) R) : wq_283 d Q 238 [oR 12 0, oI l1, oI l2, oI l3, oI l4, d5, d6, d7, oI l8] [aI s2, aI s1, aR 12 0] (sh_E h) := by
  have c := sh_okG H
  replace H := sh_okH H
  refine ai_WP_steps mc_283 (sh_CM d) 6 (And.intro c ?_)
  show wq_283 d Q 247 [oR 12 0, oI l1, oI l2, oI l3, oI l4, _, _, _, oI l8] [aI (h.1 13 46 (l4 + (2 : Int32)).toNatClampNeg), aI s2, aI s1, aR 12 0] (sh_E h)
  have c := sh_okG H
  replace H := sh_okH H
  refine ai_WP_steps mc_283 (sh_CM d) 6 (And.intro c ?_)
  show wq_283 d Q 256 [oR 12 0, oI l1, oI l2, oI l3, oI l4, _, _, _, oI l8] [aI (h.1 13 46 (l4 + (3 : Int32)).toNatClampNeg), aI (h.1 13 46 (l4 + (2 : Int32)).toNatClampNeg), aI s2, aI s1, aR 12 0] (sh_E h)
  refine ai_WP_steps mc_283 (sh_CM d) 2 (And.intro (Nat.le_of_ble_eq_true rfl) (x_M_go N (Nat.le_trans (Nat.le_of_ble_eq_true rfl) hd) s1 s2 (h.1 13 46 (l4 + (2 : Int32)).toNatClampNeg) (h.1 13 46 (l4 + (3 : Int32)).toNatClampNeg) l8 h (sh_okB H) (fun h2 H => ?_)))
  show wq_283 d Q 261 [oR 12 0, oI l1, oI l2, oI l3, oI l4, _, _, _, oI l8] [] (sh_E h2)
  exact x_M_sends_b261 N hd hR k22 hk22 l1 l2 l3 h2 H
def f_M_sends_b227 (N : Nat)  (k22 : Int32 → Int32 → Int32 → sh_H → Option sh_H) (l1 : Int32) (l2 : Int32) (l3 : Int32) (l4 : Int32) (l5 : Int32) (l8 : Int32) (s1 : Int32) (h : sh_H) : Option sh_H := (if l8 = 0 then f_M_sends_b238 N k22 l1 l2 l3 l4 l8 s1 l5 h else f_M_sends_b238 N k22 l1 l2 l3 l4 l8 s1 (0 : Int32) h)
theorem x_M_sends_b227 (N : Nat) {d : Nat} (hd : 3 ≤ d) {Q : ai_Q} {R : sh_H → Prop} (hR : ∀ h, R h → Q none (sh_E h))  (k22 : Int32 → Int32 → Int32 → sh_H → Option sh_H) (hk22 : ∀ (l1 : Int32) (l2 : Int32) (l3 : Int32) {d4 d5 d6 d7 d8 : Option ai_V} (h : sh_H), sh_ok (k22 l1 l2 l3 h) R → wq_283 d Q 22 [oR 12 0, oI l1, oI l2, oI l3, d4, d5, d6, d7, d8] [] (sh_E h)) (l1 : Int32) (l2 : Int32) (l3 : Int32) (l4 : Int32) (l5 : Int32) (l8 : Int32) (s1 : Int32) {d6 d7 : Option ai_V} (h : sh_H) (H : sh_ok (f_M_sends_b227 N k22 l1 l2 l3 l4 l5 l8 s1 h) R) : wq_283 d Q 227 [oR 12 0, oI l1, oI l2, oI l3, oI l4, oI l5, d6, d7, oI l8] [aI s1, aR 12 0] (sh_E h) := by
  refine ai_WP_steps mc_283 (sh_CM d) 2 (And.intro (fun c => ?_) (fun c => ?_))
  · replace H := sh_okT c H
    show wq_283 d Q 236 [oR 12 0, oI l1, oI l2, oI l3, oI l4, oI l5, _, _, oI l8] [aI s1, aR 12 0] (sh_E h)
    refine ai_WP_steps mc_283 (sh_CM d) 1 ?_
    exact x_M_sends_b238 N hd hR k22 hk22 l1 l2 l3 l4 l8 s1 l5 h H
  · replace H := sh_okF c H
    show wq_283 d Q 232 [oR 12 0, oI l1, oI l2, oI l3, oI l4, oI l5, _, _, oI l8] [aI s1, aR 12 0] (sh_E h)
    refine ai_WP_steps mc_283 (sh_CM d) 2 ?_
    exact x_M_sends_b238 N hd hR k22 hk22 l1 l2 l3 l4 l8 s1 (0 : Int32) h H
def f_M_sends_b213 (N : Nat)  (k22 : Int32 → Int32 → Int32 → sh_H → Option sh_H) (l1 : Int32) (l2 : Int32) (l3 : Int32) (l4 : Int32) (l5 : Int32) (s0 : Int32) (h : sh_H) : Option sh_H := (if s0 = 0 then f_M_sends_b227 N k22 l1 l2 l3 l4 l5 s0 (0 : Int32) h else f_M_sends_b227 N k22 l1 l2 l3 l4 l5 s0 l5 h)
theorem x_M_sends_b213 (N : Nat) {d : Nat} (hd : 3 ≤ d) {Q : ai_Q} {R : sh_H → Prop} (hR : ∀ h, R h → Q none (sh_E h))  (k22 : Int32 → Int32 → Int32 → sh_H → Option sh_H) (hk22 : ∀ (l1 : Int32) (l2 : Int32) (l3 : Int32) {d4 d5 d6 d7 d8 : Option ai_V} (h : sh_H), sh_ok (k22 l1 l2 l3 h) R → wq_283 d Q 22 [oR 12 0, oI l1, oI l2, oI l3, d4, d5, d6, d7, d8] [] (sh_E h)) (l1 : Int32) (l2 : Int32) (l3 : Int32) (l4 : Int32) (l5 : Int32) (s0 : Int32) {d6 d7 d8 : Option ai_V} (h : sh_H) (H : sh_ok (f_M_sends_b213 N k22 l1 l2 l3 l4 l5 s0 h) R) : wq_283 d Q 213 [oR 12 0, oI l1, oI l2, oI l3, oI l4, oI l5, d6, d7, d8] [aI s0] (sh_E h) := by
  refine ai_WP_steps mc_283 (sh_CM d) 4 (And.intro (fun c => ?_) (fun c => ?_))
  · replace H := sh_okT c H
    show wq_283 d Q 226 [oR 12 0, oI l1, oI l2, oI l3, oI l4, oI l5, _, _, oI s0] [aR 12 0] (sh_E h)
    refine ai_WP_steps mc_283 (sh_CM d) 1 ?_
    exact x_M_sends_b227 N hd hR k22 hk22 l1 l2 l3 l4 l5 s0 (0 : Int32) h H
  · replace H := sh_okF c H
    show wq_283 d Q 221 [oR 12 0, oI l1, oI l2, oI l3, oI l4, oI l5, _, _, oI s0] [aR 12 0] (sh_E h)
    refine ai_WP_steps mc_283 (sh_CM d) 2 ?_
    exact x_M_sends_b227 N hd hR k22 hk22 l1 l2 l3 l4 l5 s0 l5 h H
def f_M_sends_b135 (N : Nat)  (k22 : Int32 → Int32 → Int32 → sh_H → Option sh_H) (l1 : Int32) (l2 : Int32) (l3 : Int32) (l4 : Int32) (l5 : Int32) (l7 : Int32) (h : sh_H) : Option sh_H := (if ai_in (l4 + (5 : Int32)) 8000 then (sh_let (sh_pI h 13 46 (l4 + (5 : Int32)).toNatClampNeg l7) (fun h3 => (if 0 < l7 then f_M_sends_b261 N k22 l1 l2 l3 h3 else (if ai_in l5 5 then (if ai_in (l4 + (3 : Int32)) 8000 then (if ai_in (l4 + (2 : Int32)) 8000 then (if ai_in (((20 : Int32) + ((3 : Int32) * (h3.1 13 46 (l4 + (2 : Int32)).toNatClampNeg))) + (1 : Int32)) 8000 then (if ai_in l5 5 then (sh_let (sh_pI h3 13 52 l5.toNatClampNeg ((h3.1 13 52 l5.toNatClampNeg) + ((h3.1 13 46 (l4 + (3 : Int32)).toNatClampNeg) * (h3.1 13 46 (((20 : Int32) + ((3 : Int32) * (h3.1 13 46 (l4 + (2 : Int32)).toNatClampNeg))) + (1 : Int32)).toNatClampNeg)))) (fun h4 => (if ai_in (l4 + (4 : Int32)) 8000 then (if (h4.1 13 46 (l4 + (4 : Int32)).toNatClampNeg) = (1 : Int32) then f_M_sends_b213 N k22 l1 l2 l3 l4 l5 (1 : Int32) h4 else f_M_sends_b213 N k22 l1 l2 l3 l4 l5 (0 : Int32) h4) else none))) else none) else none) else none) else none) else none)))) else none)
theorem x_M_sends_b135 (N : Nat) {d : Nat} (hd : 3 ≤ d) {Q : ai_Q} {R : sh_H → Prop} (hR : ∀ h, R h → Q none (sh_E h))  (k22 : Int32 → Int32 → Int32 → sh_H → Option sh_H) (hk22 : ∀ (l1 : Int32) (l2 : Int32) (l3 : Int32) {d4 d5 d6 d7 d8 : Option ai_V} (h : sh_H), sh_ok (k22 l1 l2 l3 h) R → wq_283 d Q 22 [oR 12 0, oI l1, oI l2, oI l3, d4, d5, d6, d7, d8] [] (sh_E h)) (l1 : Int32) (l2 : Int32) (l3 : Int32) (l4 : Int32) (l5 : Int32) (l7 : Int32) {d6 d8 : Option ai_V} (h : sh_H) (H : sh_ok (f_M_sends_b135 N k22 l1 l2 l3 l4 l5 l7 h) R) : wq_283 d Q 135 [oR 12 0, oI l1, oI l2, oI l3, oI l4, oI l5, d6, oI l7, d8] [] (sh_E h) := by
  have c := sh_okG H
  replace H := sh_okH H
  refine ai_WP_steps mc_283 (sh_CM d) 7 (And.intro c ?_)
  show wq_283 d Q 146 [oR 12 0, oI l1, oI l2, oI l3, oI l4, oI l5, _, oI l7, _] [] (sh_E (sh_pI h 13 46 (l4 + (5 : Int32)).toNatClampNeg l7))
  replace H := sh_okL H
  generalize sh_pI h 13 46 (l4 + (5 : Int32)).toNatClampNeg l7 = h3 at H ⊢
  refine ai_WP_steps mc_283 (sh_CM d) 2 (And.intro (fun c => ?_) (fun c => ?_))
  · replace H := sh_okT c H
    show wq_283 d Q 151 [oR 12 0, oI l1, oI l2, oI l3, oI l4, oI l5, _, oI l7, _] [] (sh_E h3)
    refine ai_WP_steps mc_283 (sh_CM d) 1 ?_
    exact x_M_sends_b261 N hd hR k22 hk22 l1 l2 l3 h3 H
  · replace H := sh_okF c H
    show wq_283 d Q 154 [oR 12 0, oI l1, oI l2, oI l3, oI l4, oI l5, _, oI l7, _] [] (sh_E h3)
    have c := sh_okG H
    replace H := sh_okH H
    refine ai_WP_steps mc_283 (sh_CM d) 5 (And.intro c ?_)
    show wq_283 d Q 162 [oR 12 0, oI l1, oI l2, oI l3, oI l4, oI l5, _, oI l7, _] [aI (h3.1 13 52 l5.toNatClampNeg), aI l5, aR 13 52] (sh_E h3)
    have c := sh_okG H
    replace H := sh_okH H
    refine ai_WP_steps mc_283 (sh_CM d) 6 (And.intro c ?_)
    show wq_283 d Q 171 [oR 12 0, oI l1, oI l2, oI l3, oI l4, oI l5, _, oI l7, _] [aI (h3.1 13 46 (l4 + (3 : Int32)).toNatClampNeg), aI (h3.1 13 52 l5.toNatClampNeg), aI l5, aR 13 52] (sh_E h3)
    have c := sh_okG H
    replace H := sh_okH H
    refine ai_WP_steps mc_283 (sh_CM d) 10 (And.intro c ?_)
    show wq_283 d Q 187 [oR 12 0, oI l1, oI l2, oI l3, oI l4, oI l5, _, oI l7, _] [aI (h3.1 13 46 (l4 + (2 : Int32)).toNatClampNeg), aI (3 : Int32), aI (20 : Int32), aR 13 46, aI (h3.1 13 46 (l4 + (3 : Int32)).toNatClampNeg), aI (h3.1 13 52 l5.toNatClampNeg), aI l5, aR 13 52] (sh_E h3)
    have c := sh_okG H
    replace H := sh_okH H
    refine ai_WP_steps mc_283 (sh_CM d) 5 (And.intro c ?_)
    show wq_283 d Q 192 [oR 12 0, oI l1, oI l2, oI l3, oI l4, oI l5, _, oI l7, _] [aI (h3.1 13 46 (((20 : Int32) + ((3 : Int32) * (h3.1 13 46 (l4 + (2 : Int32)).toNatClampNeg))) + (1 : Int32)).toNatClampNeg), aI (h3.1 13 46 (l4 + (3 : Int32)).toNatClampNeg), aI (h3.1 13 52 l5.toNatClampNeg), aI l5, aR 13 52] (sh_E h3)
    have c := sh_okG H
    replace H := sh_okH H
    refine ai_WP_steps mc_283 (sh_CM d) 3 (And.intro c ?_)
    show wq_283 d Q 195 [oR 12 0, oI l1, oI l2, oI l3, oI l4, oI l5, _, oI l7, _] [] (sh_E (sh_pI h3 13 52 l5.toNatClampNeg ((h3.1 13 52 l5.toNatClampNeg) + ((h3.1 13 46 (l4 + (3 : Int32)).toNatClampNeg) * (h3.1 13 46 (((20 : Int32) + ((3 : Int32) * (h3.1 13 46 (l4 + (2 : Int32)).toNatClampNeg))) + (1 : Int32)).toNatClampNeg)))))
    replace H := sh_okL H
    generalize sh_pI h3 13 52 l5.toNatClampNeg ((h3.1 13 52 l5.toNatClampNeg) + ((h3.1 13 46 (l4 + (3 : Int32)).toNatClampNeg) * (h3.1 13 46 (((20 : Int32) + ((3 : Int32) * (h3.1 13 46 (l4 + (2 : Int32)).toNatClampNeg))) + (1 : Int32)).toNatClampNeg))) = h4 at H ⊢
    have c := sh_okG H
    replace H := sh_okH H
    refine ai_WP_steps mc_283 (sh_CM d) 6 (And.intro c ?_)
    show wq_283 d Q 204 [oR 12 0, oI l1, oI l2, oI l3, oI l4, oI l5, _, oI l7, _] [aI (h4.1 13 46 (l4 + (4 : Int32)).toNatClampNeg)] (sh_E h4)
    refine ai_WP_steps mc_283 (sh_CM d) 2 (And.intro (fun c => ?_) (fun c => ?_))
    · replace H := sh_okT c H
      show wq_283 d Q 208 [oR 12 0, oI l1, oI l2, oI l3, oI l4, oI l5, _, oI l7, _] [] (sh_E h4)
      refine ai_WP_steps mc_283 (sh_CM d) 2 ?_
      exact x_M_sends_b213 N hd hR k22 hk22 l1 l2 l3 l4 l5 (1 : Int32) h4 H
    · replace H := sh_okF c H
      show wq_283 d Q 212 [oR 12 0, oI l1, oI l2, oI l3, oI l4, oI l5, _, oI l7, _] [] (sh_E h4)
      refine ai_WP_steps mc_283 (sh_CM d) 1 ?_
      exact x_M_sends_b213 N hd hR k22 hk22 l1 l2 l3 l4 l5 (0 : Int32) h4 H
def f_M_sends_c22 (N : Nat)  (k267 : Int32 → sh_H → Option sh_H) (k22 : Int32 → Int32 → Int32 → sh_H → Option sh_H) (l1 : Int32) (l2 : Int32) (l3 : Int32) (h : sh_H) : Option sh_H := (if ai_in (7 : Int32) 8000 then (if l3 < (h.1 13 46 (7 : Int32).toNatClampNeg) then (if ai_in ((310 : Int32) + ((6 : Int32) * l3)) 8000 then (if (h.1 13 46 ((310 : Int32) + ((6 : Int32) * l3)).toNatClampNeg) = l2 then (if ai_in (((310 : Int32) + ((6 : Int32) * l3)) + (1 : Int32)) 8000 then (if ¬ (12 : Int32) = 0 then (Option.bind (f_M_boatOf N (h.1 13 46 (((310 : Int32) + ((6 : Int32) * l3)) + (1 : Int32)).toNatClampNeg) (l2 - l2 / (12 : Int32) * (12 : Int32)) h) (fun v5 => (Option.bind (f_M_layTills N h) (fun h6 => (if ¬ (12 : Int32) = 0 then (Option.bind (f_M_reason N ((310 : Int32) + ((6 : Int32) * l3)) (l2 - l2 / (12 : Int32) * (12 : Int32)) h6) (fun v7 => (if v5 < 0 then f_M_sends_b135 N k22 l1 l2 l3 ((310 : Int32) + ((6 : Int32) * l3)) (h.1 13 46 (((310 : Int32) + ((6 : Int32) * l3)) + (1 : Int32)).toNatClampNeg) v7 h6 else (Option.bind (f_M_lot l1 (((40 : Int32) * l2) + v5) (10 : Int32) h6) (fun v8 => (if ai_in (((250 : Int32) + ((5 : Int32) * v5)) + (4 : Int32)) 8000 then (if v8 < (h6.1 13 46 (((250 : Int32) + ((5 : Int32) * v5)) + (4 : Int32)).toNatClampNeg) then f_M_sends_b135 N k22 l1 l2 l3 ((310 : Int32) + ((6 : Int32) * l3)) (h.1 13 46 (((310 : Int32) + ((6 : Int32) * l3)) + (1 : Int32)).toNatClampNeg) (2 : Int32) h6 else f_M_sends_b135 N k22 l1 l2 l3 ((310 : Int32) + ((6 : Int32) * l3)) (h.1 13 46 (((310 : Int32) + ((6 : Int32) * l3)) + (1 : Int32)).toNatClampNeg) v7 h6) else none)))))) else none))))) else none) else none) else f_M_sends_b261 N k22 l1 l2 l3 h) else none) else k267 l2 h) else none)
def f_M_sends_l22 (N : Nat)  (k267 : Int32 → sh_H → Option sh_H) (n : Nat) : Int32 → Int32 → Int32 → sh_H → Option sh_H := Nat.rec (motive := fun _ => Int32 → Int32 → Int32 → sh_H → Option sh_H) (fun _ _ _ _ => none) (fun _ k22 => f_M_sends_c22 N k267 k22) n
theorem x_M_sends_l22 (N : Nat) {d : Nat} (hd : 3 ≤ d) {Q : ai_Q} {R : sh_H → Prop} (hR : ∀ h, R h → Q none (sh_E h))  (k267 : Int32 → sh_H → Option sh_H) (hk267 : ∀ (l2 : Int32) {d1 d3 d4 d5 d6 d7 d8 : Option ai_V} (h : sh_H), sh_ok (k267 l2 h) R → wq_283 d Q 267 [oR 12 0, d1, oI l2, d3, d4, d5, d6, d7, d8] [] (sh_E h)) (n : Nat) : ∀ (l1 : Int32) (l2 : Int32) (l3 : Int32) {d4 d5 d6 d7 d8 : Option ai_V} (h : sh_H), sh_ok (f_M_sends_l22 N k267 n l1 l2 l3 h) R → wq_283 d Q 22 [oR 12 0, oI l1, oI l2, oI l3, d4, d5, d6, d7, d8] [] (sh_E h) := by
  induction n with
  | zero => intro l1 l2 l3 d4 d5 d6 d7 d8 h H; exact H.elim
  | succ n ih =>
    intro l1 l2 l3 d4 d5 d6 d7 d8 h H
    have hk22 := @ih
    replace H : sh_ok (f_M_sends_c22 N k267 (f_M_sends_l22 N k267 n) l1 l2 l3 h) R := H
    revert hk22 H
    generalize f_M_sends_l22 N k267 n = k22
    intro hk22 H
    have c := sh_okG H
    replace H := sh_okH H
    refine ai_WP_steps mc_283 (sh_CM d) 5 (And.intro c ?_)
    show wq_283 d Q 30 [oR 12 0, oI l1, oI l2, oI l3, _, _, _, _, _] [aI (h.1 13 46 (7 : Int32).toNatClampNeg), aI l3] (sh_E h)
    refine ai_WP_steps mc_283 (sh_CM d) 1 (And.intro (fun c => ?_) (fun c => ?_))
    · replace H := sh_okT c H
      show wq_283 d Q 33 [oR 12 0, oI l1, oI l2, oI l3, _, _, _, _, _] [] (sh_E h)
      have c := sh_okG H
      replace H := sh_okH H
      refine ai_WP_steps mc_283 (sh_CM d) 10 (And.intro c ?_)
      show wq_283 d Q 50 [oR 12 0, oI l1, oI l2, oI l3, oI ((310 : Int32) + ((6 : Int32) * l3)), _, _, _, _] [aI (h.1 13 46 ((310 : Int32) + ((6 : Int32) * l3)).toNatClampNeg)] (sh_E h)
      refine ai_WP_steps mc_283 (sh_CM d) 2 (And.intro (fun c => ?_) (fun c => ?_))
      · replace H := sh_okT c H
        show wq_283 d Q 57 [oR 12 0, oI l1, oI l2, oI l3, oI ((310 : Int32) + ((6 : Int32) * l3)), _, _, _, _] [] (sh_E h)
        have c := sh_okG H
        replace H := sh_okH H
        refine ai_WP_steps mc_283 (sh_CM d) 6 (And.intro c ?_)
        show wq_283 d Q 66 [oR 12 0, oI l1, oI l2, oI l3, oI ((310 : Int32) + ((6 : Int32) * l3)), _, _, _, _] [aI (h.1 13 46 (((310 : Int32) + ((6 : Int32) * l3)) + (1 : Int32)).toNatClampNeg)] (sh_E h)
        have c := sh_okG H
        replace H := sh_okH H
        refine ai_WP_steps mc_283 (sh_CM d) 6 (And.intro c ?_)
        show wq_283 d Q 75 [oR 12 0, oI l1, oI l2, oI l3, oI ((310 : Int32) + ((6 : Int32) * l3)), oI (h.1 13 46 (((310 : Int32) + ((6 : Int32) * l3)) + (1 : Int32)).toNatClampNeg), _, _, _] [aI (l2 - l2 / (12 : Int32) * (12 : Int32)), aI (h.1 13 46 (((310 : Int32) + ((6 : Int32) * l3)) + (1 : Int32)).toNatClampNeg), aR 12 0] (sh_E h)
        refine ai_WP_steps mc_283 (sh_CM d) 1 (And.intro (Nat.le_of_ble_eq_true rfl) (x_M_boatOf N (Nat.le_trans (Nat.le_of_ble_eq_true rfl) hd) (h.1 13 46 (((310 : Int32) + ((6 : Int32) * l3)) + (1 : Int32)).toNatClampNeg) (l2 - l2 / (12 : Int32) * (12 : Int32)) h (sh_okB H) (fun v5 H => ?_)))
        show wq_283 d Q 78 [oR 12 0, oI l1, oI l2, oI l3, oI ((310 : Int32) + ((6 : Int32) * l3)), oI (h.1 13 46 (((310 : Int32) + ((6 : Int32) * l3)) + (1 : Int32)).toNatClampNeg), _, _, _] [aI v5] (sh_E h)
        refine ai_WP_steps mc_283 (sh_CM d) 3 (And.intro (Nat.le_of_ble_eq_true rfl) (x_M_layTills N (Nat.le_trans (Nat.le_of_ble_eq_true rfl) hd) h (sh_okB H) (fun h6 H => ?_)))
        show wq_283 d Q 84 [oR 12 0, oI l1, oI l2, oI l3, oI ((310 : Int32) + ((6 : Int32) * l3)), oI (h.1 13 46 (((310 : Int32) + ((6 : Int32) * l3)) + (1 : Int32)).toNatClampNeg), oI v5, _, _] [] (sh_E h6)
        have c := sh_okG H
        replace H := sh_okH H
        refine ai_WP_steps mc_283 (sh_CM d) 5 (And.intro c ?_)
        show wq_283 d Q 91 [oR 12 0, oI l1, oI l2, oI l3, oI ((310 : Int32) + ((6 : Int32) * l3)), oI (h.1 13 46 (((310 : Int32) + ((6 : Int32) * l3)) + (1 : Int32)).toNatClampNeg), oI v5, _, _] [aI (l2 - l2 / (12 : Int32) * (12 : Int32)), aI ((310 : Int32) + ((6 : Int32) * l3)), aR 12 0] (sh_E h6)
        refine ai_WP_steps mc_283 (sh_CM d) 1 (And.intro (Nat.le_of_ble_eq_true rfl) (x_M_reason N (Nat.le_trans (Nat.le_of_ble_eq_true rfl) hd) ((310 : Int32) + ((6 : Int32) * l3)) (l2 - l2 / (12 : Int32) * (12 : Int32)) h6 (sh_okB H) (fun v7 H => ?_)))
        show wq_283 d Q 94 [oR 12 0, oI l1, oI l2, oI l3, oI ((310 : Int32) + ((6 : Int32) * l3)), oI (h.1 13 46 (((310 : Int32) + ((6 : Int32) * l3)) + (1 : Int32)).toNatClampNeg), oI v5, _, _] [aI v7] (sh_E h6)
        refine ai_WP_steps mc_283 (sh_CM d) 3 (And.intro (fun c => ?_) (fun c => ?_))
        · replace H := sh_okT c H
          exact x_M_sends_b135 N hd hR k22 hk22 l1 l2 l3 ((310 : Int32) + ((6 : Int32) * l3)) (h.1 13 46 (((310 : Int32) + ((6 : Int32) * l3)) + (1 : Int32)).toNatClampNeg) v7 h6 H
        · replace H := sh_okF c H
          show wq_283 d Q 101 [oR 12 0, oI l1, oI l2, oI l3, oI ((310 : Int32) + ((6 : Int32) * l3)), oI (h.1 13 46 (((310 : Int32) + ((6 : Int32) * l3)) + (1 : Int32)).toNatClampNeg), oI v5, oI v7, _] [] (sh_E h6)
          refine ai_WP_steps mc_283 (sh_CM d) 8 (And.intro (Nat.le_of_ble_eq_true rfl) (x_M_lot (Nat.le_trans (Nat.le_of_ble_eq_true rfl) hd) l1 (((40 : Int32) * l2) + v5) (10 : Int32) h6 (sh_okB H) (fun v8 H => ?_)))
          show wq_283 d Q 114 [oR 12 0, oI l1, oI l2, oI l3, oI ((310 : Int32) + ((6 : Int32) * l3)), oI (h.1 13 46 (((310 : Int32) + ((6 : Int32) * l3)) + (1 : Int32)).toNatClampNeg), oI v5, oI v7, _] [aI v8] (sh_E h6)
          have c := sh_okG H
          replace H := sh_okH H
          refine ai_WP_steps mc_283 (sh_CM d) 10 (And.intro c ?_)
          show wq_283 d Q 129 [oR 12 0, oI l1, oI l2, oI l3, oI ((310 : Int32) + ((6 : Int32) * l3)), oI (h.1 13 46 (((310 : Int32) + ((6 : Int32) * l3)) + (1 : Int32)).toNatClampNeg), oI v5, oI v7, _] [aI (h6.1 13 46 (((250 : Int32) + ((5 : Int32) * v5)) + (4 : Int32)).toNatClampNeg), aI v8] (sh_E h6)
          refine ai_WP_steps mc_283 (sh_CM d) 1 (And.intro (fun c => ?_) (fun c => ?_))
          · replace H := sh_okT c H
            show wq_283 d Q 132 [oR 12 0, oI l1, oI l2, oI l3, oI ((310 : Int32) + ((6 : Int32) * l3)), oI (h.1 13 46 (((310 : Int32) + ((6 : Int32) * l3)) + (1 : Int32)).toNatClampNeg), oI v5, oI v7, _] [] (sh_E h6)
            refine ai_WP_steps mc_283 (sh_CM d) 2 ?_
            exact x_M_sends_b135 N hd hR k22 hk22 l1 l2 l3 ((310 : Int32) + ((6 : Int32) * l3)) (h.1 13 46 (((310 : Int32) + ((6 : Int32) * l3)) + (1 : Int32)).toNatClampNeg) (2 : Int32) h6 H
          · replace H := sh_okF c H
            exact x_M_sends_b135 N hd hR k22 hk22 l1 l2 l3 ((310 : Int32) + ((6 : Int32) * l3)) (h.1 13 46 (((310 : Int32) + ((6 : Int32) * l3)) + (1 : Int32)).toNatClampNeg) v7 h6 H
      · replace H := sh_okF c H
        show wq_283 d Q 54 [oR 12 0, oI l1, oI l2, oI l3, oI ((310 : Int32) + ((6 : Int32) * l3)), _, _, _, _] [] (sh_E h)
        refine ai_WP_steps mc_283 (sh_CM d) 1 ?_
        exact x_M_sends_b261 N hd hR k22 hk22 l1 l2 l3 h H
    · replace H := sh_okF c H
      exact hk267 l2 h H
def f_M_sends_b315 (N : Nat)  (k269 : Int32 → Int32 → sh_H → Option sh_H) (l2 : Int32) (l3 : Int32) (h : sh_H) : Option sh_H := k269 l2 (l3 + (1 : Int32)) h
theorem x_M_sends_b315 (N : Nat) {d : Nat} (hd : 3 ≤ d) {Q : ai_Q} {R : sh_H → Prop} (hR : ∀ h, R h → Q none (sh_E h))  (k269 : Int32 → Int32 → sh_H → Option sh_H) (hk269 : ∀ (l2 : Int32) (l3 : Int32) {d1 d4 d5 d6 d7 d8 : Option ai_V} (h : sh_H), sh_ok (k269 l2 l3 h) R → wq_283 d Q 269 [oR 12 0, d1, oI l2, oI l3, d4, d5, d6, d7, d8] [] (sh_E h)) (l2 : Int32) (l3 : Int32) {d1 d4 d5 d6 d7 d8 : Option ai_V} (h : sh_H) (H : sh_ok (f_M_sends_b315 N k269 l2 l3 h) R) : wq_283 d Q 315 [oR 12 0, d1, oI l2, oI l3, d4, d5, d6, d7, d8] [] (sh_E h) := by
  refine ai_WP_steps mc_283 (sh_CM d) 2 ?_
  exact hk269 l2 (l3 + (1 : Int32)) h H
def f_M_sends_c269 (N : Nat)   (k269 : Int32 → Int32 → sh_H → Option sh_H) (l2 : Int32) (l3 : Int32) (h : sh_H) : Option sh_H := (if l3 < (5 : Int32) then (if ai_in l3 5 then (if 0 < (h.1 13 52 l3.toNatClampNeg) then (if ai_in (1 : Int32) 12 then (if ¬ (12 : Int32) = 0 then (Option.bind (f_M_boatOf N l3 (l2 - l2 / (12 : Int32) * (12 : Int32)) h) (fun v9 => (if ai_in (((250 : Int32) + ((5 : Int32) * v9)) + (3 : Int32)) 8000 then (if ai_in (1 : Int32) 12 then (sh_let (sh_pJ h 14 6 (1 : Int32).toNatClampNeg ((h.2.1 14 6 (1 : Int32).toNatClampNeg) + (h.1 13 46 (((250 : Int32) + ((5 : Int32) * v9)) + (3 : Int32)).toNatClampNeg).toInt64)) (fun h10 => f_M_sends_b315 N k269 l2 l3 h10)) else none) else none))) else none) else none) else f_M_sends_b315 N k269 l2 l3 h) else none) else (some h))
def f_M_sends_l269 (N : Nat)   (n : Nat) : Int32 → Int32 → sh_H → Option sh_H := Nat.rec (motive := fun _ => Int32 → Int32 → sh_H → Option sh_H) (fun _ _ _ => none) (fun _ k269 => f_M_sends_c269 N k269) n
theorem x_M_sends_l269 (N : Nat) {d : Nat} (hd : 3 ≤ d) {Q : ai_Q} {R : sh_H → Prop} (hR : ∀ h, R h → Q none (sh_E h))   (n : Nat) : ∀ (l2 : Int32) (l3 : Int32) {d1 d4 d5 d6 d7 d8 : Option ai_V} (h : sh_H), sh_ok (f_M_sends_l269 N n l2 l3 h) R → wq_283 d Q 269 [oR 12 0, d1, oI l2, oI l3, d4, d5, d6, d7, d8] [] (sh_E h) := by
  induction n with
  | zero => intro l2 l3 d1 d4 d5 d6 d7 d8 h H; exact H.elim
  | succ n ih =>
    intro l2 l3 d1 d4 d5 d6 d7 d8 h H
    have hk269 := @ih
    replace H : sh_ok (f_M_sends_c269 N (f_M_sends_l269 N n) l2 l3 h) R := H
    revert hk269 H
    generalize f_M_sends_l269 N n = k269
    intro hk269 H
    refine ai_WP_steps mc_283 (sh_CM d) 3 (And.intro (fun c => ?_) (fun c => ?_))
    · replace H := sh_okT c H
      show wq_283 d Q 274 [oR 12 0, _, oI l2, oI l3, _, _, _, _, _] [] (sh_E h)
      have c := sh_okG H
      replace H := sh_okH H
      refine ai_WP_steps mc_283 (sh_CM d) 4 (And.intro c ?_)
      show wq_283 d Q 280 [oR 12 0, _, oI l2, oI l3, _, _, _, _, _] [aI (h.1 13 52 l3.toNatClampNeg)] (sh_E h)
      refine ai_WP_steps mc_283 (sh_CM d) 1 (And.intro (fun c => ?_) (fun c => ?_))
      · replace H := sh_okT c H
        show wq_283 d Q 283 [oR 12 0, _, oI l2, oI l3, _, _, _, _, _] [] (sh_E h)
        have c := sh_okG H
        replace H := sh_okH H
        refine ai_WP_steps mc_283 (sh_CM d) 5 (And.intro c ?_)
        show wq_283 d Q 290 [oR 12 0, _, oI l2, oI l3, _, _, _, _, _] [aL (h.2.1 14 6 (1 : Int32).toNatClampNeg), aI (1 : Int32), aR 14 6] (sh_E h)
        have c := sh_okG H
        replace H := sh_okH H
        refine ai_WP_steps mc_283 (sh_CM d) 9 (And.intro c ?_)
        show wq_283 d Q 304 [oR 12 0, _, oI l2, oI l3, _, _, _, _, _] [aI (l2 - l2 / (12 : Int32) * (12 : Int32)), aI l3, aR 12 0, aI (5 : Int32), aI (250 : Int32), aR 13 46, aL (h.2.1 14 6 (1 : Int32).toNatClampNeg), aI (1 : Int32), aR 14 6] (sh_E h)
        refine ai_WP_steps mc_283 (sh_CM d) 1 (And.intro (Nat.le_of_ble_eq_true rfl) (x_M_boatOf N (Nat.le_trans (Nat.le_of_ble_eq_true rfl) hd) l3 (l2 - l2 / (12 : Int32) * (12 : Int32)) h (sh_okB H) (fun v9 H => ?_)))
        show wq_283 d Q 307 [oR 12 0, _, oI l2, oI l3, _, _, _, _, _] [aI v9, aI (5 : Int32), aI (250 : Int32), aR 13 46, aL (h.2.1 14 6 (1 : Int32).toNatClampNeg), aI (1 : Int32), aR 14 6] (sh_E h)
        have c := sh_okG H
        replace H := sh_okH H
        refine ai_WP_steps mc_283 (sh_CM d) 5 (And.intro c ?_)
        show wq_283 d Q 312 [oR 12 0, _, oI l2, oI l3, _, _, _, _, _] [aI (h.1 13 46 (((250 : Int32) + ((5 : Int32) * v9)) + (3 : Int32)).toNatClampNeg), aL (h.2.1 14 6 (1 : Int32).toNatClampNeg), aI (1 : Int32), aR 14 6] (sh_E h)
        have c := sh_okG H
        replace H := sh_okH H
        refine ai_WP_steps mc_283 (sh_CM d) 3 (And.intro c ?_)
        show wq_283 d Q 315 [oR 12 0, _, oI l2, oI l3, _, _, _, _, _] [] (sh_E (sh_pJ h 14 6 (1 : Int32).toNatClampNeg ((h.2.1 14 6 (1 : Int32).toNatClampNeg) + (h.1 13 46 (((250 : Int32) + ((5 : Int32) * v9)) + (3 : Int32)).toNatClampNeg).toInt64)))
        replace H := sh_okL H
        generalize sh_pJ h 14 6 (1 : Int32).toNatClampNeg ((h.2.1 14 6 (1 : Int32).toNatClampNeg) + (h.1 13 46 (((250 : Int32) + ((5 : Int32) * v9)) + (3 : Int32)).toNatClampNeg).toInt64) = h10 at H ⊢
        exact x_M_sends_b315 N hd hR k269 hk269 l2 l3 h10 H
      · replace H := sh_okF c H
        exact x_M_sends_b315 N hd hR k269 hk269 l2 l3 h H
    · replace H := sh_okF c H
      show wq_283 d Q 321 [oR 12 0, _, oI l2, oI l3, _, _, _, _, _] [] (sh_E h)
      exact ai_WP_steps mc_283 (sh_CM d) 1 (hR h H)
def f_M_sends_b267 (N : Nat)   (l2 : Int32) (h : sh_H) : Option sh_H := f_M_sends_l269 N N l2 (1 : Int32) h
theorem x_M_sends_b267 (N : Nat) {d : Nat} (hd : 3 ≤ d) {Q : ai_Q} {R : sh_H → Prop} (hR : ∀ h, R h → Q none (sh_E h))   (l2 : Int32) {d1 d3 d4 d5 d6 d7 d8 : Option ai_V} (h : sh_H) (H : sh_ok (f_M_sends_b267 N l2 h) R) : wq_283 d Q 267 [oR 12 0, d1, oI l2, d3, d4, d5, d6, d7, d8] [] (sh_E h) := by
  refine ai_WP_steps mc_283 (sh_CM d) 2 ?_
  exact x_M_sends_l269 N hd hR N l2 (1 : Int32) h H
def f_M_sends_b20 (N : Nat)   (l1 : Int32) (l2 : Int32) (h : sh_H) : Option sh_H := f_M_sends_l22 N (f_M_sends_b267 N) N l1 l2 (0 : Int32) h
theorem x_M_sends_b20 (N : Nat) {d : Nat} (hd : 3 ≤ d) {Q : ai_Q} {R : sh_H → Prop} (hR : ∀ h, R h → Q none (sh_E h))   (l1 : Int32) (l2 : Int32) {d3 d4 d5 d6 d7 d8 : Option ai_V} (h : sh_H) (H : sh_ok (f_M_sends_b20 N l1 l2 h) R) : wq_283 d Q 20 [oR 12 0, oI l1, oI l2, d3, d4, d5, d6, d7, d8] [] (sh_E h) := by
  refine ai_WP_steps mc_283 (sh_CM d) 2 ?_
  exact x_M_sends_l22 N hd hR (f_M_sends_b267 N) (fun z0 {e1} {e3} {e4} {e5} {e6} {e7} {e8} h H => x_M_sends_b267 N hd hR z0 h H) N l1 l2 (0 : Int32) h H
def f_M_sends (N : Nat)  (l1 : Int32) (l2 : Int32) (h : sh_H) : Option sh_H := f_M_sends_l2 N (f_M_sends_b20 N) N l1 l2 (0 : Int32) h
theorem x_M_sends (N : Nat) {d : Nat} (hd : 4 ≤ d) (l1 : Int32) (l2 : Int32) (h : sh_H) {Q : ai_Q} {R : sh_H → Prop} (H : sh_ok (f_M_sends N l1 l2 h) R) (hR : ∀ h, R h → Q none (sh_E h)) : ai_Ex sh_T d 283 [aR 12 0, aI l1, aI l2] (sh_E h) Q := by
  obtain ⟨d, rfl⟩ : ∃ e, d = e + 1 := ⟨d - 1, by omega⟩
  replace hd : 3 ≤ d := by omega
  refine And.intro (Nat.le_of_ble_eq_true rfl) ?_
  show wq_283 d Q 0 [oR 12 0, oI l1, oI l2, none, none, none, none, none, none] [] (sh_E h)
  refine ai_WP_steps mc_283 (sh_CM d) 2 ?_
  exact x_M_sends_l2 N hd hR (f_M_sends_b20 N) (fun z0 z1 {e3} {e4} {e5} {e6} {e7} {e8} h H => x_M_sends_b20 N hd hR z0 z1 h H) N l1 l2 (0 : Int32) h H
def f_M_flows_c2 (N : Nat)   (k2 : Int32 → Int32 → Int32 → sh_H → Option sh_H) (l1 : Int32) (l2 : Int32) (l3 : Int32) (h : sh_H) : Option sh_H := (if ai_in (4 : Int32) 8000 then (if l3 < (h.1 13 46 (4 : Int32).toNatClampNeg) then (if ai_in ((150 : Int32) + ((5 : Int32) * l3)) 8000 then (if ai_in (((150 : Int32) + ((5 : Int32) * l3)) + (2 : Int32)) 8000 then (Option.bind (f_M_all N (h.1 13 46 ((150 : Int32) + ((5 : Int32) * l3)).toNatClampNeg) (h.1 13 46 (((150 : Int32) + ((5 : Int32) * l3)) + (2 : Int32)).toNatClampNeg) h) (fun v1 => (if ¬ (12 : Int32) = 0 then (Option.bind (f_M_lot l1 (((1000 : Int32) + ((40 : Int32) * l2)) + l3) (5 : Int32) h) (fun v2 => (Option.bind (f_M_ask (l2 - l2 / (12 : Int32) * (12 : Int32)) v1 (0 : Int32) v2 h) (fun h3 => (if ai_in ((150 : Int32) + ((5 : Int32) * l3)) 8000 then (if ai_in (((150 : Int32) + ((5 : Int32) * l3)) + (1 : Int32)) 8000 then (if ai_in (((150 : Int32) + ((5 : Int32) * l3)) + (2 : Int32)) 8000 then (sh_b2 (f_M_sum N (((150 : Int32) + ((5 : Int32) * l3)) + (3 : Int32)) h3) (fun v4 h5 => (Option.bind (f_M_within v4 (0 : Int32) v1 h5) (fun v6 => (Option.bind (f_M_go N (h3.1 13 46 ((150 : Int32) + ((5 : Int32) * l3)).toNatClampNeg) (h3.1 13 46 (((150 : Int32) + ((5 : Int32) * l3)) + (1 : Int32)).toNatClampNeg) (h3.1 13 46 (((150 : Int32) + ((5 : Int32) * l3)) + (2 : Int32)).toNatClampNeg) v6 (1 : Int32) h5) (fun h7 => k2 l1 l2 (l3 + (1 : Int32)) h7)))))) else none) else none) else none))))) else none))) else none) else none) else (some h)) else none)
def f_M_flows_l2 (N : Nat)   (n : Nat) : Int32 → Int32 → Int32 → sh_H → Option sh_H := Nat.rec (motive := fun _ => Int32 → Int32 → Int32 → sh_H → Option sh_H) (fun _ _ _ _ => none) (fun _ k2 => f_M_flows_c2 N k2) n
theorem x_M_flows_l2 (N : Nat) {d : Nat} (hd : 2 ≤ d) {Q : ai_Q} {R : sh_H → Prop} (hR : ∀ h, R h → Q none (sh_E h))   (n : Nat) : ∀ (l1 : Int32) (l2 : Int32) (l3 : Int32) {d4 d5 : Option ai_V} (h : sh_H), sh_ok (f_M_flows_l2 N n l1 l2 l3 h) R → wq_284 d Q 2 [oR 12 0, oI l1, oI l2, oI l3, d4, d5] [] (sh_E h) := by
  induction n with
  | zero => intro l1 l2 l3 d4 d5 h H; exact H.elim
  | succ n ih =>
    intro l1 l2 l3 d4 d5 h H
    have hk2 := @ih
    replace H : sh_ok (f_M_flows_c2 N (f_M_flows_l2 N n) l1 l2 l3 h) R := H
    revert hk2 H
    generalize f_M_flows_l2 N n = k2
    intro hk2 H
    have c := sh_okG H
    replace H := sh_okH H
    refine ai_WP_steps mc_284 (sh_CM d) 5 (And.intro c ?_)
    show wq_284 d Q 9 [oR 12 0, oI l1, oI l2, oI l3, _, _] [aI (h.1 13 46 (4 : Int32).toNatClampNeg), aI l3] (sh_E h)
    refine ai_WP_steps mc_284 (sh_CM d) 1 (And.intro (fun c => ?_) (fun c => ?_))
    · replace H := sh_okT c H
      show wq_284 d Q 12 [oR 12 0, oI l1, oI l2, oI l3, _, _] [] (sh_E h)
      have c := sh_okG H
      replace H := sh_okH H
      refine ai_WP_steps mc_284 (sh_CM d) 11 (And.intro c ?_)
      show wq_284 d Q 29 [oR 12 0, oI l1, oI l2, oI l3, oI ((150 : Int32) + ((5 : Int32) * l3)), _] [aI (h.1 13 46 ((150 : Int32) + ((5 : Int32) * l3)).toNatClampNeg), aR 12 0] (sh_E h)
      have c := sh_okG H
      replace H := sh_okH H
      refine ai_WP_steps mc_284 (sh_CM d) 6 (And.intro c ?_)
      show wq_284 d Q 38 [oR 12 0, oI l1, oI l2, oI l3, oI ((150 : Int32) + ((5 : Int32) * l3)), _] [aI (h.1 13 46 (((150 : Int32) + ((5 : Int32) * l3)) + (2 : Int32)).toNatClampNeg), aI (h.1 13 46 ((150 : Int32) + ((5 : Int32) * l3)).toNatClampNeg), aR 12 0] (sh_E h)
      refine ai_WP_steps mc_284 (sh_CM d) 1 (And.intro (Nat.le_of_ble_eq_true rfl) (x_M_all N (Nat.le_trans (Nat.le_of_ble_eq_true rfl) hd) (h.1 13 46 ((150 : Int32) + ((5 : Int32) * l3)).toNatClampNeg) (h.1 13 46 (((150 : Int32) + ((5 : Int32) * l3)) + (2 : Int32)).toNatClampNeg) h (sh_okB H) (fun v1 H => ?_)))
      show wq_284 d Q 41 [oR 12 0, oI l1, oI l2, oI l3, oI ((150 : Int32) + ((5 : Int32) * l3)), _] [aI v1] (sh_E h)
      have c := sh_okG H
      replace H := sh_okH H
      refine ai_WP_steps mc_284 (sh_CM d) 5 (And.intro c ?_)
      show wq_284 d Q 48 [oR 12 0, oI l1, oI l2, oI l3, oI ((150 : Int32) + ((5 : Int32) * l3)), oI v1] [aI (l2 - l2 / (12 : Int32) * (12 : Int32)), aR 12 0] (sh_E h)
      refine ai_WP_steps mc_284 (sh_CM d) 12 (And.intro (Nat.le_of_ble_eq_true rfl) (x_M_lot (Nat.le_trans (Nat.le_of_ble_eq_true rfl) hd) l1 (((1000 : Int32) + ((40 : Int32) * l2)) + l3) (5 : Int32) h (sh_okB H) (fun v2 H => ?_)))
      show wq_284 d Q 66 [oR 12 0, oI l1, oI l2, oI l3, oI ((150 : Int32) + ((5 : Int32) * l3)), oI v1] [aI v2, aI (0 : Int32), aI v1, aI (l2 - l2 / (12 : Int32) * (12 : Int32)), aR 12 0] (sh_E h)
      refine ai_WP_steps mc_284 (sh_CM d) 1 (And.intro (Nat.le_of_ble_eq_true rfl) (x_M_ask (Nat.le_trans (Nat.le_of_ble_eq_true rfl) hd) (l2 - l2 / (12 : Int32) * (12 : Int32)) v1 (0 : Int32) v2 h (sh_okB H) (fun h3 H => ?_)))
      show wq_284 d Q 69 [oR 12 0, oI l1, oI l2, oI l3, oI ((150 : Int32) + ((5 : Int32) * l3)), oI v1] [] (sh_E h3)
      have c := sh_okG H
      replace H := sh_okH H
      refine ai_WP_steps mc_284 (sh_CM d) 5 (And.intro c ?_)
      show wq_284 d Q 77 [oR 12 0, oI l1, oI l2, oI l3, oI ((150 : Int32) + ((5 : Int32) * l3)), oI v1] [aI (h3.1 13 46 ((150 : Int32) + ((5 : Int32) * l3)).toNatClampNeg), aR 12 0] (sh_E h3)
      have c := sh_okG H
      replace H := sh_okH H
      refine ai_WP_steps mc_284 (sh_CM d) 6 (And.intro c ?_)
      show wq_284 d Q 86 [oR 12 0, oI l1, oI l2, oI l3, oI ((150 : Int32) + ((5 : Int32) * l3)), oI v1] [aI (h3.1 13 46 (((150 : Int32) + ((5 : Int32) * l3)) + (1 : Int32)).toNatClampNeg), aI (h3.1 13 46 ((150 : Int32) + ((5 : Int32) * l3)).toNatClampNeg), aR 12 0] (sh_E h3)
      have c := sh_okG H
      replace H := sh_okH H
      refine ai_WP_steps mc_284 (sh_CM d) 6 (And.intro c ?_)
      show wq_284 d Q 95 [oR 12 0, oI l1, oI l2, oI l3, oI ((150 : Int32) + ((5 : Int32) * l3)), oI v1] [aI (h3.1 13 46 (((150 : Int32) + ((5 : Int32) * l3)) + (2 : Int32)).toNatClampNeg), aI (h3.1 13 46 (((150 : Int32) + ((5 : Int32) * l3)) + (1 : Int32)).toNatClampNeg), aI (h3.1 13 46 ((150 : Int32) + ((5 : Int32) * l3)).toNatClampNeg), aR 12 0] (sh_E h3)
      refine ai_WP_steps mc_284 (sh_CM d) 5 (And.intro (Nat.le_of_ble_eq_true rfl) (x_M_sum N (Nat.le_trans (Nat.le_of_ble_eq_true rfl) hd) (((150 : Int32) + ((5 : Int32) * l3)) + (3 : Int32)) h3 (sh_okB H) (fun v4 h5 H => ?_)))
      show wq_284 d Q 103 [oR 12 0, oI l1, oI l2, oI l3, oI ((150 : Int32) + ((5 : Int32) * l3)), oI v1] [aI v4, aI (h3.1 13 46 (((150 : Int32) + ((5 : Int32) * l3)) + (2 : Int32)).toNatClampNeg), aI (h3.1 13 46 (((150 : Int32) + ((5 : Int32) * l3)) + (1 : Int32)).toNatClampNeg), aI (h3.1 13 46 ((150 : Int32) + ((5 : Int32) * l3)).toNatClampNeg), aR 12 0] (sh_E h5)
      refine ai_WP_steps mc_284 (sh_CM d) 3 (And.intro (Nat.le_of_ble_eq_true rfl) (x_M_within (Nat.le_trans (Nat.le_of_ble_eq_true rfl) hd) v4 (0 : Int32) v1 h5 (sh_okB H) (fun v6 H => ?_)))
      show wq_284 d Q 109 [oR 12 0, oI l1, oI l2, oI l3, oI ((150 : Int32) + ((5 : Int32) * l3)), oI v1] [aI v6, aI (h3.1 13 46 (((150 : Int32) + ((5 : Int32) * l3)) + (2 : Int32)).toNatClampNeg), aI (h3.1 13 46 (((150 : Int32) + ((5 : Int32) * l3)) + (1 : Int32)).toNatClampNeg), aI (h3.1 13 46 ((150 : Int32) + ((5 : Int32) * l3)).toNatClampNeg), aR 12 0] (sh_E h5)
      refine ai_WP_steps mc_284 (sh_CM d) 2 (And.intro (Nat.le_of_ble_eq_true rfl) (x_M_go N (Nat.le_trans (Nat.le_of_ble_eq_true rfl) hd) (h3.1 13 46 ((150 : Int32) + ((5 : Int32) * l3)).toNatClampNeg) (h3.1 13 46 (((150 : Int32) + ((5 : Int32) * l3)) + (1 : Int32)).toNatClampNeg) (h3.1 13 46 (((150 : Int32) + ((5 : Int32) * l3)) + (2 : Int32)).toNatClampNeg) v6 (1 : Int32) h5 (sh_okB H) (fun h7 H => ?_)))
      show wq_284 d Q 113 [oR 12 0, oI l1, oI l2, oI l3, oI ((150 : Int32) + ((5 : Int32) * l3)), oI v1] [] (sh_E h7)
      refine ai_WP_steps mc_284 (sh_CM d) 2 ?_
      exact hk2 l1 l2 (l3 + (1 : Int32)) h7 H
    · replace H := sh_okF c H
      show wq_284 d Q 119 [oR 12 0, oI l1, oI l2, oI l3, _, _] [] (sh_E h)
      exact ai_WP_steps mc_284 (sh_CM d) 1 (hR h H)
def f_M_flows (N : Nat)  (l1 : Int32) (l2 : Int32) (h : sh_H) : Option sh_H := f_M_flows_l2 N N l1 l2 (0 : Int32) h
theorem x_M_flows (N : Nat) {d : Nat} (hd : 3 ≤ d) (l1 : Int32) (l2 : Int32) (h : sh_H) {Q : ai_Q} {R : sh_H → Prop} (H : sh_ok (f_M_flows N l1 l2 h) R) (hR : ∀ h, R h → Q none (sh_E h)) : ai_Ex sh_T d 284 [aR 12 0, aI l1, aI l2] (sh_E h) Q := by
  obtain ⟨d, rfl⟩ : ∃ e, d = e + 1 := ⟨d - 1, by omega⟩
  replace hd : 2 ≤ d := by omega
  refine And.intro (Nat.le_of_ble_eq_true rfl) ?_
  show wq_284 d Q 0 [oR 12 0, oI l1, oI l2, none, none, none] [] (sh_E h)
  refine ai_WP_steps mc_284 (sh_CM d) 2 ?_
  exact x_M_flows_l2 N hd hR N l1 l2 (0 : Int32) h H
def f_M_isLastWear_c4 (N : Nat)   (k4 : Int32 → Int32 → sh_H → Option Int32) (l1 : Int32) (l2 : Int32) (h : sh_H) : Option Int32 := (if ai_in (5 : Int32) 8000 then (if l2 < (h.1 13 46 (5 : Int32).toNatClampNeg) then (if ai_in ((210 : Int32) + ((3 : Int32) * l2)) 8000 then (if ai_in ((210 : Int32) + ((3 : Int32) * l1)) 8000 then (if (h.1 13 46 ((210 : Int32) + ((3 : Int32) * l2)).toNatClampNeg) = (h.1 13 46 ((210 : Int32) + ((3 : Int32) * l1)).toNatClampNeg) then (some (ai_nar 1 (0 : Int32))) else k4 l1 (l2 + (1 : Int32)) h) else none) else none) else (some (ai_nar 1 (1 : Int32)))) else none)
def f_M_isLastWear_l4 (N : Nat)   (n : Nat) : Int32 → Int32 → sh_H → Option Int32 := Nat.rec (motive := fun _ => Int32 → Int32 → sh_H → Option Int32) (fun _ _ _ => none) (fun _ k4 => f_M_isLastWear_c4 N k4) n
theorem x_M_isLastWear_l4 (N : Nat) {d : Nat} (hd : 0 ≤ d) (h : sh_H) {Q : ai_Q} {R : Int32 → Prop} (hR : ∀ r, R r → Q (some (aI r)) (sh_E h))   (n : Nat) : ∀ (l1 : Int32) (l2 : Int32), sh_ok (f_M_isLastWear_l4 N n l1 l2 h) R → wq_285 d Q 4 [oR 12 0, oI l1, oI l2] [] (sh_E h) := by
  induction n with
  | zero => intro l1 l2 H; exact H.elim
  | succ n ih =>
    intro l1 l2 H
    have hk4 := @ih
    replace H : sh_ok (f_M_isLastWear_c4 N (f_M_isLastWear_l4 N n) l1 l2 h) R := H
    revert hk4 H
    generalize f_M_isLastWear_l4 N n = k4
    intro hk4 H
    have c := sh_okG H
    replace H := sh_okH H
    refine ai_WP_steps mc_285 (sh_CM d) 5 (And.intro c ?_)
    show wq_285 d Q 11 [oR 12 0, oI l1, oI l2] [aI (h.1 13 46 (5 : Int32).toNatClampNeg), aI l2] (sh_E h)
    refine ai_WP_steps mc_285 (sh_CM d) 1 (And.intro (fun c => ?_) (fun c => ?_))
    · replace H := sh_okT c H
      show wq_285 d Q 14 [oR 12 0, oI l1, oI l2] [] (sh_E h)
      have c := sh_okG H
      replace H := sh_okH H
      refine ai_WP_steps mc_285 (sh_CM d) 8 (And.intro c ?_)
      show wq_285 d Q 26 [oR 12 0, oI l1, oI l2] [aI (h.1 13 46 ((210 : Int32) + ((3 : Int32) * l2)).toNatClampNeg)] (sh_E h)
      have c := sh_okG H
      replace H := sh_okH H
      refine ai_WP_steps mc_285 (sh_CM d) 8 (And.intro c ?_)
      show wq_285 d Q 38 [oR 12 0, oI l1, oI l2] [aI (h.1 13 46 ((210 : Int32) + ((3 : Int32) * l1)).toNatClampNeg), aI (h.1 13 46 ((210 : Int32) + ((3 : Int32) * l2)).toNatClampNeg)] (sh_E h)
      refine ai_WP_steps mc_285 (sh_CM d) 1 (And.intro (fun c => ?_) (fun c => ?_))
      · replace H := sh_okT c H
        show wq_285 d Q 41 [oR 12 0, oI l1, oI l2] [] (sh_E h)
        exact ai_WP_steps mc_285 (sh_CM d) 2 (hR (ai_nar 1 (0 : Int32)) H)
      · replace H := sh_okF c H
        show wq_285 d Q 43 [oR 12 0, oI l1, oI l2] [] (sh_E h)
        refine ai_WP_steps mc_285 (sh_CM d) 2 ?_
        exact hk4 l1 (l2 + (1 : Int32)) H
    · replace H := sh_okF c H
      show wq_285 d Q 49 [oR 12 0, oI l1, oI l2] [] (sh_E h)
      exact ai_WP_steps mc_285 (sh_CM d) 2 (hR (ai_nar 1 (1 : Int32)) H)
def f_M_isLastWear (N : Nat)  (l1 : Int32) (h : sh_H) : Option Int32 := f_M_isLastWear_l4 N N l1 (l1 + (1 : Int32)) h
theorem x_M_isLastWear (N : Nat) {d : Nat} (hd : 1 ≤ d) (l1 : Int32) (h : sh_H) {Q : ai_Q} {R : Int32 → Prop} (H : sh_ok (f_M_isLastWear N l1 h) R) (hR : ∀ r, R r → Q (some (aI r)) (sh_E h)) : ai_Ex sh_T d 285 [aR 12 0, aI l1] (sh_E h) Q := by
  obtain ⟨d, rfl⟩ : ∃ e, d = e + 1 := ⟨d - 1, by omega⟩
  replace hd : 0 ≤ d := by omega
  refine And.intro (Nat.le_of_ble_eq_true rfl) ?_
  show wq_285 d Q 0 [oR 12 0, oI l1, none] [] (sh_E h)
  refine ai_WP_steps mc_285 (sh_CM d) 4 ?_
  exact x_M_isLastWear_l4 N hd h hR N l1 (l1 + (1 : Int32)) H
def f_M_wears_c53 (N : Nat)  (k151 : Int32 → Int32 → Int32 → Int32 → sh_H → Option sh_H) (k53 : Int32 → Int32 → Int32 → Int32 → Int32 → sh_H → Option sh_H) (l1 : Int32) (l2 : Int32) (l3 : Int32) (l4 : Int32) (l5 : Int32) (h : sh_H) : Option sh_H := (if l5 < 0 then k151 l1 l2 l3 l4 h else (Option.bind (f_M_cell l4 l3 l5 h) (fun v1 => (if ai_in v1 8000 then (if ¬ (12 : Int32) = 0 then (Option.bind (f_M_ask (l1 - l1 / (12 : Int32) * (12 : Int32)) (h.1 13 46 v1.toNatClampNeg) l5 (0 : Int32) h) (fun h2 => (sh_b2 (f_M_sum N (((210 : Int32) + ((3 : Int32) * l2)) + (1 : Int32)) h2) (fun v3 h4 => (Option.bind (f_M_within v3 (0 : Int32) (h.1 13 46 v1.toNatClampNeg) h4) (fun v5 => (Option.bind (f_M_cell l4 l3 l5 h4) (fun v6 => (if ai_in v6 8000 then (if ai_in v6 8000 then (sh_let (sh_pI h4 13 46 v6.toNatClampNeg ((h4.1 13 46 v6.toNatClampNeg) - v5)) (fun h7 => (Option.bind (f_M_cell l4 l3 (l5 + (1 : Int32)) h7) (fun v8 => (if ai_in v8 8000 then (if ai_in v8 8000 then (sh_let (sh_pI h7 13 46 v8.toNatClampNeg ((h7.1 13 46 v8.toNatClampNeg) + v5)) (fun h9 => k53 l1 l2 l3 l4 (l5 + (-1 : Int32)) h9)) else none) else none))))) else none) else none))))))))) else none) else none))))
def f_M_wears_l53 (N : Nat)  (k151 : Int32 → Int32 → Int32 → Int32 → sh_H → Option sh_H) (n : Nat) : Int32 → Int32 → Int32 → Int32 → Int32 → sh_H → Option sh_H := Nat.rec (motive := fun _ => Int32 → Int32 → Int32 → Int32 → Int32 → sh_H → Option sh_H) (fun _ _ _ _ _ _ => none) (fun _ k53 => f_M_wears_c53 N k151 k53) n
theorem x_M_wears_l53 (N : Nat) {d : Nat} (hd : 2 ≤ d) {Q : ai_Q} {R : sh_H → Prop} (hR : ∀ h, R h → Q none (sh_E h))  (k151 : Int32 → Int32 → Int32 → Int32 → sh_H → Option sh_H) (hk151 : ∀ (l1 : Int32) (l2 : Int32) (l3 : Int32) (l4 : Int32) {d5 d6 d7 : Option ai_V} (h : sh_H), sh_ok (k151 l1 l2 l3 l4 h) R → wq_286 d Q 151 [oR 12 0, oI l1, oI l2, oI l3, oI l4, d5, d6, d7] [] (sh_E h)) (n : Nat) : ∀ (l1 : Int32) (l2 : Int32) (l3 : Int32) (l4 : Int32) (l5 : Int32) {d6 d7 : Option ai_V} (h : sh_H), sh_ok (f_M_wears_l53 N k151 n l1 l2 l3 l4 l5 h) R → wq_286 d Q 53 [oR 12 0, oI l1, oI l2, oI l3, oI l4, oI l5, d6, d7] [] (sh_E h) := by
  induction n with
  | zero => intro l1 l2 l3 l4 l5 d6 d7 h H; exact H.elim
  | succ n ih =>
    intro l1 l2 l3 l4 l5 d6 d7 h H
    have hk53 := @ih
    replace H : sh_ok (f_M_wears_c53 N k151 (f_M_wears_l53 N k151 n) l1 l2 l3 l4 l5 h) R := H
    revert hk53 H
    generalize f_M_wears_l53 N k151 n = k53
    intro hk53 H
    refine ai_WP_steps mc_286 (sh_CM d) 2 (And.intro (fun c => ?_) (fun c => ?_))
    · replace H := sh_okT c H
      exact hk151 l1 l2 l3 l4 h H
    · replace H := sh_okF c H
      show wq_286 d Q 58 [oR 12 0, oI l1, oI l2, oI l3, oI l4, oI l5, _, _] [] (sh_E h)
      refine ai_WP_steps mc_286 (sh_CM d) 6 (And.intro (Nat.le_of_ble_eq_true rfl) (x_M_cell (Nat.le_trans (Nat.le_of_ble_eq_true rfl) hd) l4 l3 l5 h (sh_okB H) (fun v1 H => ?_)))
      show wq_286 d Q 70 [oR 12 0, oI l1, oI l2, oI l3, oI l4, oI l5, _, _] [aI v1, aR 13 46] (sh_E h)
      have c := sh_okG H
      replace H := sh_okH H
      refine ai_WP_steps mc_286 (sh_CM d) 1 (And.intro c ?_)
      show wq_286 d Q 71 [oR 12 0, oI l1, oI l2, oI l3, oI l4, oI l5, _, _] [aI (h.1 13 46 v1.toNatClampNeg)] (sh_E h)
      have c := sh_okG H
      replace H := sh_okH H
      refine ai_WP_steps mc_286 (sh_CM d) 5 (And.intro c ?_)
      show wq_286 d Q 78 [oR 12 0, oI l1, oI l2, oI l3, oI l4, oI l5, oI (h.1 13 46 v1.toNatClampNeg), _] [aI (l1 - l1 / (12 : Int32) * (12 : Int32)), aR 12 0] (sh_E h)
      refine ai_WP_steps mc_286 (sh_CM d) 4 (And.intro (Nat.le_of_ble_eq_true rfl) (x_M_ask (Nat.le_trans (Nat.le_of_ble_eq_true rfl) hd) (l1 - l1 / (12 : Int32) * (12 : Int32)) (h.1 13 46 v1.toNatClampNeg) l5 (0 : Int32) h (sh_okB H) (fun h2 H => ?_)))
      show wq_286 d Q 86 [oR 12 0, oI l1, oI l2, oI l3, oI l4, oI l5, oI (h.1 13 46 v1.toNatClampNeg), _] [] (sh_E h2)
      refine ai_WP_steps mc_286 (sh_CM d) 9 (And.intro (Nat.le_of_ble_eq_true rfl) (x_M_sum N (Nat.le_trans (Nat.le_of_ble_eq_true rfl) hd) (((210 : Int32) + ((3 : Int32) * l2)) + (1 : Int32)) h2 (sh_okB H) (fun v3 h4 H => ?_)))
      show wq_286 d Q 99 [oR 12 0, oI l1, oI l2, oI l3, oI l4, oI l5, oI (h.1 13 46 v1.toNatClampNeg), _] [aI v3] (sh_E h4)
      refine ai_WP_steps mc_286 (sh_CM d) 3 (And.intro (Nat.le_of_ble_eq_true rfl) (x_M_within (Nat.le_trans (Nat.le_of_ble_eq_true rfl) hd) v3 (0 : Int32) (h.1 13 46 v1.toNatClampNeg) h4 (sh_okB H) (fun v5 H => ?_)))
      show wq_286 d Q 105 [oR 12 0, oI l1, oI l2, oI l3, oI l4, oI l5, oI (h.1 13 46 v1.toNatClampNeg), _] [aI v5] (sh_E h4)
      refine ai_WP_steps mc_286 (sh_CM d) 7 (And.intro (Nat.le_of_ble_eq_true rfl) (x_M_cell (Nat.le_trans (Nat.le_of_ble_eq_true rfl) hd) l4 l3 l5 h4 (sh_okB H) (fun v6 H => ?_)))
      show wq_286 d Q 119 [oR 12 0, oI l1, oI l2, oI l3, oI l4, oI l5, _, oI v5] [aI v6, aR 13 46] (sh_E h4)
      have c := sh_okG H
      replace H := sh_okH H
      refine ai_WP_steps mc_286 (sh_CM d) 2 (And.intro c ?_)
      show wq_286 d Q 121 [oR 12 0, oI l1, oI l2, oI l3, oI l4, oI l5, _, oI v5] [aI (h4.1 13 46 v6.toNatClampNeg), aI v6, aR 13 46] (sh_E h4)
      have c := sh_okG H
      replace H := sh_okH H
      refine ai_WP_steps mc_286 (sh_CM d) 3 (And.intro c ?_)
      show wq_286 d Q 125 [oR 12 0, oI l1, oI l2, oI l3, oI l4, oI l5, _, oI v5] [] (sh_E (sh_pI h4 13 46 v6.toNatClampNeg ((h4.1 13 46 v6.toNatClampNeg) - v5)))
      replace H := sh_okL H
      generalize sh_pI h4 13 46 v6.toNatClampNeg ((h4.1 13 46 v6.toNatClampNeg) - v5) = h7 at H ⊢
      refine ai_WP_steps mc_286 (sh_CM d) 8 (And.intro (Nat.le_of_ble_eq_true rfl) (x_M_cell (Nat.le_trans (Nat.le_of_ble_eq_true rfl) hd) l4 l3 (l5 + (1 : Int32)) h7 (sh_okB H) (fun v8 H => ?_)))
      show wq_286 d Q 139 [oR 12 0, oI l1, oI l2, oI l3, oI l4, oI l5, _, oI v5] [aI v8, aR 13 46] (sh_E h7)
      have c := sh_okG H
      replace H := sh_okH H
      refine ai_WP_steps mc_286 (sh_CM d) 2 (And.intro c ?_)
      show wq_286 d Q 141 [oR 12 0, oI l1, oI l2, oI l3, oI l4, oI l5, _, oI v5] [aI (h7.1 13 46 v8.toNatClampNeg), aI v8, aR 13 46] (sh_E h7)
      have c := sh_okG H
      replace H := sh_okH H
      refine ai_WP_steps mc_286 (sh_CM d) 3 (And.intro c ?_)
      show wq_286 d Q 145 [oR 12 0, oI l1, oI l2, oI l3, oI l4, oI l5, _, oI v5] [] (sh_E (sh_pI h7 13 46 v8.toNatClampNeg ((h7.1 13 46 v8.toNatClampNeg) + v5)))
      replace H := sh_okL H
      generalize sh_pI h7 13 46 v8.toNatClampNeg ((h7.1 13 46 v8.toNatClampNeg) + v5) = h9 at H ⊢
      refine ai_WP_steps mc_286 (sh_CM d) 2 ?_
      exact hk53 l1 l2 l3 l4 (l5 + (-1 : Int32)) h9 H
def f_M_wears_b151 (N : Nat)  (k39 : Int32 → Int32 → Int32 → Int32 → sh_H → Option sh_H) (l1 : Int32) (l2 : Int32) (l3 : Int32) (l4 : Int32) (h : sh_H) : Option sh_H := k39 l1 l2 l3 (l4 + (1 : Int32)) h
theorem x_M_wears_b151 (N : Nat) {d : Nat} (hd : 2 ≤ d) {Q : ai_Q} {R : sh_H → Prop} (hR : ∀ h, R h → Q none (sh_E h))  (k39 : Int32 → Int32 → Int32 → Int32 → sh_H → Option sh_H) (hk39 : ∀ (l1 : Int32) (l2 : Int32) (l3 : Int32) (l4 : Int32) {d5 d6 d7 : Option ai_V} (h : sh_H), sh_ok (k39 l1 l2 l3 l4 h) R → wq_286 d Q 39 [oR 12 0, oI l1, oI l2, oI l3, oI l4, d5, d6, d7] [] (sh_E h)) (l1 : Int32) (l2 : Int32) (l3 : Int32) (l4 : Int32) {d5 d6 d7 : Option ai_V} (h : sh_H) (H : sh_ok (f_M_wears_b151 N k39 l1 l2 l3 l4 h) R) : wq_286 d Q 151 [oR 12 0, oI l1, oI l2, oI l3, oI l4, d5, d6, d7] [] (sh_E h) := by
  refine ai_WP_steps mc_286 (sh_CM d) 2 ?_
  exact hk39 l1 l2 l3 (l4 + (1 : Int32)) h H
def f_M_wears_c39 (N : Nat)  (k157 : Int32 → Int32 → sh_H → Option sh_H) (k39 : Int32 → Int32 → Int32 → Int32 → sh_H → Option sh_H) (l1 : Int32) (l2 : Int32) (l3 : Int32) (l4 : Int32) (h : sh_H) : Option sh_H := (if ai_in (1 : Int32) 8000 then (if (h.1 13 46 (1 : Int32).toNatClampNeg) < l4 then k157 l1 l2 h else f_M_wears_l53 N (f_M_wears_b151 N k39) N l1 l2 l3 l4 (2 : Int32) h) else none)
def f_M_wears_l39 (N : Nat)  (k157 : Int32 → Int32 → sh_H → Option sh_H) (n : Nat) : Int32 → Int32 → Int32 → Int32 → sh_H → Option sh_H := Nat.rec (motive := fun _ => Int32 → Int32 → Int32 → Int32 → sh_H → Option sh_H) (fun _ _ _ _ _ => none) (fun _ k39 => f_M_wears_c39 N k157 k39) n
theorem x_M_wears_l39 (N : Nat) {d : Nat} (hd : 2 ≤ d) {Q : ai_Q} {R : sh_H → Prop} (hR : ∀ h, R h → Q none (sh_E h))  (k157 : Int32 → Int32 → sh_H → Option sh_H) (hk157 : ∀ (l1 : Int32) (l2 : Int32) {d3 d4 d5 d6 d7 : Option ai_V} (h : sh_H), sh_ok (k157 l1 l2 h) R → wq_286 d Q 157 [oR 12 0, oI l1, oI l2, d3, d4, d5, d6, d7] [] (sh_E h)) (n : Nat) : ∀ (l1 : Int32) (l2 : Int32) (l3 : Int32) (l4 : Int32) {d5 d6 d7 : Option ai_V} (h : sh_H), sh_ok (f_M_wears_l39 N k157 n l1 l2 l3 l4 h) R → wq_286 d Q 39 [oR 12 0, oI l1, oI l2, oI l3, oI l4, d5, d6, d7] [] (sh_E h) := by
  induction n with
  | zero => intro l1 l2 l3 l4 d5 d6 d7 h H; exact H.elim
  | succ n ih =>
    intro l1 l2 l3 l4 d5 d6 d7 h H
    have hk39 := @ih
    replace H : sh_ok (f_M_wears_c39 N k157 (f_M_wears_l39 N k157 n) l1 l2 l3 l4 h) R := H
    revert hk39 H
    generalize f_M_wears_l39 N k157 n = k39
    intro hk39 H
    have c := sh_okG H
    replace H := sh_okH H
    refine ai_WP_steps mc_286 (sh_CM d) 5 (And.intro c ?_)
    show wq_286 d Q 47 [oR 12 0, oI l1, oI l2, oI l3, oI l4, _, _, _] [aI (h.1 13 46 (1 : Int32).toNatClampNeg), aI l4] (sh_E h)
    refine ai_WP_steps mc_286 (sh_CM d) 1 (And.intro (fun c => ?_) (fun c => ?_))
    · replace H := sh_okT c H
      exact hk157 l1 l2 h H
    · replace H := sh_okF c H
      show wq_286 d Q 50 [oR 12 0, oI l1, oI l2, oI l3, oI l4, _, _, _] [] (sh_E h)
      refine ai_WP_steps mc_286 (sh_CM d) 2 ?_
      exact x_M_wears_l53 N hd hR (f_M_wears_b151 N k39) (fun z0 z1 z2 z3 {e5} {e6} {e7} h H => x_M_wears_b151 N hd hR k39 hk39 z0 z1 z2 z3 h H) N l1 l2 l3 l4 (2 : Int32) h H
def f_M_wears_b157 (N : Nat)  (k2 : Int32 → Int32 → sh_H → Option sh_H) (l1 : Int32) (l2 : Int32) (h : sh_H) : Option sh_H := k2 l1 (l2 + (1 : Int32)) h
theorem x_M_wears_b157 (N : Nat) {d : Nat} (hd : 2 ≤ d) {Q : ai_Q} {R : sh_H → Prop} (hR : ∀ h, R h → Q none (sh_E h))  (k2 : Int32 → Int32 → sh_H → Option sh_H) (hk2 : ∀ (l1 : Int32) (l2 : Int32) {d3 d4 d5 d6 d7 : Option ai_V} (h : sh_H), sh_ok (k2 l1 l2 h) R → wq_286 d Q 2 [oR 12 0, oI l1, oI l2, d3, d4, d5, d6, d7] [] (sh_E h)) (l1 : Int32) (l2 : Int32) {d3 d4 d5 d6 d7 : Option ai_V} (h : sh_H) (H : sh_ok (f_M_wears_b157 N k2 l1 l2 h) R) : wq_286 d Q 157 [oR 12 0, oI l1, oI l2, d3, d4, d5, d6, d7] [] (sh_E h) := by
  refine ai_WP_steps mc_286 (sh_CM d) 2 ?_
  exact hk2 l1 (l2 + (1 : Int32)) h H
def f_M_wears_c2 (N : Nat)   (k2 : Int32 → Int32 → sh_H → Option sh_H) (l1 : Int32) (l2 : Int32) (h : sh_H) : Option sh_H := (if ai_in (5 : Int32) 8000 then (if l2 < (h.1 13 46 (5 : Int32).toNatClampNeg) then (Option.bind (f_M_isLastWear N l2 h) (fun v10 => (if v10 = 0 then f_M_wears_b157 N k2 l1 l2 h else (if ai_in ((210 : Int32) + ((3 : Int32) * l2)) 8000 then f_M_wears_l39 N (f_M_wears_b157 N k2) N l1 l2 (h.1 13 46 ((210 : Int32) + ((3 : Int32) * l2)).toNatClampNeg) (1 : Int32) h else none)))) else (some h)) else none)
def f_M_wears_l2 (N : Nat)   (n : Nat) : Int32 → Int32 → sh_H → Option sh_H := Nat.rec (motive := fun _ => Int32 → Int32 → sh_H → Option sh_H) (fun _ _ _ => none) (fun _ k2 => f_M_wears_c2 N k2) n
theorem x_M_wears_l2 (N : Nat) {d : Nat} (hd : 2 ≤ d) {Q : ai_Q} {R : sh_H → Prop} (hR : ∀ h, R h → Q none (sh_E h))   (n : Nat) : ∀ (l1 : Int32) (l2 : Int32) {d3 d4 d5 d6 d7 : Option ai_V} (h : sh_H), sh_ok (f_M_wears_l2 N n l1 l2 h) R → wq_286 d Q 2 [oR 12 0, oI l1, oI l2, d3, d4, d5, d6, d7] [] (sh_E h) := by
  induction n with
  | zero => intro l1 l2 d3 d4 d5 d6 d7 h H; exact H.elim
  | succ n ih =>
    intro l1 l2 d3 d4 d5 d6 d7 h H
    have hk2 := @ih
    replace H : sh_ok (f_M_wears_c2 N (f_M_wears_l2 N n) l1 l2 h) R := H
    revert hk2 H
    generalize f_M_wears_l2 N n = k2
    intro hk2 H
    have c := sh_okG H
    replace H := sh_okH H
    refine ai_WP_steps mc_286 (sh_CM d) 5 (And.intro c ?_)
    show wq_286 d Q 9 [oR 12 0, oI l1, oI l2, _, _, _, _, _] [aI (h.1 13 46 (5 : Int32).toNatClampNeg), aI l2] (sh_E h)
    refine ai_WP_steps mc_286 (sh_CM d) 1 (And.intro (fun c => ?_) (fun c => ?_))
    · replace H := sh_okT c H
      show wq_286 d Q 12 [oR 12 0, oI l1, oI l2, _, _, _, _, _] [] (sh_E h)
      refine ai_WP_steps mc_286 (sh_CM d) 3 (And.intro (Nat.le_of_ble_eq_true rfl) (x_M_isLastWear N (Nat.le_trans (Nat.le_of_ble_eq_true rfl) hd) l2 h (sh_okB H) (fun v10 H => ?_)))
      show wq_286 d Q 17 [oR 12 0, oI l1, oI l2, _, _, _, _, _] [aI v10] (sh_E h)
      refine ai_WP_steps mc_286 (sh_CM d) 1 (And.intro (fun c => ?_) (fun c => ?_))
      · replace H := sh_okT c H
        show wq_286 d Q 20 [oR 12 0, oI l1, oI l2, _, _, _, _, _] [] (sh_E h)
        refine ai_WP_steps mc_286 (sh_CM d) 1 ?_
        exact x_M_wears_b157 N hd hR k2 hk2 l1 l2 h H
      · replace H := sh_okF c H
        show wq_286 d Q 23 [oR 12 0, oI l1, oI l2, _, _, _, _, _] [] (sh_E h)
        have c := sh_okG H
        replace H := sh_okH H
        refine ai_WP_steps mc_286 (sh_CM d) 8 (And.intro c ?_)
        show wq_286 d Q 35 [oR 12 0, oI l1, oI l2, _, _, _, _, _] [aI (h.1 13 46 ((210 : Int32) + ((3 : Int32) * l2)).toNatClampNeg)] (sh_E h)
        refine ai_WP_steps mc_286 (sh_CM d) 3 ?_
        exact x_M_wears_l39 N hd hR (f_M_wears_b157 N k2) (fun z0 z1 {e3} {e4} {e5} {e6} {e7} h H => x_M_wears_b157 N hd hR k2 hk2 z0 z1 h H) N l1 l2 (h.1 13 46 ((210 : Int32) + ((3 : Int32) * l2)).toNatClampNeg) (1 : Int32) h H
    · replace H := sh_okF c H
      show wq_286 d Q 163 [oR 12 0, oI l1, oI l2, _, _, _, _, _] [] (sh_E h)
      exact ai_WP_steps mc_286 (sh_CM d) 1 (hR h H)
def f_M_wears (N : Nat)  (l1 : Int32) (h : sh_H) : Option sh_H := f_M_wears_l2 N N l1 (0 : Int32) h
theorem x_M_wears (N : Nat) {d : Nat} (hd : 3 ≤ d) (l1 : Int32) (h : sh_H) {Q : ai_Q} {R : sh_H → Prop} (H : sh_ok (f_M_wears N l1 h) R) (hR : ∀ h, R h → Q none (sh_E h)) : ai_Ex sh_T d 286 [aR 12 0, aI l1] (sh_E h) Q := by
  obtain ⟨d, rfl⟩ : ∃ e, d = e + 1 := ⟨d - 1, by omega⟩
  replace hd : 2 ≤ d := by omega
  refine And.intro (Nat.le_of_ble_eq_true rfl) ?_
  show wq_286 d Q 0 [oR 12 0, oI l1, none, none, none, none, none, none] [] (sh_E h)
  refine ai_WP_steps mc_286 (sh_CM d) 2 ?_
  exact x_M_wears_l2 N hd hR N l1 (0 : Int32) h H
def f_M_loses_b101 (N : Nat)  (k2 : Int32 → Int32 → sh_H → Option sh_H) (l1 : Int32) (l2 : Int32) (h : sh_H) : Option sh_H := k2 l1 (l2 + (1 : Int32)) h
theorem x_M_loses_b101 (N : Nat) {d : Nat} (hd : 2 ≤ d) {Q : ai_Q} {R : sh_H → Prop} (hR : ∀ h, R h → Q none (sh_E h))  (k2 : Int32 → Int32 → sh_H → Option sh_H) (hk2 : ∀ (l1 : Int32) (l2 : Int32) {d3 d4 d5 : Option ai_V} (h : sh_H), sh_ok (k2 l1 l2 h) R → wq_287 d Q 2 [oR 12 0, oI l1, oI l2, d3, d4, d5] [] (sh_E h)) (l1 : Int32) (l2 : Int32) {d3 d4 d5 : Option ai_V} (h : sh_H) (H : sh_ok (f_M_loses_b101 N k2 l1 l2 h) R) : wq_287 d Q 101 [oR 12 0, oI l1, oI l2, d3, d4, d5] [] (sh_E h) := by
  refine ai_WP_steps mc_287 (sh_CM d) 2 ?_
  exact hk2 l1 (l2 + (1 : Int32)) h H
def f_M_loses_c2 (N : Nat)   (k2 : Int32 → Int32 → sh_H → Option sh_H) (l1 : Int32) (l2 : Int32) (h : sh_H) : Option sh_H := (if ai_in (3 : Int32) 8000 then (if l2 < (h.1 13 46 (3 : Int32).toNatClampNeg) then (Option.bind (f_M_isLast N (3 : Int32) (100 : Int32) l2 h) (fun v1 => (if v1 = 0 then f_M_loses_b101 N k2 l1 l2 h else (if ai_in ((100 : Int32) + ((4 : Int32) * l2)) 8000 then (if ai_in (((100 : Int32) + ((4 : Int32) * l2)) + (1 : Int32)) 8000 then (Option.bind (f_M_all N (h.1 13 46 ((100 : Int32) + ((4 : Int32) * l2)).toNatClampNeg) (h.1 13 46 (((100 : Int32) + ((4 : Int32) * l2)) + (1 : Int32)).toNatClampNeg) h) (fun v2 => (if ¬ (12 : Int32) = 0 then (Option.bind (f_M_ask (l1 - l1 / (12 : Int32) * (12 : Int32)) v2 (0 : Int32) (0 : Int32) h) (fun h3 => (sh_b2 (f_M_sum N (((100 : Int32) + ((4 : Int32) * l2)) + (2 : Int32)) h3) (fun v4 h5 => (Option.bind (f_M_within v4 (0 : Int32) v2 h5) (fun v6 => (Option.bind (f_M_go N (h.1 13 46 ((100 : Int32) + ((4 : Int32) * l2)).toNatClampNeg) (-1 : Int32) (h.1 13 46 (((100 : Int32) + ((4 : Int32) * l2)) + (1 : Int32)).toNatClampNeg) v6 (1 : Int32) h5) (fun h7 => f_M_loses_b101 N k2 l1 l2 h7)))))))) else none))) else none) else none)))) else (some h)) else none)
def f_M_loses_l2 (N : Nat)   (n : Nat) : Int32 → Int32 → sh_H → Option sh_H := Nat.rec (motive := fun _ => Int32 → Int32 → sh_H → Option sh_H) (fun _ _ _ => none) (fun _ k2 => f_M_loses_c2 N k2) n
theorem x_M_loses_l2 (N : Nat) {d : Nat} (hd : 2 ≤ d) {Q : ai_Q} {R : sh_H → Prop} (hR : ∀ h, R h → Q none (sh_E h))   (n : Nat) : ∀ (l1 : Int32) (l2 : Int32) {d3 d4 d5 : Option ai_V} (h : sh_H), sh_ok (f_M_loses_l2 N n l1 l2 h) R → wq_287 d Q 2 [oR 12 0, oI l1, oI l2, d3, d4, d5] [] (sh_E h) := by
  induction n with
  | zero => intro l1 l2 d3 d4 d5 h H; exact H.elim
  | succ n ih =>
    intro l1 l2 d3 d4 d5 h H
    have hk2 := @ih
    replace H : sh_ok (f_M_loses_c2 N (f_M_loses_l2 N n) l1 l2 h) R := H
    revert hk2 H
    generalize f_M_loses_l2 N n = k2
    intro hk2 H
    have c := sh_okG H
    replace H := sh_okH H
    refine ai_WP_steps mc_287 (sh_CM d) 5 (And.intro c ?_)
    show wq_287 d Q 9 [oR 12 0, oI l1, oI l2, _, _, _] [aI (h.1 13 46 (3 : Int32).toNatClampNeg), aI l2] (sh_E h)
    refine ai_WP_steps mc_287 (sh_CM d) 1 (And.intro (fun c => ?_) (fun c => ?_))
    · replace H := sh_okT c H
      show wq_287 d Q 12 [oR 12 0, oI l1, oI l2, _, _, _] [] (sh_E h)
      refine ai_WP_steps mc_287 (sh_CM d) 5 (And.intro (Nat.le_of_ble_eq_true rfl) (x_M_isLast N (Nat.le_trans (Nat.le_of_ble_eq_true rfl) hd) (3 : Int32) (100 : Int32) l2 h (sh_okB H) (fun v1 H => ?_)))
      show wq_287 d Q 20 [oR 12 0, oI l1, oI l2, _, _, _] [aI v1] (sh_E h)
      refine ai_WP_steps mc_287 (sh_CM d) 1 (And.intro (fun c => ?_) (fun c => ?_))
      · replace H := sh_okT c H
        show wq_287 d Q 23 [oR 12 0, oI l1, oI l2, _, _, _] [] (sh_E h)
        refine ai_WP_steps mc_287 (sh_CM d) 1 ?_
        exact x_M_loses_b101 N hd hR k2 hk2 l1 l2 h H
      · replace H := sh_okF c H
        show wq_287 d Q 26 [oR 12 0, oI l1, oI l2, _, _, _] [] (sh_E h)
        have c := sh_okG H
        replace H := sh_okH H
        refine ai_WP_steps mc_287 (sh_CM d) 8 (And.intro c ?_)
        show wq_287 d Q 37 [oR 12 0, oI l1, oI l2, _, _, _] [aI (h.1 13 46 ((100 : Int32) + ((4 : Int32) * l2)).toNatClampNeg)] (sh_E h)
        have c := sh_okG H
        replace H := sh_okH H
        refine ai_WP_steps mc_287 (sh_CM d) 11 (And.intro c ?_)
        show wq_287 d Q 51 [oR 12 0, oI l1, oI l2, oI (h.1 13 46 ((100 : Int32) + ((4 : Int32) * l2)).toNatClampNeg), _, _] [aI (h.1 13 46 (((100 : Int32) + ((4 : Int32) * l2)) + (1 : Int32)).toNatClampNeg)] (sh_E h)
        refine ai_WP_steps mc_287 (sh_CM d) 5 (And.intro (Nat.le_of_ble_eq_true rfl) (x_M_all N (Nat.le_trans (Nat.le_of_ble_eq_true rfl) hd) (h.1 13 46 ((100 : Int32) + ((4 : Int32) * l2)).toNatClampNeg) (h.1 13 46 (((100 : Int32) + ((4 : Int32) * l2)) + (1 : Int32)).toNatClampNeg) h (sh_okB H) (fun v2 H => ?_)))
        show wq_287 d Q 60 [oR 12 0, oI l1, oI l2, oI (h.1 13 46 ((100 : Int32) + ((4 : Int32) * l2)).toNatClampNeg), oI (h.1 13 46 (((100 : Int32) + ((4 : Int32) * l2)) + (1 : Int32)).toNatClampNeg), _] [aI v2] (sh_E h)
        have c := sh_okG H
        replace H := sh_okH H
        refine ai_WP_steps mc_287 (sh_CM d) 5 (And.intro c ?_)
        show wq_287 d Q 67 [oR 12 0, oI l1, oI l2, oI (h.1 13 46 ((100 : Int32) + ((4 : Int32) * l2)).toNatClampNeg), oI (h.1 13 46 (((100 : Int32) + ((4 : Int32) * l2)) + (1 : Int32)).toNatClampNeg), oI v2] [aI (l1 - l1 / (12 : Int32) * (12 : Int32)), aR 12 0] (sh_E h)
        refine ai_WP_steps mc_287 (sh_CM d) 4 (And.intro (Nat.le_of_ble_eq_true rfl) (x_M_ask (Nat.le_trans (Nat.le_of_ble_eq_true rfl) hd) (l1 - l1 / (12 : Int32) * (12 : Int32)) v2 (0 : Int32) (0 : Int32) h (sh_okB H) (fun h3 H => ?_)))
        show wq_287 d Q 74 [oR 12 0, oI l1, oI l2, oI (h.1 13 46 ((100 : Int32) + ((4 : Int32) * l2)).toNatClampNeg), oI (h.1 13 46 (((100 : Int32) + ((4 : Int32) * l2)) + (1 : Int32)).toNatClampNeg), oI v2] [] (sh_E h3)
        refine ai_WP_steps mc_287 (sh_CM d) 13 (And.intro (Nat.le_of_ble_eq_true rfl) (x_M_sum N (Nat.le_trans (Nat.le_of_ble_eq_true rfl) hd) (((100 : Int32) + ((4 : Int32) * l2)) + (2 : Int32)) h3 (sh_okB H) (fun v4 h5 H => ?_)))
        show wq_287 d Q 91 [oR 12 0, oI l1, oI l2, oI (h.1 13 46 ((100 : Int32) + ((4 : Int32) * l2)).toNatClampNeg), oI (h.1 13 46 (((100 : Int32) + ((4 : Int32) * l2)) + (1 : Int32)).toNatClampNeg), oI v2] [aI v4, aI (h.1 13 46 (((100 : Int32) + ((4 : Int32) * l2)) + (1 : Int32)).toNatClampNeg), aI (-1 : Int32), aI (h.1 13 46 ((100 : Int32) + ((4 : Int32) * l2)).toNatClampNeg), aR 12 0] (sh_E h5)
        refine ai_WP_steps mc_287 (sh_CM d) 3 (And.intro (Nat.le_of_ble_eq_true rfl) (x_M_within (Nat.le_trans (Nat.le_of_ble_eq_true rfl) hd) v4 (0 : Int32) v2 h5 (sh_okB H) (fun v6 H => ?_)))
        show wq_287 d Q 97 [oR 12 0, oI l1, oI l2, oI (h.1 13 46 ((100 : Int32) + ((4 : Int32) * l2)).toNatClampNeg), oI (h.1 13 46 (((100 : Int32) + ((4 : Int32) * l2)) + (1 : Int32)).toNatClampNeg), oI v2] [aI v6, aI (h.1 13 46 (((100 : Int32) + ((4 : Int32) * l2)) + (1 : Int32)).toNatClampNeg), aI (-1 : Int32), aI (h.1 13 46 ((100 : Int32) + ((4 : Int32) * l2)).toNatClampNeg), aR 12 0] (sh_E h5)
        refine ai_WP_steps mc_287 (sh_CM d) 2 (And.intro (Nat.le_of_ble_eq_true rfl) (x_M_go N (Nat.le_trans (Nat.le_of_ble_eq_true rfl) hd) (h.1 13 46 ((100 : Int32) + ((4 : Int32) * l2)).toNatClampNeg) (-1 : Int32) (h.1 13 46 (((100 : Int32) + ((4 : Int32) * l2)) + (1 : Int32)).toNatClampNeg) v6 (1 : Int32) h5 (sh_okB H) (fun h7 H => ?_)))
        show wq_287 d Q 101 [oR 12 0, oI l1, oI l2, oI (h.1 13 46 ((100 : Int32) + ((4 : Int32) * l2)).toNatClampNeg), oI (h.1 13 46 (((100 : Int32) + ((4 : Int32) * l2)) + (1 : Int32)).toNatClampNeg), oI v2] [] (sh_E h7)
        exact x_M_loses_b101 N hd hR k2 hk2 l1 l2 h7 H
    · replace H := sh_okF c H
      show wq_287 d Q 107 [oR 12 0, oI l1, oI l2, _, _, _] [] (sh_E h)
      exact ai_WP_steps mc_287 (sh_CM d) 1 (hR h H)
def f_M_loses (N : Nat)  (l1 : Int32) (h : sh_H) : Option sh_H := f_M_loses_l2 N N l1 (0 : Int32) h
theorem x_M_loses (N : Nat) {d : Nat} (hd : 3 ≤ d) (l1 : Int32) (h : sh_H) {Q : ai_Q} {R : sh_H → Prop} (H : sh_ok (f_M_loses N l1 h) R) (hR : ∀ h, R h → Q none (sh_E h)) : ai_Ex sh_T d 287 [aR 12 0, aI l1] (sh_E h) Q := by
  obtain ⟨d, rfl⟩ : ∃ e, d = e + 1 := ⟨d - 1, by omega⟩
  replace hd : 2 ≤ d := by omega
  refine And.intro (Nat.le_of_ble_eq_true rfl) ?_
  show wq_287 d Q 0 [oR 12 0, oI l1, none, none, none, none] [] (sh_E h)
  refine ai_WP_steps mc_287 (sh_CM d) 2 ?_
  exact x_M_loses_l2 N hd hR N l1 (0 : Int32) h H
def f_M_lacking_b134 (N : Nat)  (k4 : Int32 → Int32 → Int32 → sh_H → Option (Int32 × sh_H)) (l1 : Int32) (l2 : Int32) (l3 : Int32) (h : sh_H) : Option (Int32 × sh_H) := k4 l1 l2 (l3 + (1 : Int32)) h
theorem x_M_lacking_b134 (N : Nat) {d : Nat} (hd : 3 ≤ d) {Q : ai_Q} {R : Int32 × sh_H → Prop} (hR : ∀ r h, R (r, h) → Q (some (aI r)) (sh_E h))  (k4 : Int32 → Int32 → Int32 → sh_H → Option (Int32 × sh_H)) (hk4 : ∀ (l1 : Int32) (l2 : Int32) (l3 : Int32) {d4 d5 d6 : Option ai_V} (h : sh_H), sh_ok (k4 l1 l2 l3 h) R → wq_288 d Q 4 [oR 12 0, oI l1, oI l2, oI l3, d4, d5, d6] [] (sh_E h)) (l1 : Int32) (l2 : Int32) (l3 : Int32) {d4 d5 d6 : Option ai_V} (h : sh_H) (H : sh_ok (f_M_lacking_b134 N k4 l1 l2 l3 h) R) : wq_288 d Q 134 [oR 12 0, oI l1, oI l2, oI l3, d4, d5, d6] [] (sh_E h) := by
  refine ai_WP_steps mc_288 (sh_CM d) 2 ?_
  exact hk4 l1 l2 (l3 + (1 : Int32)) h H
def f_M_lacking_c4 (N : Nat)   (k4 : Int32 → Int32 → Int32 → sh_H → Option (Int32 × sh_H)) (l1 : Int32) (l2 : Int32) (l3 : Int32) (h : sh_H) : Option (Int32 × sh_H) := (if ai_in (2 : Int32) 8000 then (if l3 < (h.1 13 46 (2 : Int32).toNatClampNeg) then (Option.bind (f_M_isLast N (2 : Int32) (50 : Int32) l3 h) (fun v1 => (if v1 = 0 then f_M_lacking_b134 N k4 l1 l2 l3 h else (if ai_in ((50 : Int32) + ((4 : Int32) * l3)) 8000 then (if ai_in (((50 : Int32) + ((4 : Int32) * l3)) + (1 : Int32)) 8000 then (if ¬ (12 : Int32) = 0 then (sh_b2 (f_M_wanted N (h.1 13 46 ((50 : Int32) + ((4 : Int32) * l3)).toNatClampNeg) (h.1 13 46 (((50 : Int32) + ((4 : Int32) * l3)) + (1 : Int32)).toNatClampNeg) (l1 - l1 / (12 : Int32) * (12 : Int32)) h) (fun v2 h3 => (Option.bind (f_M_all N (h.1 13 46 ((50 : Int32) + ((4 : Int32) * l3)).toNatClampNeg) (h.1 13 46 (((50 : Int32) + ((4 : Int32) * l3)) + (1 : Int32)).toNatClampNeg) h3) (fun v4 => (if 0 < (v2 - v4) then (if ai_in (((920 : Int32) + ((6 : Int32) * (h.1 13 46 ((50 : Int32) + ((4 : Int32) * l3)).toNatClampNeg))) + (h.1 13 46 (((50 : Int32) + ((4 : Int32) * l3)) + (1 : Int32)).toNatClampNeg)) 8000 then (if ai_in (((920 : Int32) + ((6 : Int32) * (h.1 13 46 ((50 : Int32) + ((4 : Int32) * l3)).toNatClampNeg))) + (h.1 13 46 (((50 : Int32) + ((4 : Int32) * l3)) + (1 : Int32)).toNatClampNeg)) 8000 then (sh_let (sh_pI h3 13 46 (((920 : Int32) + ((6 : Int32) * (h.1 13 46 ((50 : Int32) + ((4 : Int32) * l3)).toNatClampNeg))) + (h.1 13 46 (((50 : Int32) + ((4 : Int32) * l3)) + (1 : Int32)).toNatClampNeg)).toNatClampNeg ((h3.1 13 46 (((920 : Int32) + ((6 : Int32) * (h.1 13 46 ((50 : Int32) + ((4 : Int32) * l3)).toNatClampNeg))) + (h.1 13 46 (((50 : Int32) + ((4 : Int32) * l3)) + (1 : Int32)).toNatClampNeg)).toNatClampNeg) + (v2 - v4))) (fun h5 => (if ai_in (0 : Int32) 12 then (Option.bind (f_M_harm (h.1 13 46 ((50 : Int32) + ((4 : Int32) * l3)).toNatClampNeg) h5) (fun v6 => (if ai_in (0 : Int32) 12 then (sh_let (sh_pJ h5 14 6 (0 : Int32).toNatClampNeg ((h5.2.1 14 6 (0 : Int32).toNatClampNeg) + ((v2 - v4).toInt64 * v6.toInt64))) (fun h7 => f_M_lacking_b134 N k4 l1 (l2 + (v2 - v4)) l3 h7)) else none))) else none))) else none) else none) else f_M_lacking_b134 N k4 l1 l2 l3 h3))))) else none) else none) else none)))) else (some (l2, h))) else none)
def f_M_lacking_l4 (N : Nat)   (n : Nat) : Int32 → Int32 → Int32 → sh_H → Option (Int32 × sh_H) := Nat.rec (motive := fun _ => Int32 → Int32 → Int32 → sh_H → Option (Int32 × sh_H)) (fun _ _ _ _ => none) (fun _ k4 => f_M_lacking_c4 N k4) n
theorem x_M_lacking_l4 (N : Nat) {d : Nat} (hd : 3 ≤ d) {Q : ai_Q} {R : Int32 × sh_H → Prop} (hR : ∀ r h, R (r, h) → Q (some (aI r)) (sh_E h))   (n : Nat) : ∀ (l1 : Int32) (l2 : Int32) (l3 : Int32) {d4 d5 d6 : Option ai_V} (h : sh_H), sh_ok (f_M_lacking_l4 N n l1 l2 l3 h) R → wq_288 d Q 4 [oR 12 0, oI l1, oI l2, oI l3, d4, d5, d6] [] (sh_E h) := by
  induction n with
  | zero => intro l1 l2 l3 d4 d5 d6 h H; exact H.elim
  | succ n ih =>
    intro l1 l2 l3 d4 d5 d6 h H
    have hk4 := @ih
    replace H : sh_ok (f_M_lacking_c4 N (f_M_lacking_l4 N n) l1 l2 l3 h) R := H
    revert hk4 H
    generalize f_M_lacking_l4 N n = k4
    intro hk4 H
    have c := sh_okG H
    replace H := sh_okH H
    refine ai_WP_steps mc_288 (sh_CM d) 5 (And.intro c ?_)
    show wq_288 d Q 11 [oR 12 0, oI l1, oI l2, oI l3, _, _, _] [aI (h.1 13 46 (2 : Int32).toNatClampNeg), aI l3] (sh_E h)
    refine ai_WP_steps mc_288 (sh_CM d) 1 (And.intro (fun c => ?_) (fun c => ?_))
    · replace H := sh_okT c H
      show wq_288 d Q 14 [oR 12 0, oI l1, oI l2, oI l3, _, _, _] [] (sh_E h)
      refine ai_WP_steps mc_288 (sh_CM d) 5 (And.intro (Nat.le_of_ble_eq_true rfl) (x_M_isLast N (Nat.le_trans (Nat.le_of_ble_eq_true rfl) hd) (2 : Int32) (50 : Int32) l3 h (sh_okB H) (fun v1 H => ?_)))
      show wq_288 d Q 22 [oR 12 0, oI l1, oI l2, oI l3, _, _, _] [aI v1] (sh_E h)
      refine ai_WP_steps mc_288 (sh_CM d) 1 (And.intro (fun c => ?_) (fun c => ?_))
      · replace H := sh_okT c H
        show wq_288 d Q 25 [oR 12 0, oI l1, oI l2, oI l3, _, _, _] [] (sh_E h)
        refine ai_WP_steps mc_288 (sh_CM d) 1 ?_
        exact x_M_lacking_b134 N hd hR k4 hk4 l1 l2 l3 h H
      · replace H := sh_okF c H
        show wq_288 d Q 28 [oR 12 0, oI l1, oI l2, oI l3, _, _, _] [] (sh_E h)
        have c := sh_okG H
        replace H := sh_okH H
        refine ai_WP_steps mc_288 (sh_CM d) 8 (And.intro c ?_)
        show wq_288 d Q 39 [oR 12 0, oI l1, oI l2, oI l3, _, _, _] [aI (h.1 13 46 ((50 : Int32) + ((4 : Int32) * l3)).toNatClampNeg)] (sh_E h)
        have c := sh_okG H
        replace H := sh_okH H
        refine ai_WP_steps mc_288 (sh_CM d) 11 (And.intro c ?_)
        show wq_288 d Q 54 [oR 12 0, oI l1, oI l2, oI l3, oI (h.1 13 46 ((50 : Int32) + ((4 : Int32) * l3)).toNatClampNeg), _, _] [aI (h.1 13 46 (((50 : Int32) + ((4 : Int32) * l3)) + (1 : Int32)).toNatClampNeg)] (sh_E h)
        have c := sh_okG H
        replace H := sh_okH H
        refine ai_WP_steps mc_288 (sh_CM d) 7 (And.intro c ?_)
        show wq_288 d Q 65 [oR 12 0, oI l1, oI l2, oI l3, oI (h.1 13 46 ((50 : Int32) + ((4 : Int32) * l3)).toNatClampNeg), oI (h.1 13 46 (((50 : Int32) + ((4 : Int32) * l3)) + (1 : Int32)).toNatClampNeg), _] [aI (l1 - l1 / (12 : Int32) * (12 : Int32)), aI (h.1 13 46 (((50 : Int32) + ((4 : Int32) * l3)) + (1 : Int32)).toNatClampNeg), aI (h.1 13 46 ((50 : Int32) + ((4 : Int32) * l3)).toNatClampNeg), aR 12 0] (sh_E h)
        refine ai_WP_steps mc_288 (sh_CM d) 1 (And.intro (Nat.le_of_ble_eq_true rfl) (x_M_wanted N (Nat.le_trans (Nat.le_of_ble_eq_true rfl) hd) (h.1 13 46 ((50 : Int32) + ((4 : Int32) * l3)).toNatClampNeg) (h.1 13 46 (((50 : Int32) + ((4 : Int32) * l3)) + (1 : Int32)).toNatClampNeg) (l1 - l1 / (12 : Int32) * (12 : Int32)) h (sh_okB H) (fun v2 h3 H => ?_)))
        show wq_288 d Q 68 [oR 12 0, oI l1, oI l2, oI l3, oI (h.1 13 46 ((50 : Int32) + ((4 : Int32) * l3)).toNatClampNeg), oI (h.1 13 46 (((50 : Int32) + ((4 : Int32) * l3)) + (1 : Int32)).toNatClampNeg), _] [aI v2] (sh_E h3)
        refine ai_WP_steps mc_288 (sh_CM d) 4 (And.intro (Nat.le_of_ble_eq_true rfl) (x_M_all N (Nat.le_trans (Nat.le_of_ble_eq_true rfl) hd) (h.1 13 46 ((50 : Int32) + ((4 : Int32) * l3)).toNatClampNeg) (h.1 13 46 (((50 : Int32) + ((4 : Int32) * l3)) + (1 : Int32)).toNatClampNeg) h3 (sh_okB H) (fun v4 H => ?_)))
        show wq_288 d Q 76 [oR 12 0, oI l1, oI l2, oI l3, oI (h.1 13 46 ((50 : Int32) + ((4 : Int32) * l3)).toNatClampNeg), oI (h.1 13 46 (((50 : Int32) + ((4 : Int32) * l3)) + (1 : Int32)).toNatClampNeg), _] [aI v4, aI v2] (sh_E h3)
        refine ai_WP_steps mc_288 (sh_CM d) 4 (And.intro (fun c => ?_) (fun c => ?_))
        · replace H := sh_okT c H
          show wq_288 d Q 87 [oR 12 0, oI l1, oI l2, oI l3, oI (h.1 13 46 ((50 : Int32) + ((4 : Int32) * l3)).toNatClampNeg), oI (h.1 13 46 (((50 : Int32) + ((4 : Int32) * l3)) + (1 : Int32)).toNatClampNeg), oI (v2 - v4)] [] (sh_E h3)
          have c := sh_okG H
          replace H := sh_okH H
          refine ai_WP_steps mc_288 (sh_CM d) 15 (And.intro c ?_)
          show wq_288 d Q 110 [oR 12 0, oI l1, oI (l2 + (v2 - v4)), oI l3, oI (h.1 13 46 ((50 : Int32) + ((4 : Int32) * l3)).toNatClampNeg), oI (h.1 13 46 (((50 : Int32) + ((4 : Int32) * l3)) + (1 : Int32)).toNatClampNeg), oI (v2 - v4)] [aI (h3.1 13 46 (((920 : Int32) + ((6 : Int32) * (h.1 13 46 ((50 : Int32) + ((4 : Int32) * l3)).toNatClampNeg))) + (h.1 13 46 (((50 : Int32) + ((4 : Int32) * l3)) + (1 : Int32)).toNatClampNeg)).toNatClampNeg), aI (((920 : Int32) + ((6 : Int32) * (h.1 13 46 ((50 : Int32) + ((4 : Int32) * l3)).toNatClampNeg))) + (h.1 13 46 (((50 : Int32) + ((4 : Int32) * l3)) + (1 : Int32)).toNatClampNeg)), aR 13 46] (sh_E h3)
          have c := sh_okG H
          replace H := sh_okH H
          refine ai_WP_steps mc_288 (sh_CM d) 3 (And.intro c ?_)
          show wq_288 d Q 114 [oR 12 0, oI l1, oI (l2 + (v2 - v4)), oI l3, oI (h.1 13 46 ((50 : Int32) + ((4 : Int32) * l3)).toNatClampNeg), oI (h.1 13 46 (((50 : Int32) + ((4 : Int32) * l3)) + (1 : Int32)).toNatClampNeg), oI (v2 - v4)] [] (sh_E (sh_pI h3 13 46 (((920 : Int32) + ((6 : Int32) * (h.1 13 46 ((50 : Int32) + ((4 : Int32) * l3)).toNatClampNeg))) + (h.1 13 46 (((50 : Int32) + ((4 : Int32) * l3)) + (1 : Int32)).toNatClampNeg)).toNatClampNeg ((h3.1 13 46 (((920 : Int32) + ((6 : Int32) * (h.1 13 46 ((50 : Int32) + ((4 : Int32) * l3)).toNatClampNeg))) + (h.1 13 46 (((50 : Int32) + ((4 : Int32) * l3)) + (1 : Int32)).toNatClampNeg)).toNatClampNeg) + (v2 - v4))))
          replace H := sh_okL H
          generalize sh_pI h3 13 46 (((920 : Int32) + ((6 : Int32) * (h.1 13 46 ((50 : Int32) + ((4 : Int32) * l3)).toNatClampNeg))) + (h.1 13 46 (((50 : Int32) + ((4 : Int32) * l3)) + (1 : Int32)).toNatClampNeg)).toNatClampNeg ((h3.1 13 46 (((920 : Int32) + ((6 : Int32) * (h.1 13 46 ((50 : Int32) + ((4 : Int32) * l3)).toNatClampNeg))) + (h.1 13 46 (((50 : Int32) + ((4 : Int32) * l3)) + (1 : Int32)).toNatClampNeg)).toNatClampNeg) + (v2 - v4)) = h5 at H ⊢
          have c := sh_okG H
          replace H := sh_okH H
          refine ai_WP_steps mc_288 (sh_CM d) 5 (And.intro c ?_)
          show wq_288 d Q 121 [oR 12 0, oI l1, oI (l2 + (v2 - v4)), oI l3, oI (h.1 13 46 ((50 : Int32) + ((4 : Int32) * l3)).toNatClampNeg), oI (h.1 13 46 (((50 : Int32) + ((4 : Int32) * l3)) + (1 : Int32)).toNatClampNeg), oI (v2 - v4)] [aL (h5.2.1 14 6 (0 : Int32).toNatClampNeg), aI (0 : Int32), aR 14 6] (sh_E h5)
          refine ai_WP_steps mc_288 (sh_CM d) 5 (And.intro (Nat.le_of_ble_eq_true rfl) (x_M_harm (Nat.le_trans (Nat.le_of_ble_eq_true rfl) hd) (h.1 13 46 ((50 : Int32) + ((4 : Int32) * l3)).toNatClampNeg) h5 (sh_okB H) (fun v6 H => ?_)))
          show wq_288 d Q 130 [oR 12 0, oI l1, oI (l2 + (v2 - v4)), oI l3, oI (h.1 13 46 ((50 : Int32) + ((4 : Int32) * l3)).toNatClampNeg), oI (h.1 13 46 (((50 : Int32) + ((4 : Int32) * l3)) + (1 : Int32)).toNatClampNeg), oI (v2 - v4)] [aI v6, aL (v2 - v4).toInt64, aL (h5.2.1 14 6 (0 : Int32).toNatClampNeg), aI (0 : Int32), aR 14 6] (sh_E h5)
          have c := sh_okG H
          replace H := sh_okH H
          refine ai_WP_steps mc_288 (sh_CM d) 4 (And.intro c ?_)
          show wq_288 d Q 134 [oR 12 0, oI l1, oI (l2 + (v2 - v4)), oI l3, oI (h.1 13 46 ((50 : Int32) + ((4 : Int32) * l3)).toNatClampNeg), oI (h.1 13 46 (((50 : Int32) + ((4 : Int32) * l3)) + (1 : Int32)).toNatClampNeg), oI (v2 - v4)] [] (sh_E (sh_pJ h5 14 6 (0 : Int32).toNatClampNeg ((h5.2.1 14 6 (0 : Int32).toNatClampNeg) + ((v2 - v4).toInt64 * v6.toInt64))))
          replace H := sh_okL H
          generalize sh_pJ h5 14 6 (0 : Int32).toNatClampNeg ((h5.2.1 14 6 (0 : Int32).toNatClampNeg) + ((v2 - v4).toInt64 * v6.toInt64)) = h7 at H ⊢
          exact x_M_lacking_b134 N hd hR k4 hk4 l1 (l2 + (v2 - v4)) l3 h7 H
        · replace H := sh_okF c H
          show wq_288 d Q 84 [oR 12 0, oI l1, oI l2, oI l3, oI (h.1 13 46 ((50 : Int32) + ((4 : Int32) * l3)).toNatClampNeg), oI (h.1 13 46 (((50 : Int32) + ((4 : Int32) * l3)) + (1 : Int32)).toNatClampNeg), oI (v2 - v4)] [] (sh_E h3)
          refine ai_WP_steps mc_288 (sh_CM d) 1 ?_
          exact x_M_lacking_b134 N hd hR k4 hk4 l1 l2 l3 h3 H
    · replace H := sh_okF c H
      show wq_288 d Q 140 [oR 12 0, oI l1, oI l2, oI l3, _, _, _] [] (sh_E h)
      exact ai_WP_steps mc_288 (sh_CM d) 2 (hR l2 h H)
def f_M_lacking (N : Nat)  (l1 : Int32) (h : sh_H) : Option (Int32 × sh_H) := f_M_lacking_l4 N N l1 (0 : Int32) (0 : Int32) h
theorem x_M_lacking (N : Nat) {d : Nat} (hd : 4 ≤ d) (l1 : Int32) (h : sh_H) {Q : ai_Q} {R : Int32 × sh_H → Prop} (H : sh_ok (f_M_lacking N l1 h) R) (hR : ∀ r h, R (r, h) → Q (some (aI r)) (sh_E h)) : ai_Ex sh_T d 288 [aR 12 0, aI l1] (sh_E h) Q := by
  obtain ⟨d, rfl⟩ : ∃ e, d = e + 1 := ⟨d - 1, by omega⟩
  replace hd : 3 ≤ d := by omega
  refine And.intro (Nat.le_of_ble_eq_true rfl) ?_
  show wq_288 d Q 0 [oR 12 0, oI l1, none, none, none, none, none] [] (sh_E h)
  refine ai_WP_steps mc_288 (sh_CM d) 4 ?_
  exact x_M_lacking_l4 N hd hR N l1 (0 : Int32) (0 : Int32) h H
def f_M_months_c32 (N : Nat)   (k32 : Int32 → Int32 → Int32 → Int32 → sh_H → Option (Int32 × sh_H)) (l1 : Int32) (l2 : Int32) (l3 : Int32) (l4 : Int32) (h : sh_H) : Option (Int32 × sh_H) := (if l4 < l2 then (if ai_in (9 : Int32) 8000 then (Option.bind (f_M_sends N l1 (h.1 13 46 (9 : Int32).toNatClampNeg) h) (fun h1 => (Option.bind (f_M_flows N l1 (h.1 13 46 (9 : Int32).toNatClampNeg) h1) (fun h2 => (Option.bind (f_M_wears N (h.1 13 46 (9 : Int32).toNatClampNeg) h2) (fun h3 => (Option.bind (f_M_loses N (h.1 13 46 (9 : Int32).toNatClampNeg) h3) (fun h4 => (sh_b2 (f_M_lacking N (h.1 13 46 (9 : Int32).toNatClampNeg) h4) (fun v5 h6 => (if ai_in (9 : Int32) 8000 then (if ai_in (9 : Int32) 8000 then (sh_let (sh_pI h6 13 46 (9 : Int32).toNatClampNeg ((h6.1 13 46 (9 : Int32).toNatClampNeg) + (1 : Int32))) (fun h7 => k32 l1 l2 (l3 + v5) (l4 + (1 : Int32)) h7)) else none) else none))))))))))) else none) else (some (l3, h)))
def f_M_months_l32 (N : Nat)   (n : Nat) : Int32 → Int32 → Int32 → Int32 → sh_H → Option (Int32 × sh_H) := Nat.rec (motive := fun _ => Int32 → Int32 → Int32 → Int32 → sh_H → Option (Int32 × sh_H)) (fun _ _ _ _ _ => none) (fun _ k32 => f_M_months_c32 N k32) n
theorem x_M_months_l32 (N : Nat) {d : Nat} (hd : 4 ≤ d) {Q : ai_Q} {R : Int32 × sh_H → Prop} (hR : ∀ r h, R (r, h) → Q (some (aI r)) (sh_E h))   (n : Nat) : ∀ (l1 : Int32) (l2 : Int32) (l3 : Int32) (l4 : Int32) {d5 : Option ai_V} (h : sh_H), sh_ok (f_M_months_l32 N n l1 l2 l3 l4 h) R → wq_289 d Q 32 [oR 12 0, oI l1, oI l2, oI l3, oI l4, d5] [] (sh_E h) := by
  induction n with
  | zero => intro l1 l2 l3 l4 d5 h H; exact H.elim
  | succ n ih =>
    intro l1 l2 l3 l4 d5 h H
    have hk32 := @ih
    replace H : sh_ok (f_M_months_c32 N (f_M_months_l32 N n) l1 l2 l3 l4 h) R := H
    revert hk32 H
    generalize f_M_months_l32 N n = k32
    intro hk32 H
    refine ai_WP_steps mc_289 (sh_CM d) 3 (And.intro (fun c => ?_) (fun c => ?_))
    · replace H := sh_okT c H
      show wq_289 d Q 38 [oR 12 0, oI l1, oI l2, oI l3, oI l4, _] [] (sh_E h)
      have c := sh_okG H
      replace H := sh_okH H
      refine ai_WP_steps mc_289 (sh_CM d) 4 (And.intro c ?_)
      show wq_289 d Q 45 [oR 12 0, oI l1, oI l2, oI l3, oI l4, _] [aI (h.1 13 46 (9 : Int32).toNatClampNeg)] (sh_E h)
      refine ai_WP_steps mc_289 (sh_CM d) 5 (And.intro (Nat.le_of_ble_eq_true rfl) (x_M_sends N (Nat.le_trans (Nat.le_of_ble_eq_true rfl) hd) l1 (h.1 13 46 (9 : Int32).toNatClampNeg) h (sh_okB H) (fun h1 H => ?_)))
      show wq_289 d Q 54 [oR 12 0, oI l1, oI l2, oI l3, oI l4, oI (h.1 13 46 (9 : Int32).toNatClampNeg)] [] (sh_E h1)
      refine ai_WP_steps mc_289 (sh_CM d) 4 (And.intro (Nat.le_of_ble_eq_true rfl) (x_M_flows N (Nat.le_trans (Nat.le_of_ble_eq_true rfl) hd) l1 (h.1 13 46 (9 : Int32).toNatClampNeg) h1 (sh_okB H) (fun h2 H => ?_)))
      show wq_289 d Q 61 [oR 12 0, oI l1, oI l2, oI l3, oI l4, oI (h.1 13 46 (9 : Int32).toNatClampNeg)] [] (sh_E h2)
      refine ai_WP_steps mc_289 (sh_CM d) 3 (And.intro (Nat.le_of_ble_eq_true rfl) (x_M_wears N (Nat.le_trans (Nat.le_of_ble_eq_true rfl) hd) (h.1 13 46 (9 : Int32).toNatClampNeg) h2 (sh_okB H) (fun h3 H => ?_)))
      show wq_289 d Q 67 [oR 12 0, oI l1, oI l2, oI l3, oI l4, oI (h.1 13 46 (9 : Int32).toNatClampNeg)] [] (sh_E h3)
      refine ai_WP_steps mc_289 (sh_CM d) 3 (And.intro (Nat.le_of_ble_eq_true rfl) (x_M_loses N (Nat.le_trans (Nat.le_of_ble_eq_true rfl) hd) (h.1 13 46 (9 : Int32).toNatClampNeg) h3 (sh_okB H) (fun h4 H => ?_)))
      show wq_289 d Q 73 [oR 12 0, oI l1, oI l2, oI l3, oI l4, oI (h.1 13 46 (9 : Int32).toNatClampNeg)] [] (sh_E h4)
      refine ai_WP_steps mc_289 (sh_CM d) 4 (And.intro (Nat.le_of_ble_eq_true rfl) (x_M_lacking N (Nat.le_trans (Nat.le_of_ble_eq_true rfl) hd) (h.1 13 46 (9 : Int32).toNatClampNeg) h4 (sh_okB H) (fun v5 h6 H => ?_)))
      show wq_289 d Q 80 [oR 12 0, oI l1, oI l2, oI l3, oI l4, oI (h.1 13 46 (9 : Int32).toNatClampNeg)] [aI v5, aI l3] (sh_E h6)
      have c := sh_okG H
      replace H := sh_okH H
      refine ai_WP_steps mc_289 (sh_CM d) 7 (And.intro c ?_)
      show wq_289 d Q 90 [oR 12 0, oI l1, oI l2, oI (l3 + v5), oI l4, oI (h.1 13 46 (9 : Int32).toNatClampNeg)] [aI (h6.1 13 46 (9 : Int32).toNatClampNeg), aI (9 : Int32), aR 13 46] (sh_E h6)
      have c := sh_okG H
      replace H := sh_okH H
      refine ai_WP_steps mc_289 (sh_CM d) 3 (And.intro c ?_)
      show wq_289 d Q 93 [oR 12 0, oI l1, oI l2, oI (l3 + v5), oI l4, oI (h.1 13 46 (9 : Int32).toNatClampNeg)] [] (sh_E (sh_pI h6 13 46 (9 : Int32).toNatClampNeg ((h6.1 13 46 (9 : Int32).toNatClampNeg) + (1 : Int32))))
      replace H := sh_okL H
      generalize sh_pI h6 13 46 (9 : Int32).toNatClampNeg ((h6.1 13 46 (9 : Int32).toNatClampNeg) + (1 : Int32)) = h7 at H ⊢
      refine ai_WP_steps mc_289 (sh_CM d) 2 ?_
      exact hk32 l1 l2 (l3 + v5) (l4 + (1 : Int32)) h7 H
    · replace H := sh_okF c H
      show wq_289 d Q 99 [oR 12 0, oI l1, oI l2, oI l3, oI l4, _] [] (sh_E h)
      exact ai_WP_steps mc_289 (sh_CM d) 2 (hR l3 h H)
def f_M_months (N : Nat)  (l1 : Int32) (l2 : Int32) (h : sh_H) : Option (Int32 × sh_H) := (Option.bind (f_M_isIn l2 (1 : Int32) (24 : Int32) h) (fun v8 => (if v8 = 0 then (some ((-1 : Int32), h)) else (if ai_in (9 : Int32) 8000 then (if (240 : Int32) < ((h.1 13 46 (9 : Int32).toNatClampNeg) + l2) then (some ((-1 : Int32), h)) else f_M_months_l32 N N l1 l2 (0 : Int32) (0 : Int32) h) else none))))
theorem x_M_months (N : Nat) {d : Nat} (hd : 5 ≤ d) (l1 : Int32) (l2 : Int32) (h : sh_H) {Q : ai_Q} {R : Int32 × sh_H → Prop} (H : sh_ok (f_M_months N l1 l2 h) R) (hR : ∀ r h, R (r, h) → Q (some (aI r)) (sh_E h)) : ai_Ex sh_T d 289 [aR 12 0, aI l1, aI l2] (sh_E h) Q := by
  obtain ⟨d, rfl⟩ : ∃ e, d = e + 1 := ⟨d - 1, by omega⟩
  replace hd : 4 ≤ d := by omega
  refine And.intro (Nat.le_of_ble_eq_true rfl) ?_
  show wq_289 d Q 0 [oR 12 0, oI l1, oI l2, none, none, none] [] (sh_E h)
  refine ai_WP_steps mc_289 (sh_CM d) 4 (And.intro (Nat.le_of_ble_eq_true rfl) (x_M_isIn (Nat.le_trans (Nat.le_of_ble_eq_true rfl) hd) l2 (1 : Int32) (24 : Int32) h (sh_okB H) (fun v8 H => ?_)))
  show wq_289 d Q 7 [oR 12 0, oI l1, oI l2, _, _, _] [aI v8] (sh_E h)
  refine ai_WP_steps mc_289 (sh_CM d) 1 (And.intro (fun c => ?_) (fun c => ?_))
  · replace H := sh_okT c H
    show wq_289 d Q 25 [oR 12 0, oI l1, oI l2, _, _, _] [] (sh_E h)
    exact ai_WP_steps mc_289 (sh_CM d) 2 (hR (-1 : Int32) h H)
  · replace H := sh_okF c H
    show wq_289 d Q 10 [oR 12 0, oI l1, oI l2, _, _, _] [] (sh_E h)
    have c := sh_okG H
    replace H := sh_okH H
    refine ai_WP_steps mc_289 (sh_CM d) 4 (And.intro c ?_)
    show wq_289 d Q 17 [oR 12 0, oI l1, oI l2, _, _, _] [aI (h.1 13 46 (9 : Int32).toNatClampNeg)] (sh_E h)
    refine ai_WP_steps mc_289 (sh_CM d) 4 (And.intro (fun c => ?_) (fun c => ?_))
    · replace H := sh_okT c H
      show wq_289 d Q 25 [oR 12 0, oI l1, oI l2, _, _, _] [] (sh_E h)
      exact ai_WP_steps mc_289 (sh_CM d) 2 (hR (-1 : Int32) h H)
    · replace H := sh_okF c H
      show wq_289 d Q 27 [oR 12 0, oI l1, oI l2, _, _, _] [] (sh_E h)
      refine ai_WP_steps mc_289 (sh_CM d) 4 ?_
      exact x_M_months_l32 N hd hR N l1 l2 (0 : Int32) (0 : Int32) h H
def f_M_lacks_b34    (h : sh_H) : Option Int32 := (some (-1 : Int32))
theorem x_M_lacks_b34 {d : Nat} (hd : 1 ≤ d) (h : sh_H) {Q : ai_Q} {R : Int32 → Prop} (hR : ∀ r, R r → Q (some (aI r)) (sh_E h))    {d0 d1 d2 : Option ai_V} (H : sh_ok (f_M_lacks_b34 h) R) : wq_290 d Q 34 [d0, d1, d2] [] (sh_E h) := by
  exact ai_WP_steps mc_290 (sh_CM d) 2 (hR (-1 : Int32) H)
def f_M_lacks  (l1 : Int32) (l2 : Int32) (h : sh_H) : Option Int32 := (Option.bind (f_M_isIsland l1 h) (fun v1 => (if v1 = 0 then f_M_lacks_b34 h else (Option.bind (f_M_isKind l2 h) (fun v2 => (if v2 = 0 then f_M_lacks_b34 h else (if ai_in (((920 : Int32) + ((6 : Int32) * l1)) + l2) 8000 then (some (h.1 13 46 (((920 : Int32) + ((6 : Int32) * l1)) + l2).toNatClampNeg)) else none)))))))
theorem x_M_lacks {d : Nat} (hd : 2 ≤ d) (l1 : Int32) (l2 : Int32) (h : sh_H) {Q : ai_Q} {R : Int32 → Prop} (H : sh_ok (f_M_lacks l1 l2 h) R) (hR : ∀ r, R r → Q (some (aI r)) (sh_E h)) : ai_Ex sh_T d 290 [aR 12 0, aI l1, aI l2] (sh_E h) Q := by
  obtain ⟨d, rfl⟩ : ∃ e, d = e + 1 := ⟨d - 1, by omega⟩
  replace hd : 1 ≤ d := by omega
  refine And.intro (Nat.le_of_ble_eq_true rfl) ?_
  show wq_290 d Q 0 [oR 12 0, oI l1, oI l2] [] (sh_E h)
  refine ai_WP_steps mc_290 (sh_CM d) 3 (And.intro (Nat.le_of_ble_eq_true rfl) (x_M_isIsland (Nat.le_trans (Nat.le_of_ble_eq_true rfl) hd) l1 h (sh_okB H) (fun v1 H => ?_)))
  show wq_290 d Q 5 [oR 12 0, oI l1, oI l2] [aI v1] (sh_E h)
  refine ai_WP_steps mc_290 (sh_CM d) 1 (And.intro (fun c => ?_) (fun c => ?_))
  · replace H := sh_okT c H
    exact x_M_lacks_b34 hd h hR H
  · replace H := sh_okF c H
    show wq_290 d Q 8 [oR 12 0, oI l1, oI l2] [] (sh_E h)
    refine ai_WP_steps mc_290 (sh_CM d) 3 (And.intro (Nat.le_of_ble_eq_true rfl) (x_M_isKind (Nat.le_trans (Nat.le_of_ble_eq_true rfl) hd) l2 h (sh_okB H) (fun v2 H => ?_)))
    show wq_290 d Q 13 [oR 12 0, oI l1, oI l2] [aI v2] (sh_E h)
    refine ai_WP_steps mc_290 (sh_CM d) 1 (And.intro (fun c => ?_) (fun c => ?_))
    · replace H := sh_okT c H
      exact x_M_lacks_b34 hd h hR H
    · replace H := sh_okF c H
      show wq_290 d Q 16 [oR 12 0, oI l1, oI l2] [] (sh_E h)
      have c := sh_okG H
      replace H := sh_okH H
      refine ai_WP_steps mc_290 (sh_CM d) 10 (And.intro c ?_)
      show wq_290 d Q 31 [oR 12 0, oI l1, oI l2] [aI (h.1 13 46 (((920 : Int32) + ((6 : Int32) * l1)) + l2).toNatClampNeg)] (sh_E h)
      exact ai_WP_steps mc_290 (sh_CM d) 2 (hR (h.1 13 46 (((920 : Int32) + ((6 : Int32) * l1)) + l2).toNatClampNeg) H)
def f_M_spent  (l1 : Int32) (h : sh_H) : Option Int64 := (Option.bind (f_M_isIn l1 (0 : Int32) (3 : Int32) h) (fun v1 => (if v1 = 0 then (some (-1 : Int64)) else (if l1 = 0 then (if ai_in (0 : Int32) 12 then (if ai_in (1 : Int32) 12 then (if ai_in (2 : Int32) 12 then (some (((h.2.1 14 6 (0 : Int32).toNatClampNeg) + (h.2.1 14 6 (1 : Int32).toNatClampNeg)) + (h.2.1 14 6 (2 : Int32).toNatClampNeg))) else none) else none) else none) else (if ai_in (l1 - (1 : Int32)) 12 then (some (h.2.1 14 6 (l1 - (1 : Int32)).toNatClampNeg)) else none)))))
theorem x_M_spent {d : Nat} (hd : 2 ≤ d) (l1 : Int32) (h : sh_H) {Q : ai_Q} {R : Int64 → Prop} (H : sh_ok (f_M_spent l1 h) R) (hR : ∀ r, R r → Q (some (aL r)) (sh_E h)) : ai_Ex sh_T d 291 [aR 12 0, aI l1] (sh_E h) Q := by
  obtain ⟨d, rfl⟩ : ∃ e, d = e + 1 := ⟨d - 1, by omega⟩
  replace hd : 1 ≤ d := by omega
  refine And.intro (Nat.le_of_ble_eq_true rfl) ?_
  show wq_291 d Q 0 [oR 12 0, oI l1] [] (sh_E h)
  refine ai_WP_steps mc_291 (sh_CM d) 4 (And.intro (Nat.le_of_ble_eq_true rfl) (x_M_isIn (Nat.le_trans (Nat.le_of_ble_eq_true rfl) hd) l1 (0 : Int32) (3 : Int32) h (sh_okB H) (fun v1 H => ?_)))
  show wq_291 d Q 6 [oR 12 0, oI l1] [aI v1] (sh_E h)
  refine ai_WP_steps mc_291 (sh_CM d) 1 (And.intro (fun c => ?_) (fun c => ?_))
  · replace H := sh_okT c H
    show wq_291 d Q 9 [oR 12 0, oI l1] [] (sh_E h)
    exact ai_WP_steps mc_291 (sh_CM d) 2 (hR (-1 : Int64) H)
  · replace H := sh_okF c H
    show wq_291 d Q 13 [oR 12 0, oI l1] [] (sh_E h)
    refine ai_WP_steps mc_291 (sh_CM d) 2 (And.intro (fun c => ?_) (fun c => ?_))
    · replace H := sh_okT c H
      show wq_291 d Q 17 [oR 12 0, oI l1] [] (sh_E h)
      have c := sh_okG H
      replace H := sh_okH H
      refine ai_WP_steps mc_291 (sh_CM d) 4 (And.intro c ?_)
      show wq_291 d Q 23 [oR 12 0, oI l1] [aL (h.2.1 14 6 (0 : Int32).toNatClampNeg)] (sh_E h)
      have c := sh_okG H
      replace H := sh_okH H
      refine ai_WP_steps mc_291 (sh_CM d) 4 (And.intro c ?_)
      show wq_291 d Q 29 [oR 12 0, oI l1] [aL (h.2.1 14 6 (1 : Int32).toNatClampNeg), aL (h.2.1 14 6 (0 : Int32).toNatClampNeg)] (sh_E h)
      have c := sh_okG H
      replace H := sh_okH H
      refine ai_WP_steps mc_291 (sh_CM d) 5 (And.intro c ?_)
      show wq_291 d Q 36 [oR 12 0, oI l1] [aL (h.2.1 14 6 (2 : Int32).toNatClampNeg), aL ((h.2.1 14 6 (0 : Int32).toNatClampNeg) + (h.2.1 14 6 (1 : Int32).toNatClampNeg))] (sh_E h)
      exact ai_WP_steps mc_291 (sh_CM d) 3 (hR (((h.2.1 14 6 (0 : Int32).toNatClampNeg) + (h.2.1 14 6 (1 : Int32).toNatClampNeg)) + (h.2.1 14 6 (2 : Int32).toNatClampNeg)) H)
    · replace H := sh_okF c H
      show wq_291 d Q 40 [oR 12 0, oI l1] [] (sh_E h)
      have c := sh_okG H
      replace H := sh_okH H
      refine ai_WP_steps mc_291 (sh_CM d) 6 (And.intro c ?_)
      show wq_291 d Q 48 [oR 12 0, oI l1] [aL (h.2.1 14 6 (l1 - (1 : Int32)).toNatClampNeg)] (sh_E h)
      exact ai_WP_steps mc_291 (sh_CM d) 1 (hR (h.2.1 14 6 (l1 - (1 : Int32)).toNatClampNeg) H)
def f_M_layKind_c56 (N : Nat)   (k56 : Int32 → Int32 → Int32 → Int32 → sh_H → Option sh_H) (l3 : Int32) (l4 : Int32) (l5 : Int32) (l7 : Int32) (h : sh_H) : Option sh_H := (if l3 < l7 then (some h) else (if ai_in (l5 + l7) 56014 then (if ai_in (l4 + l7) 56014 then (sh_let (sh_pI h 13 55 (l4 + l7).toNatClampNeg (h.1 13 55 (l5 + l7).toNatClampNeg)) (fun h1 => k56 l3 l4 l5 (l7 + (1 : Int32)) h1)) else none) else none))
def f_M_layKind_l56 (N : Nat)   (n : Nat) : Int32 → Int32 → Int32 → Int32 → sh_H → Option sh_H := Nat.rec (motive := fun _ => Int32 → Int32 → Int32 → Int32 → sh_H → Option sh_H) (fun _ _ _ _ _ => none) (fun _ k56 => f_M_layKind_c56 N k56) n
theorem x_M_layKind_l56 (N : Nat) {d : Nat} (hd : 1 ≤ d) {Q : ai_Q} {R : sh_H → Prop} (hR : ∀ h, R h → Q none (sh_E h))   (n : Nat) : ∀ (l3 : Int32) (l4 : Int32) (l5 : Int32) (l7 : Int32) {d1 d2 d6 d8 d9 d10 d11 d12 d13 : Option ai_V} (h : sh_H), sh_ok (f_M_layKind_l56 N n l3 l4 l5 l7 h) R → wq_293 d Q 56 [oR 12 0, d1, d2, oI l3, oI l4, oI l5, d6, oI l7, d8, d9, d10, d11, d12, d13] [] (sh_E h) := by
  induction n with
  | zero => intro l3 l4 l5 l7 d1 d2 d6 d8 d9 d10 d11 d12 d13 h H; exact H.elim
  | succ n ih =>
    intro l3 l4 l5 l7 d1 d2 d6 d8 d9 d10 d11 d12 d13 h H
    have hk56 := @ih
    replace H : sh_ok (f_M_layKind_c56 N (f_M_layKind_l56 N n) l3 l4 l5 l7 h) R := H
    revert hk56 H
    generalize f_M_layKind_l56 N n = k56
    intro hk56 H
    refine ai_WP_steps mc_293 (sh_CM d) 3 (And.intro (fun c => ?_) (fun c => ?_))
    · replace H := sh_okT c H
      show wq_293 d Q 88 [oR 12 0, _, _, oI l3, oI l4, oI l5, _, oI l7, _, _, _, _, _, _] [] (sh_E h)
      exact ai_WP_steps mc_293 (sh_CM d) 1 (hR h H)
    · replace H := sh_okF c H
      show wq_293 d Q 62 [oR 12 0, _, _, oI l3, oI l4, oI l5, _, oI l7, _, _, _, _, _, _] [] (sh_E h)
      have c := sh_okG H
      replace H := sh_okH H
      refine ai_WP_steps mc_293 (sh_CM d) 11 (And.intro c ?_)
      show wq_293 d Q 81 [oR 12 0, _, _, oI l3, oI l4, oI l5, _, oI l7, _, _, _, _, _, _] [aI (h.1 13 55 (l5 + l7).toNatClampNeg), aI (l4 + l7), aR 13 55] (sh_E h)
      have c := sh_okG H
      replace H := sh_okH H
      refine ai_WP_steps mc_293 (sh_CM d) 1 (And.intro c ?_)
      show wq_293 d Q 82 [oR 12 0, _, _, oI l3, oI l4, oI l5, _, oI l7, _, _, _, _, _, _] [] (sh_E (sh_pI h 13 55 (l4 + l7).toNatClampNeg (h.1 13 55 (l5 + l7).toNatClampNeg)))
      replace H := sh_okL H
      generalize sh_pI h 13 55 (l4 + l7).toNatClampNeg (h.1 13 55 (l5 + l7).toNatClampNeg) = h1 at H ⊢
      refine ai_WP_steps mc_293 (sh_CM d) 2 ?_
      exact hk56 l3 l4 l5 (l7 + (1 : Int32)) h1 H
def f_M_layKind_c154 (N : Nat)  (k205 : Int32 → Int32 → Int32 → Int32 → Int32 → Int32 → Int32 → Int32 → Int32 → sh_H → Option sh_H) (k154 : Int32 → Int32 → Int32 → Int32 → Int32 → Int32 → Int32 → Int32 → Int32 → Int32 → sh_H → Option sh_H) (l3 : Int32) (l4 : Int32) (l5 : Int32) (l6 : Int32) (l7 : Int32) (l8 : Int32) (l9 : Int32) (l10 : Int32) (l11 : Int32) (l12 : Int32) (h : sh_H) : Option sh_H := (if l9 < l10 then (if ai_in (l10 - (1 : Int32)) 4001 then (if ai_in ((l5 + l8) + ((h.1 13 56 (l10 - (1 : Int32)).toNatClampNeg) * l7)) 56014 then (if ai_in (l10 - (1 : Int32)) 4001 then (if ((h.1 13 55 ((l5 + l8) + ((h.1 13 56 (l10 - (1 : Int32)).toNatClampNeg) * l7)).toNatClampNeg) - (h.1 13 56 (l10 - (1 : Int32)).toNatClampNeg)) < l12 then k205 l3 l4 l5 l6 l7 l8 l9 l10 l11 h else k154 l3 l4 l5 l6 l7 l8 l9 (l10 + (-1 : Int32)) l11 l12 h) else none) else none) else none) else k205 l3 l4 l5 l6 l7 l8 l9 l10 l11 h)
def f_M_layKind_l154 (N : Nat)  (k205 : Int32 → Int32 → Int32 → Int32 → Int32 → Int32 → Int32 → Int32 → Int32 → sh_H → Option sh_H) (n : Nat) : Int32 → Int32 → Int32 → Int32 → Int32 → Int32 → Int32 → Int32 → Int32 → Int32 → sh_H → Option sh_H := Nat.rec (motive := fun _ => Int32 → Int32 → Int32 → Int32 → Int32 → Int32 → Int32 → Int32 → Int32 → Int32 → sh_H → Option sh_H) (fun _ _ _ _ _ _ _ _ _ _ _ => none) (fun _ k154 => f_M_layKind_c154 N k205 k154) n
theorem x_M_layKind_l154 (N : Nat) {d : Nat} (hd : 1 ≤ d) {Q : ai_Q} {R : sh_H → Prop} (hR : ∀ h, R h → Q none (sh_E h))  (k205 : Int32 → Int32 → Int32 → Int32 → Int32 → Int32 → Int32 → Int32 → Int32 → sh_H → Option sh_H) (hk205 : ∀ (l3 : Int32) (l4 : Int32) (l5 : Int32) (l6 : Int32) (l7 : Int32) (l8 : Int32) (l9 : Int32) (l10 : Int32) (l11 : Int32) {d1 d2 d12 d13 : Option ai_V} (h : sh_H), sh_ok (k205 l3 l4 l5 l6 l7 l8 l9 l10 l11 h) R → wq_293 d Q 205 [oR 12 0, d1, d2, oI l3, oI l4, oI l5, oI l6, oI l7, oI l8, oI l9, oI l10, oI l11, d12, d13] [] (sh_E h)) (n : Nat) : ∀ (l3 : Int32) (l4 : Int32) (l5 : Int32) (l6 : Int32) (l7 : Int32) (l8 : Int32) (l9 : Int32) (l10 : Int32) (l11 : Int32) (l12 : Int32) {d1 d2 d13 : Option ai_V} (h : sh_H), sh_ok (f_M_layKind_l154 N k205 n l3 l4 l5 l6 l7 l8 l9 l10 l11 l12 h) R → wq_293 d Q 154 [oR 12 0, d1, d2, oI l3, oI l4, oI l5, oI l6, oI l7, oI l8, oI l9, oI l10, oI l11, oI l12, d13] [] (sh_E h) := by
  induction n with
  | zero => intro l3 l4 l5 l6 l7 l8 l9 l10 l11 l12 d1 d2 d13 h H; exact H.elim
  | succ n ih =>
    intro l3 l4 l5 l6 l7 l8 l9 l10 l11 l12 d1 d2 d13 h H
    have hk154 := @ih
    replace H : sh_ok (f_M_layKind_c154 N k205 (f_M_layKind_l154 N k205 n) l3 l4 l5 l6 l7 l8 l9 l10 l11 l12 h) R := H
    revert hk154 H
    generalize f_M_layKind_l154 N k205 n = k154
    intro hk154 H
    refine ai_WP_steps mc_293 (sh_CM d) 3 (And.intro (fun c => ?_) (fun c => ?_))
    · replace H := sh_okT c H
      show wq_293 d Q 161 [oR 12 0, _, _, oI l3, oI l4, oI l5, oI l6, oI l7, oI l8, oI l9, oI l10, oI l11, oI l12, _] [] (sh_E h)
      have c := sh_okG H
      replace H := sh_okH H
      refine ai_WP_steps mc_293 (sh_CM d) 11 (And.intro c ?_)
      show wq_293 d Q 179 [oR 12 0, _, _, oI l3, oI l4, oI l5, oI l6, oI l7, oI l8, oI l9, oI l10, oI l11, oI l12, _] [aI (h.1 13 56 (l10 - (1 : Int32)).toNatClampNeg), aI (l5 + l8), aR 13 55] (sh_E h)
      have c := sh_okG H
      replace H := sh_okH H
      refine ai_WP_steps mc_293 (sh_CM d) 4 (And.intro c ?_)
      show wq_293 d Q 184 [oR 12 0, _, _, oI l3, oI l4, oI l5, oI l6, oI l7, oI l8, oI l9, oI l10, oI l11, oI l12, _] [aI (h.1 13 55 ((l5 + l8) + ((h.1 13 56 (l10 - (1 : Int32)).toNatClampNeg) * l7)).toNatClampNeg)] (sh_E h)
      have c := sh_okG H
      replace H := sh_okH H
      refine ai_WP_steps mc_293 (sh_CM d) 6 (And.intro c ?_)
      show wq_293 d Q 193 [oR 12 0, _, _, oI l3, oI l4, oI l5, oI l6, oI l7, oI l8, oI l9, oI l10, oI l11, oI l12, _] [aI (h.1 13 56 (l10 - (1 : Int32)).toNatClampNeg), aI (h.1 13 55 ((l5 + l8) + ((h.1 13 56 (l10 - (1 : Int32)).toNatClampNeg) * l7)).toNatClampNeg)] (sh_E h)
      refine ai_WP_steps mc_293 (sh_CM d) 3 (And.intro (fun c => ?_) (fun c => ?_))
      · replace H := sh_okT c H
        exact hk205 l3 l4 l5 l6 l7 l8 l9 l10 l11 h H
      · replace H := sh_okF c H
        show wq_293 d Q 199 [oR 12 0, _, _, oI l3, oI l4, oI l5, oI l6, oI l7, oI l8, oI l9, oI l10, oI l11, oI l12, _] [] (sh_E h)
        refine ai_WP_steps mc_293 (sh_CM d) 2 ?_
        exact hk154 l3 l4 l5 l6 l7 l8 l9 (l10 + (-1 : Int32)) l11 l12 h H
    · replace H := sh_okF c H
      exact hk205 l3 l4 l5 l6 l7 l8 l9 l10 l11 h H
def f_M_layKind_c217 (N : Nat)  (k238 : Int32 → Int32 → Int32 → Int32 → Int32 → Int32 → Int32 → Int32 → Int32 → sh_H → Option sh_H) (k217 : Int32 → Int32 → Int32 → Int32 → Int32 → Int32 → Int32 → Int32 → Int32 → sh_H → Option sh_H) (l3 : Int32) (l4 : Int32) (l5 : Int32) (l6 : Int32) (l7 : Int32) (l8 : Int32) (l9 : Int32) (l10 : Int32) (l11 : Int32) (h : sh_H) : Option sh_H := (if ai_in l9 4001 then (if (h.1 13 56 l9.toNatClampNeg) < (l11 - l6) then k217 l3 l4 l5 l6 l7 l8 (l9 + (1 : Int32)) l10 l11 h else k238 l3 l4 l5 l6 l7 l8 l9 l10 l11 h) else none)
def f_M_layKind_l217 (N : Nat)  (k238 : Int32 → Int32 → Int32 → Int32 → Int32 → Int32 → Int32 → Int32 → Int32 → sh_H → Option sh_H) (n : Nat) : Int32 → Int32 → Int32 → Int32 → Int32 → Int32 → Int32 → Int32 → Int32 → sh_H → Option sh_H := Nat.rec (motive := fun _ => Int32 → Int32 → Int32 → Int32 → Int32 → Int32 → Int32 → Int32 → Int32 → sh_H → Option sh_H) (fun _ _ _ _ _ _ _ _ _ _ => none) (fun _ k217 => f_M_layKind_c217 N k238 k217) n
theorem x_M_layKind_l217 (N : Nat) {d : Nat} (hd : 1 ≤ d) {Q : ai_Q} {R : sh_H → Prop} (hR : ∀ h, R h → Q none (sh_E h))  (k238 : Int32 → Int32 → Int32 → Int32 → Int32 → Int32 → Int32 → Int32 → Int32 → sh_H → Option sh_H) (hk238 : ∀ (l3 : Int32) (l4 : Int32) (l5 : Int32) (l6 : Int32) (l7 : Int32) (l8 : Int32) (l9 : Int32) (l10 : Int32) (l11 : Int32) {d1 d2 d12 d13 : Option ai_V} (h : sh_H), sh_ok (k238 l3 l4 l5 l6 l7 l8 l9 l10 l11 h) R → wq_293 d Q 238 [oR 12 0, d1, d2, oI l3, oI l4, oI l5, oI l6, oI l7, oI l8, oI l9, oI l10, oI l11, d12, d13] [] (sh_E h)) (n : Nat) : ∀ (l3 : Int32) (l4 : Int32) (l5 : Int32) (l6 : Int32) (l7 : Int32) (l8 : Int32) (l9 : Int32) (l10 : Int32) (l11 : Int32) {d1 d2 d12 d13 : Option ai_V} (h : sh_H), sh_ok (f_M_layKind_l217 N k238 n l3 l4 l5 l6 l7 l8 l9 l10 l11 h) R → wq_293 d Q 217 [oR 12 0, d1, d2, oI l3, oI l4, oI l5, oI l6, oI l7, oI l8, oI l9, oI l10, oI l11, d12, d13] [] (sh_E h) := by
  induction n with
  | zero => intro l3 l4 l5 l6 l7 l8 l9 l10 l11 d1 d2 d12 d13 h H; exact H.elim
  | succ n ih =>
    intro l3 l4 l5 l6 l7 l8 l9 l10 l11 d1 d2 d12 d13 h H
    have hk217 := @ih
    replace H : sh_ok (f_M_layKind_c217 N k238 (f_M_layKind_l217 N k238 n) l3 l4 l5 l6 l7 l8 l9 l10 l11 h) R := H
    revert hk217 H
    generalize f_M_layKind_l217 N k238 n = k217
    intro hk217 H
    have c := sh_okG H
    replace H := sh_okH H
    refine ai_WP_steps mc_293 (sh_CM d) 4 (And.intro c ?_)
    show wq_293 d Q 224 [oR 12 0, _, _, oI l3, oI l4, oI l5, oI l6, oI l7, oI l8, oI l9, oI l10, oI l11, _, _] [aI (h.1 13 56 l9.toNatClampNeg)] (sh_E h)
    refine ai_WP_steps mc_293 (sh_CM d) 4 (And.intro (fun c => ?_) (fun c => ?_))
    · replace H := sh_okT c H
      show wq_293 d Q 232 [oR 12 0, _, _, oI l3, oI l4, oI l5, oI l6, oI l7, oI l8, oI l9, oI l10, oI l11, _, _] [] (sh_E h)
      refine ai_WP_steps mc_293 (sh_CM d) 2 ?_
      exact hk217 l3 l4 l5 l6 l7 l8 (l9 + (1 : Int32)) l10 l11 h H
    · replace H := sh_okF c H
      exact hk238 l3 l4 l5 l6 l7 l8 l9 l10 l11 h H
def f_M_layKind_b303 (N : Nat)  (k121 : Int32 → Int32 → Int32 → Int32 → Int32 → Int32 → Int32 → Int32 → Int32 → sh_H → Option sh_H) (l3 : Int32) (l4 : Int32) (l5 : Int32) (l6 : Int32) (l7 : Int32) (l8 : Int32) (l9 : Int32) (l10 : Int32) (l11 : Int32) (s0 : Nat) (s1 : Int32) (s2 : Int32) (h : sh_H) : Option sh_H := (if ai_in s1 (sh_l13 s0) then (sh_let (sh_pI h 13 s0 s1.toNatClampNeg s2) (fun h2 => k121 l3 l4 l5 l6 l7 l8 l9 l10 (l11 + (1 : Int32)) h2)) else none)
theorem x_M_layKind_b303 (N : Nat) {d : Nat} (hd : 1 ≤ d) {Q : ai_Q} {R : sh_H → Prop} (hR : ∀ h, R h → Q none (sh_E h))  (k121 : Int32 → Int32 → Int32 → Int32 → Int32 → Int32 → Int32 → Int32 → Int32 → sh_H → Option sh_H) (hk121 : ∀ (l3 : Int32) (l4 : Int32) (l5 : Int32) (l6 : Int32) (l7 : Int32) (l8 : Int32) (l9 : Int32) (l10 : Int32) (l11 : Int32) {d1 d2 d12 d13 : Option ai_V} (h : sh_H), sh_ok (k121 l3 l4 l5 l6 l7 l8 l9 l10 l11 h) R → wq_293 d Q 121 [oR 12 0, d1, d2, oI l3, oI l4, oI l5, oI l6, oI l7, oI l8, oI l9, oI l10, oI l11, d12, d13] [] (sh_E h)) (l3 : Int32) (l4 : Int32) (l5 : Int32) (l6 : Int32) (l7 : Int32) (l8 : Int32) (l9 : Int32) (l10 : Int32) (l11 : Int32) (s0 : Nat) (s1 : Int32) (s2 : Int32) {d1 d2 d12 d13 : Option ai_V} (h : sh_H) (H : sh_ok (f_M_layKind_b303 N k121 l3 l4 l5 l6 l7 l8 l9 l10 l11 s0 s1 s2 h) R) : wq_293 d Q 303 [oR 12 0, d1, d2, oI l3, oI l4, oI l5, oI l6, oI l7, oI l8, oI l9, oI l10, oI l11, d12, d13] [aI s2, aI s1, aR 13 s0] (sh_E h) := by
  have c := sh_okG H
  replace H := sh_okH H
  refine ai_WP_steps mc_293 (sh_CM d) 1 (And.intro c ?_)
  show wq_293 d Q 304 [oR 12 0, _, _, oI l3, oI l4, oI l5, oI l6, oI l7, oI l8, oI l9, oI l10, oI l11, _, _] [] (sh_E (sh_pI h 13 s0 s1.toNatClampNeg s2))
  replace H := sh_okL H
  generalize sh_pI h 13 s0 s1.toNatClampNeg s2 = h2 at H ⊢
  refine ai_WP_steps mc_293 (sh_CM d) 2 ?_
  exact hk121 l3 l4 l5 l6 l7 l8 l9 l10 (l11 + (1 : Int32)) h2 H
def f_M_layKind_b238 (N : Nat)  (k121 : Int32 → Int32 → Int32 → Int32 → Int32 → Int32 → Int32 → Int32 → Int32 → sh_H → Option sh_H) (l3 : Int32) (l4 : Int32) (l5 : Int32) (l6 : Int32) (l7 : Int32) (l8 : Int32) (l9 : Int32) (l10 : Int32) (l11 : Int32) (h : sh_H) : Option sh_H := (if ai_in l9 4001 then (if ai_in ((l5 + l8) + ((h.1 13 56 l9.toNatClampNeg) * l7)) 56014 then (if ai_in l9 4001 then (if (1000000 : Int32) < (((h.1 13 55 ((l5 + l8) + ((h.1 13 56 l9.toNatClampNeg) * l7)).toNatClampNeg) - (h.1 13 56 l9.toNatClampNeg)) + l11) then f_M_layKind_b303 N k121 l3 l4 l5 l6 l7 l8 l9 l10 l11 55 ((l4 + l8) + (l11 * l7)) (1000000 : Int32) h else f_M_layKind_b303 N k121 l3 l4 l5 l6 l7 l8 l9 l10 l11 55 ((l4 + l8) + (l11 * l7)) (((h.1 13 55 ((l5 + l8) + ((h.1 13 56 l9.toNatClampNeg) * l7)).toNatClampNeg) - (h.1 13 56 l9.toNatClampNeg)) + l11) h) else none) else none) else none)
theorem x_M_layKind_b238 (N : Nat) {d : Nat} (hd : 1 ≤ d) {Q : ai_Q} {R : sh_H → Prop} (hR : ∀ h, R h → Q none (sh_E h))  (k121 : Int32 → Int32 → Int32 → Int32 → Int32 → Int32 → Int32 → Int32 → Int32 → sh_H → Option sh_H) (hk121 : ∀ (l3 : Int32) (l4 : Int32) (l5 : Int32) (l6 : Int32) (l7 : Int32) (l8 : Int32) (l9 : Int32) (l10 : Int32) (l11 : Int32) {d1 d2 d12 d13 : Option ai_V} (h : sh_H), sh_ok (k121 l3 l4 l5 l6 l7 l8 l9 l10 l11 h) R → wq_293 d Q 121 [oR 12 0, d1, d2, oI l3, oI l4, oI l5, oI l6, oI l7, oI l8, oI l9, oI l10, oI l11, d12, d13] [] (sh_E h)) (l3 : Int32) (l4 : Int32) (l5 : Int32) (l6 : Int32) (l7 : Int32) (l8 : Int32) (l9 : Int32) (l10 : Int32) (l11 : Int32) {d1 d2 d12 d13 : Option ai_V} (h : sh_H) (H : sh_ok (f_M_layKind_b238 N k121 l3 l4 l5 l6 l7 l8 l9 l10 l11 h) R) : wq_293 d Q 238 [oR 12 0, d1, d2, oI l3, oI l4, oI l5, oI l6, oI l7, oI l8, oI l9, oI l10, oI l11, d12, d13] [] (sh_E h) := by
  have c := sh_okG H
  replace H := sh_okH H
  refine ai_WP_steps mc_293 (sh_CM d) 9 (And.intro c ?_)
  show wq_293 d Q 254 [oR 12 0, _, _, oI l3, oI l4, oI l5, oI l6, oI l7, oI l8, oI l9, oI l10, oI l11, _, _] [aI (h.1 13 56 l9.toNatClampNeg), aI (l5 + l8), aR 13 55] (sh_E h)
  have c := sh_okG H
  replace H := sh_okH H
  refine ai_WP_steps mc_293 (sh_CM d) 4 (And.intro c ?_)
  show wq_293 d Q 259 [oR 12 0, _, _, oI l3, oI l4, oI l5, oI l6, oI l7, oI l8, oI l9, oI l10, oI l11, _, _] [aI (h.1 13 55 ((l5 + l8) + ((h.1 13 56 l9.toNatClampNeg) * l7)).toNatClampNeg)] (sh_E h)
  have c := sh_okG H
  replace H := sh_okH H
  refine ai_WP_steps mc_293 (sh_CM d) 4 (And.intro c ?_)
  show wq_293 d Q 266 [oR 12 0, _, _, oI l3, oI l4, oI l5, oI l6, oI l7, oI l8, oI l9, oI l10, oI l11, _, _] [aI (h.1 13 56 l9.toNatClampNeg), aI (h.1 13 55 ((l5 + l8) + ((h.1 13 56 l9.toNatClampNeg) * l7)).toNatClampNeg)] (sh_E h)
  refine ai_WP_steps mc_293 (sh_CM d) 16 (And.intro (fun c => ?_) (fun c => ?_))
  · replace H := sh_okT c H
    show wq_293 d Q 295 [oR 12 0, _, _, oI l3, oI l4, oI l5, oI l6, oI l7, oI l8, oI l9, oI l10, oI l11, _, oI (((h.1 13 55 ((l5 + l8) + ((h.1 13 56 l9.toNatClampNeg) * l7)).toNatClampNeg) - (h.1 13 56 l9.toNatClampNeg)) + l11)] [aI ((l4 + l8) + (l11 * l7)), aR 13 55] (sh_E h)
    refine ai_WP_steps mc_293 (sh_CM d) 2 ?_
    exact x_M_layKind_b303 N hd hR k121 hk121 l3 l4 l5 l6 l7 l8 l9 l10 l11 55 ((l4 + l8) + (l11 * l7)) (1000000 : Int32) h H
  · replace H := sh_okF c H
    show wq_293 d Q 301 [oR 12 0, _, _, oI l3, oI l4, oI l5, oI l6, oI l7, oI l8, oI l9, oI l10, oI l11, _, oI (((h.1 13 55 ((l5 + l8) + ((h.1 13 56 l9.toNatClampNeg) * l7)).toNatClampNeg) - (h.1 13 56 l9.toNatClampNeg)) + l11)] [aI ((l4 + l8) + (l11 * l7)), aR 13 55] (sh_E h)
    refine ai_WP_steps mc_293 (sh_CM d) 1 ?_
    exact x_M_layKind_b303 N hd hR k121 hk121 l3 l4 l5 l6 l7 l8 l9 l10 l11 55 ((l4 + l8) + (l11 * l7)) (((h.1 13 55 ((l5 + l8) + ((h.1 13 56 l9.toNatClampNeg) * l7)).toNatClampNeg) - (h.1 13 56 l9.toNatClampNeg)) + l11) h H
def f_M_layKind_b205 (N : Nat)  (k121 : Int32 → Int32 → Int32 → Int32 → Int32 → Int32 → Int32 → Int32 → Int32 → sh_H → Option sh_H) (l3 : Int32) (l4 : Int32) (l5 : Int32) (l6 : Int32) (l7 : Int32) (l8 : Int32) (l9 : Int32) (l10 : Int32) (l11 : Int32) (h : sh_H) : Option sh_H := (if ai_in l10 4001 then (sh_let (sh_pI h 13 56 l10.toNatClampNeg l11) (fun h3 => f_M_layKind_l217 N (f_M_layKind_b238 N k121) N l3 l4 l5 l6 l7 l8 l9 (l10 + (1 : Int32)) l11 h3)) else none)
theorem x_M_layKind_b205 (N : Nat) {d : Nat} (hd : 1 ≤ d) {Q : ai_Q} {R : sh_H → Prop} (hR : ∀ h, R h → Q none (sh_E h))  (k121 : Int32 → Int32 → Int32 → Int32 → Int32 → Int32 → Int32 → Int32 → Int32 → sh_H → Option sh_H) (hk121 : ∀ (l3 : Int32) (l4 : Int32) (l5 : Int32) (l6 : Int32) (l7 : Int32) (l8 : Int32) (l9 : Int32) (l10 : Int32) (l11 : Int32) {d1 d2 d12 d13 : Option ai_V} (h : sh_H), sh_ok (k121 l3 l4 l5 l6 l7 l8 l9 l10 l11 h) R → wq_293 d Q 121 [oR 12 0, d1, d2, oI l3, oI l4, oI l5, oI l6, oI l7, oI l8, oI l9, oI l10, oI l11, d12, d13] [] (sh_E h)) (l3 : Int32) (l4 : Int32) (l5 : Int32) (l6 : Int32) (l7 : Int32) (l8 : Int32) (l9 : Int32) (l10 : Int32) (l11 : Int32) {d1 d2 d12 d13 : Option ai_V} (h : sh_H) (H : sh_ok (f_M_layKind_b205 N k121 l3 l4 l5 l6 l7 l8 l9 l10 l11 h) R) : wq_293 d Q 205 [oR 12 0, d1, d2, oI l3, oI l4, oI l5, oI l6, oI l7, oI l8, oI l9, oI l10, oI l11, d12, d13] [] (sh_E h) := by
  have c := sh_okG H
  replace H := sh_okH H
  refine ai_WP_steps mc_293 (sh_CM d) 5 (And.intro c ?_)
  show wq_293 d Q 214 [oR 12 0, _, _, oI l3, oI l4, oI l5, oI l6, oI l7, oI l8, oI l9, oI l10, oI l11, _, _] [] (sh_E (sh_pI h 13 56 l10.toNatClampNeg l11))
  replace H := sh_okL H
  generalize sh_pI h 13 56 l10.toNatClampNeg l11 = h3 at H ⊢
  refine ai_WP_steps mc_293 (sh_CM d) 1 ?_
  exact x_M_layKind_l217 N hd hR (f_M_layKind_b238 N k121) (fun z0 z1 z2 z3 z4 z5 z6 z7 z8 {e1} {e2} {e12} {e13} h H => x_M_layKind_b238 N hd hR k121 hk121 z0 z1 z2 z3 z4 z5 z6 z7 z8 h H) N l3 l4 l5 l6 l7 l8 l9 (l10 + (1 : Int32)) l11 h3 H
def f_M_layKind_c121 (N : Nat)  (k310 : Int32 → Int32 → Int32 → Int32 → Int32 → Int32 → sh_H → Option sh_H) (k121 : Int32 → Int32 → Int32 → Int32 → Int32 → Int32 → Int32 → Int32 → Int32 → sh_H → Option sh_H) (l3 : Int32) (l4 : Int32) (l5 : Int32) (l6 : Int32) (l7 : Int32) (l8 : Int32) (l9 : Int32) (l10 : Int32) (l11 : Int32) (h : sh_H) : Option sh_H := (if l3 < (l8 + (l11 * l7)) then k310 l3 l4 l5 l6 l7 l8 h else (if ai_in ((l5 + l8) + (l11 * l7)) 56014 then f_M_layKind_l154 N (f_M_layKind_b205 N k121) N l3 l4 l5 l6 l7 l8 l9 l10 l11 ((h.1 13 55 ((l5 + l8) + (l11 * l7)).toNatClampNeg) - l11) h else none))
def f_M_layKind_l121 (N : Nat)  (k310 : Int32 → Int32 → Int32 → Int32 → Int32 → Int32 → sh_H → Option sh_H) (n : Nat) : Int32 → Int32 → Int32 → Int32 → Int32 → Int32 → Int32 → Int32 → Int32 → sh_H → Option sh_H := Nat.rec (motive := fun _ => Int32 → Int32 → Int32 → Int32 → Int32 → Int32 → Int32 → Int32 → Int32 → sh_H → Option sh_H) (fun _ _ _ _ _ _ _ _ _ _ => none) (fun _ k121 => f_M_layKind_c121 N k310 k121) n
theorem x_M_layKind_l121 (N : Nat) {d : Nat} (hd : 1 ≤ d) {Q : ai_Q} {R : sh_H → Prop} (hR : ∀ h, R h → Q none (sh_E h))  (k310 : Int32 → Int32 → Int32 → Int32 → Int32 → Int32 → sh_H → Option sh_H) (hk310 : ∀ (l3 : Int32) (l4 : Int32) (l5 : Int32) (l6 : Int32) (l7 : Int32) (l8 : Int32) {d1 d2 d9 d10 d11 d12 d13 : Option ai_V} (h : sh_H), sh_ok (k310 l3 l4 l5 l6 l7 l8 h) R → wq_293 d Q 310 [oR 12 0, d1, d2, oI l3, oI l4, oI l5, oI l6, oI l7, oI l8, d9, d10, d11, d12, d13] [] (sh_E h)) (n : Nat) : ∀ (l3 : Int32) (l4 : Int32) (l5 : Int32) (l6 : Int32) (l7 : Int32) (l8 : Int32) (l9 : Int32) (l10 : Int32) (l11 : Int32) {d1 d2 d12 d13 : Option ai_V} (h : sh_H), sh_ok (f_M_layKind_l121 N k310 n l3 l4 l5 l6 l7 l8 l9 l10 l11 h) R → wq_293 d Q 121 [oR 12 0, d1, d2, oI l3, oI l4, oI l5, oI l6, oI l7, oI l8, oI l9, oI l10, oI l11, d12, d13] [] (sh_E h) := by
  induction n with
  | zero => intro l3 l4 l5 l6 l7 l8 l9 l10 l11 d1 d2 d12 d13 h H; exact H.elim
  | succ n ih =>
    intro l3 l4 l5 l6 l7 l8 l9 l10 l11 d1 d2 d12 d13 h H
    have hk121 := @ih
    replace H : sh_ok (f_M_layKind_c121 N k310 (f_M_layKind_l121 N k310 n) l3 l4 l5 l6 l7 l8 l9 l10 l11 h) R := H
    revert hk121 H
    generalize f_M_layKind_l121 N k310 n = k121
    intro hk121 H
    refine ai_WP_steps mc_293 (sh_CM d) 7 (And.intro (fun c => ?_) (fun c => ?_))
    · replace H := sh_okT c H
      exact hk310 l3 l4 l5 l6 l7 l8 h H
    · replace H := sh_okF c H
      show wq_293 d Q 133 [oR 12 0, _, _, oI l3, oI l4, oI l5, oI l6, oI l7, oI l8, oI l9, oI l10, oI l11, _, _] [] (sh_E h)
      have c := sh_okG H
      replace H := sh_okH H
      refine ai_WP_steps mc_293 (sh_CM d) 10 (And.intro c ?_)
      show wq_293 d Q 149 [oR 12 0, _, _, oI l3, oI l4, oI l5, oI l6, oI l7, oI l8, oI l9, oI l10, oI l11, _, _] [aI (h.1 13 55 ((l5 + l8) + (l11 * l7)).toNatClampNeg)] (sh_E h)
      refine ai_WP_steps mc_293 (sh_CM d) 3 ?_
      exact x_M_layKind_l154 N hd hR (f_M_layKind_b205 N k121) (fun z0 z1 z2 z3 z4 z5 z6 z7 z8 {e1} {e2} {e12} {e13} h H => x_M_layKind_b205 N hd hR k121 hk121 z0 z1 z2 z3 z4 z5 z6 z7 z8 h H) N l3 l4 l5 l6 l7 l8 l9 l10 l11 ((h.1 13 55 ((l5 + l8) + (l11 * l7)).toNatClampNeg) - l11) h H
def f_M_layKind_b310 (N : Nat)  (k99 : Int32 → Int32 → Int32 → Int32 → Int32 → Int32 → sh_H → Option sh_H) (l3 : Int32) (l4 : Int32) (l5 : Int32) (l6 : Int32) (l7 : Int32) (l8 : Int32) (h : sh_H) : Option sh_H := k99 l3 l4 l5 l6 l7 (l8 + (1 : Int32)) h
theorem x_M_layKind_b310 (N : Nat) {d : Nat} (hd : 1 ≤ d) {Q : ai_Q} {R : sh_H → Prop} (hR : ∀ h, R h → Q none (sh_E h))  (k99 : Int32 → Int32 → Int32 → Int32 → Int32 → Int32 → sh_H → Option sh_H) (hk99 : ∀ (l3 : Int32) (l4 : Int32) (l5 : Int32) (l6 : Int32) (l7 : Int32) (l8 : Int32) {d1 d2 d9 d10 d11 d12 d13 : Option ai_V} (h : sh_H), sh_ok (k99 l3 l4 l5 l6 l7 l8 h) R → wq_293 d Q 99 [oR 12 0, d1, d2, oI l3, oI l4, oI l5, oI l6, oI l7, oI l8, d9, d10, d11, d12, d13] [] (sh_E h)) (l3 : Int32) (l4 : Int32) (l5 : Int32) (l6 : Int32) (l7 : Int32) (l8 : Int32) {d1 d2 d9 d10 d11 d12 d13 : Option ai_V} (h : sh_H) (H : sh_ok (f_M_layKind_b310 N k99 l3 l4 l5 l6 l7 l8 h) R) : wq_293 d Q 310 [oR 12 0, d1, d2, oI l3, oI l4, oI l5, oI l6, oI l7, oI l8, d9, d10, d11, d12, d13] [] (sh_E h) := by
  refine ai_WP_steps mc_293 (sh_CM d) 2 ?_
  exact hk99 l3 l4 l5 l6 l7 (l8 + (1 : Int32)) h H
def f_M_layKind_c99 (N : Nat)   (k99 : Int32 → Int32 → Int32 → Int32 → Int32 → Int32 → sh_H → Option sh_H) (l3 : Int32) (l4 : Int32) (l5 : Int32) (l6 : Int32) (l7 : Int32) (l8 : Int32) (h : sh_H) : Option sh_H := (if l8 < l7 then (if l3 < l8 then (some h) else f_M_layKind_l121 N (f_M_layKind_b310 N k99) N l3 l4 l5 l6 l7 l8 (0 : Int32) (0 : Int32) (0 : Int32) h) else (some h))
def f_M_layKind_l99 (N : Nat)   (n : Nat) : Int32 → Int32 → Int32 → Int32 → Int32 → Int32 → sh_H → Option sh_H := Nat.rec (motive := fun _ => Int32 → Int32 → Int32 → Int32 → Int32 → Int32 → sh_H → Option sh_H) (fun _ _ _ _ _ _ _ => none) (fun _ k99 => f_M_layKind_c99 N k99) n
theorem x_M_layKind_l99 (N : Nat) {d : Nat} (hd : 1 ≤ d) {Q : ai_Q} {R : sh_H → Prop} (hR : ∀ h, R h → Q none (sh_E h))   (n : Nat) : ∀ (l3 : Int32) (l4 : Int32) (l5 : Int32) (l6 : Int32) (l7 : Int32) (l8 : Int32) {d1 d2 d9 d10 d11 d12 d13 : Option ai_V} (h : sh_H), sh_ok (f_M_layKind_l99 N n l3 l4 l5 l6 l7 l8 h) R → wq_293 d Q 99 [oR 12 0, d1, d2, oI l3, oI l4, oI l5, oI l6, oI l7, oI l8, d9, d10, d11, d12, d13] [] (sh_E h) := by
  induction n with
  | zero => intro l3 l4 l5 l6 l7 l8 d1 d2 d9 d10 d11 d12 d13 h H; exact H.elim
  | succ n ih =>
    intro l3 l4 l5 l6 l7 l8 d1 d2 d9 d10 d11 d12 d13 h H
    have hk99 := @ih
    replace H : sh_ok (f_M_layKind_c99 N (f_M_layKind_l99 N n) l3 l4 l5 l6 l7 l8 h) R := H
    revert hk99 H
    generalize f_M_layKind_l99 N n = k99
    intro hk99 H
    refine ai_WP_steps mc_293 (sh_CM d) 3 (And.intro (fun c => ?_) (fun c => ?_))
    · replace H := sh_okT c H
      show wq_293 d Q 106 [oR 12 0, _, _, oI l3, oI l4, oI l5, oI l6, oI l7, oI l8, _, _, _, _, _] [] (sh_E h)
      refine ai_WP_steps mc_293 (sh_CM d) 3 (And.intro (fun c => ?_) (fun c => ?_))
      · replace H := sh_okT c H
        show wq_293 d Q 316 [oR 12 0, _, _, oI l3, oI l4, oI l5, oI l6, oI l7, oI l8, _, _, _, _, _] [] (sh_E h)
        exact ai_WP_steps mc_293 (sh_CM d) 1 (hR h H)
      · replace H := sh_okF c H
        show wq_293 d Q 112 [oR 12 0, _, _, oI l3, oI l4, oI l5, oI l6, oI l7, oI l8, _, _, _, _, _] [] (sh_E h)
        refine ai_WP_steps mc_293 (sh_CM d) 6 ?_
        exact x_M_layKind_l121 N hd hR (f_M_layKind_b310 N k99) (fun z0 z1 z2 z3 z4 z5 {e1} {e2} {e9} {e10} {e11} {e12} {e13} h H => x_M_layKind_b310 N hd hR k99 hk99 z0 z1 z2 z3 z4 z5 h H) N l3 l4 l5 l6 l7 l8 (0 : Int32) (0 : Int32) (0 : Int32) h H
    · replace H := sh_okF c H
      show wq_293 d Q 316 [oR 12 0, _, _, oI l3, oI l4, oI l5, oI l6, oI l7, oI l8, _, _, _, _, _] [] (sh_E h)
      exact ai_WP_steps mc_293 (sh_CM d) 1 (hR h H)
def f_M_layKind_b46 (N : Nat)   (l2 : Int32) (l3 : Int32) (l4 : Int32) (l5 : Int32) (s0 : Int32) (h : sh_H) : Option sh_H := (if s0 = 0 then f_M_layKind_l56 N N l3 l4 l5 (0 : Int32) h else (Option.bind (f_M_worth l2 h) (fun v4 => f_M_layKind_l99 N N l3 l4 l5 s0 v4 (0 : Int32) h)))
theorem x_M_layKind_b46 (N : Nat) {d : Nat} (hd : 1 ≤ d) {Q : ai_Q} {R : sh_H → Prop} (hR : ∀ h, R h → Q none (sh_E h))   (l2 : Int32) (l3 : Int32) (l4 : Int32) (l5 : Int32) (s0 : Int32) {d1 d6 d7 d8 d9 d10 d11 d12 d13 : Option ai_V} (h : sh_H) (H : sh_ok (f_M_layKind_b46 N l2 l3 l4 l5 s0 h) R) : wq_293 d Q 46 [oR 12 0, d1, oI l2, oI l3, oI l4, oI l5, d6, d7, d8, d9, d10, d11, d12, d13] [aI s0] (sh_E h) := by
  refine ai_WP_steps mc_293 (sh_CM d) 3 (And.intro (fun c => ?_) (fun c => ?_))
  · replace H := sh_okT c H
    show wq_293 d Q 53 [oR 12 0, _, oI l2, oI l3, oI l4, oI l5, oI s0, _, _, _, _, _, _, _] [] (sh_E h)
    refine ai_WP_steps mc_293 (sh_CM d) 2 ?_
    exact x_M_layKind_l56 N hd hR N l3 l4 l5 (0 : Int32) h H
  · replace H := sh_okF c H
    show wq_293 d Q 89 [oR 12 0, _, oI l2, oI l3, oI l4, oI l5, oI s0, _, _, _, _, _, _, _] [] (sh_E h)
    refine ai_WP_steps mc_293 (sh_CM d) 3 (And.intro (Nat.le_of_ble_eq_true rfl) (x_M_worth (Nat.le_trans (Nat.le_of_ble_eq_true rfl) hd) l2 h (sh_okB H) (fun v4 H => ?_)))
    show wq_293 d Q 94 [oR 12 0, _, oI l2, oI l3, oI l4, oI l5, oI s0, _, _, _, _, _, _, _] [aI v4] (sh_E h)
    refine ai_WP_steps mc_293 (sh_CM d) 3 ?_
    exact x_M_layKind_l99 N hd hR N l3 l4 l5 s0 v4 (0 : Int32) h H
def f_M_layKind (N : Nat)  (l1 : Int32) (l2 : Int32) (l3 : Int32) (h : sh_H) : Option sh_H := (if ai_in (0 : Int32) 8000 then (if l2 < (h.1 13 46 (0 : Int32).toNatClampNeg) then (if ai_in (((6 : Int32) * l1) + l2) 12 then f_M_layKind_b46 N l2 l3 (((28007 : Int32) * l1) + ((4001 : Int32) * l2)) ((((28007 : Int32) * l1) + ((4001 : Int32) * l2)) + (4001 : Int32)) (h.1 13 54 (((6 : Int32) * l1) + l2).toNatClampNeg) h else none) else f_M_layKind_b46 N l2 l3 (((28007 : Int32) * l1) + ((4001 : Int32) * l2)) ((((28007 : Int32) * l1) + ((4001 : Int32) * l2)) + (4001 : Int32)) (0 : Int32) h) else none)
theorem x_M_layKind (N : Nat) {d : Nat} (hd : 2 ≤ d) (l1 : Int32) (l2 : Int32) (l3 : Int32) (h : sh_H) {Q : ai_Q} {R : sh_H → Prop} (H : sh_ok (f_M_layKind N l1 l2 l3 h) R) (hR : ∀ h, R h → Q none (sh_E h)) : ai_Ex sh_T d 293 [aR 12 0, aI l1, aI l2, aI l3] (sh_E h) Q := by
  obtain ⟨d, rfl⟩ : ∃ e, d = e + 1 := ⟨d - 1, by omega⟩
  replace hd : 1 ≤ d := by omega
  refine And.intro (Nat.le_of_ble_eq_true rfl) ?_
  show wq_293 d Q 0 [oR 12 0, oI l1, oI l2, oI l3, none, none, none, none, none, none, none, none, none, none] [] (sh_E h)
  have c := sh_okG H
  replace H := sh_okH H
  refine ai_WP_steps mc_293 (sh_CM d) 17 (And.intro c ?_)
  show wq_293 d Q 28 [oR 12 0, oI l1, oI l2, oI l3, oI (((28007 : Int32) * l1) + ((4001 : Int32) * l2)), oI ((((28007 : Int32) * l1) + ((4001 : Int32) * l2)) + (4001 : Int32)), _, _, _, _, _, _, _, _] [aI (h.1 13 46 (0 : Int32).toNatClampNeg), aI l2] (sh_E h)
  refine ai_WP_steps mc_293 (sh_CM d) 1 (And.intro (fun c => ?_) (fun c => ?_))
  · replace H := sh_okT c H
    show wq_293 d Q 31 [oR 12 0, oI l1, oI l2, oI l3, oI (((28007 : Int32) * l1) + ((4001 : Int32) * l2)), oI ((((28007 : Int32) * l1) + ((4001 : Int32) * l2)) + (4001 : Int32)), _, _, _, _, _, _, _, _] [] (sh_E h)
    have c := sh_okG H
    replace H := sh_okH H
    refine ai_WP_steps mc_293 (sh_CM d) 8 (And.intro c ?_)
    show wq_293 d Q 42 [oR 12 0, oI l1, oI l2, oI l3, oI (((28007 : Int32) * l1) + ((4001 : Int32) * l2)), oI ((((28007 : Int32) * l1) + ((4001 : Int32) * l2)) + (4001 : Int32)), _, _, _, _, _, _, _, _] [aI (h.1 13 54 (((6 : Int32) * l1) + l2).toNatClampNeg)] (sh_E h)
    refine ai_WP_steps mc_293 (sh_CM d) 1 ?_
    exact x_M_layKind_b46 N hd hR l2 l3 (((28007 : Int32) * l1) + ((4001 : Int32) * l2)) ((((28007 : Int32) * l1) + ((4001 : Int32) * l2)) + (4001 : Int32)) (h.1 13 54 (((6 : Int32) * l1) + l2).toNatClampNeg) h H
  · replace H := sh_okF c H
    show wq_293 d Q 45 [oR 12 0, oI l1, oI l2, oI l3, oI (((28007 : Int32) * l1) + ((4001 : Int32) * l2)), oI ((((28007 : Int32) * l1) + ((4001 : Int32) * l2)) + (4001 : Int32)), _, _, _, _, _, _, _, _] [] (sh_E h)
    refine ai_WP_steps mc_293 (sh_CM d) 1 ?_
    exact x_M_layKind_b46 N hd hR l2 l3 (((28007 : Int32) * l1) + ((4001 : Int32) * l2)) ((((28007 : Int32) * l1) + ((4001 : Int32) * l2)) + (4001 : Int32)) (0 : Int32) h H
