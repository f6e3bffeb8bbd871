/-! shallow functions, written by program -/
def f_M_names_b50 (N : Nat)  (k18 : Int32 → Int32 → Int32 → Int32 → sh_H → Option (Int32 × sh_H)) (l1 : Int32) (l2 : Int32) (l3 : Int32) (l4 : Int32) (h : sh_H) : Option (Int32 × sh_H) := k18 l1 l2 l3 (l4 + (1 : Int32)) h
theorem x_M_names_b50 (N : Nat) {d : Nat} (hd : 3 ≤ d) {Q : ai_Q} {R : Int32 × sh_H → Prop} (hR : ∀ r h, R (r, h) → Q (some (aI r)) (sh_E h))  (k18 : Int32 → Int32 → Int32 → Int32 → sh_H → Option (Int32 × sh_H)) (hk18 : ∀ (l1 : Int32) (l2 : Int32) (l3 : Int32) (l4 : Int32) (h : sh_H), sh_ok (k18 l1 l2 l3 l4 h) R → wq_233 d Q 18 [oR 12 0, oI l1, oI l2, oI l3, oI l4] [] (sh_E h)) (l1 : Int32) (l2 : Int32) (l3 : Int32) (l4 : Int32) (h : sh_H) (H : sh_ok (f_M_names_b50 N k18 l1 l2 l3 l4 h) R) : wq_233 d Q 50 [oR 12 0, oI l1, oI l2, oI l3, oI l4] [] (sh_E h) := by
  refine ai_WP_steps mc_233 (sh_CM d) 2 ?_
  exact hk18 l1 l2 l3 (l4 + (1 : Int32)) h H
def f_M_names_c18 (N : Nat)  (k56 : Int32 → Int32 → Int32 → sh_H → Option (Int32 × sh_H)) (k18 : Int32 → Int32 → Int32 → Int32 → sh_H → Option (Int32 × sh_H)) (l1 : Int32) (l2 : Int32) (l3 : Int32) (l4 : Int32) (h : sh_H) : Option (Int32 × sh_H) := (if l4 < (h.1 12 0 15) then (if ai_in l4 12 then (if ai_in l3 2001 then (if (lg_cmp (h.2.1 14 7 l4.toNatClampNeg) (h.2.1 14 5 l3.toNatClampNeg)) = 0 then (Option.bind (f_M_tells (3 : Int32) l3 h) (fun h1 => f_M_names_b50 N k18 l1 l2 l3 l4 h1)) else f_M_names_b50 N k18 l1 l2 l3 l4 h) else none) else none) else k56 l1 l2 l3 h)
def f_M_names_l18 (N : Nat)  (k56 : Int32 → Int32 → Int32 → sh_H → Option (Int32 × sh_H)) (n : Nat) : Int32 → Int32 → Int32 → Int32 → sh_H → Option (Int32 × sh_H) := Nat.rec (motive := fun _ => Int32 → Int32 → Int32 → Int32 → sh_H → Option (Int32 × sh_H)) (fun _ _ _ _ _ => none) (fun _ k18 => f_M_names_c18 N k56 k18) n
theorem x_M_names_l18 (N : Nat) {d : Nat} (hd : 3 ≤ d) {Q : ai_Q} {R : Int32 × sh_H → Prop} (hR : ∀ r h, R (r, h) → Q (some (aI r)) (sh_E h))  (k56 : Int32 → Int32 → Int32 → sh_H → Option (Int32 × sh_H)) (hk56 : ∀ (l1 : Int32) (l2 : Int32) (l3 : Int32) {d4 : Option ai_V} (h : sh_H), sh_ok (k56 l1 l2 l3 h) R → wq_233 d Q 56 [oR 12 0, oI l1, oI l2, oI l3, d4] [] (sh_E h)) (n : Nat) : ∀ (l1 : Int32) (l2 : Int32) (l3 : Int32) (l4 : Int32) (h : sh_H), sh_ok (f_M_names_l18 N k56 n l1 l2 l3 l4 h) R → wq_233 d Q 18 [oR 12 0, oI l1, oI l2, oI l3, oI l4] [] (sh_E h) := by
  induction n with
  | zero => intro l1 l2 l3 l4 h H; exact H.elim
  | succ n ih =>
    intro l1 l2 l3 l4 h H
    have hk18 := @ih
    replace H : sh_ok (f_M_names_c18 N k56 (f_M_names_l18 N k56 n) l1 l2 l3 l4 h) R := H
    revert hk18 H
    generalize f_M_names_l18 N k56 n = k18
    intro hk18 H
    refine ai_WP_steps mc_233 (sh_CM d) 4 (And.intro (fun c => ?_) (fun c => ?_))
    · replace H := sh_okT c H
      show wq_233 d Q 27 [oR 12 0, oI l1, oI l2, oI l3, oI l4] [] (sh_E h)
      have c := sh_okG H
      replace H := sh_okH H
      refine ai_WP_steps mc_233 (sh_CM d) 4 (And.intro c ?_)
      show wq_233 d Q 34 [oR 12 0, oI l1, oI l2, oI l3, oI l4] [aL (h.2.1 14 7 l4.toNatClampNeg)] (sh_E h)
      have c := sh_okG H
      replace H := sh_okH H
      refine ai_WP_steps mc_233 (sh_CM d) 4 (And.intro c ?_)
      show wq_233 d Q 40 [oR 12 0, oI l1, oI l2, oI l3, oI l4] [aL (h.2.1 14 5 l3.toNatClampNeg), aL (h.2.1 14 7 l4.toNatClampNeg)] (sh_E h)
      refine ai_WP_steps mc_233 (sh_CM d) 2 (And.intro (fun c => ?_) (fun c => ?_))
      · replace H := sh_okT c H
        show wq_233 d Q 44 [oR 12 0, oI l1, oI l2, oI l3, oI l4] [] (sh_E h)
        refine ai_WP_steps mc_233 (sh_CM d) 4 (And.intro (Nat.le_of_ble_eq_true rfl) (x_M_tells (Nat.le_trans (Nat.le_of_ble_eq_true rfl) hd) (3 : Int32) l3 h (sh_okB H) (fun h1 H => ?_)))
        show wq_233 d Q 50 [oR 12 0, oI l1, oI l2, oI l3, oI l4] [] (sh_E h1)
        exact x_M_names_b50 N hd hR k18 hk18 l1 l2 l3 l4 h1 H
      · replace H := sh_okF c H
        exact x_M_names_b50 N hd hR k18 hk18 l1 l2 l3 l4 h H
    · replace H := sh_okF c H
      exact hk56 l1 l2 l3 h H
def f_M_names_b56 (N : Nat)   (l1 : Int32) (l2 : Int32) (l3 : Int32) (h : sh_H) : Option (Int32 × sh_H) := (if ai_in l3 2001 then (if ai_in (h.1 12 0 15) 12 then (sh_let (sh_pJ h 14 7 (h.1 12 0 15).toNatClampNeg (h.2.1 14 5 l3.toNatClampNeg)) (fun h2 => (if ai_in (h2.1 12 0 15) 12 then (sh_let (sh_pI h2 13 47 (h2.1 12 0 15).toNatClampNeg l1) (fun h3 => (if ai_in (h3.1 12 0 15) 12 then (sh_let (sh_pI h3 13 48 (h3.1 12 0 15).toNatClampNeg l2) (fun h4 => (sh_let (sh_pI h4 12 0 15 ((h4.1 12 0 15) + (1 : Int32))) (fun h5 => (some ((ai_nar 1 (1 : Int32)), h5)))))) else none))) else none))) else none) else none)
theorem x_M_names_b56 (N : Nat) {d : Nat} (hd : 3 ≤ d) {Q : ai_Q} {R : Int32 × sh_H → Prop} (hR : ∀ r h, R (r, h) → Q (some (aI r)) (sh_E h))   (l1 : Int32) (l2 : Int32) (l3 : Int32) {d4 : Option ai_V} (h : sh_H) (H : sh_ok (f_M_names_b56 N l1 l2 l3 h) R) : wq_233 d Q 56 [oR 12 0, oI l1, oI l2, oI l3, d4] [] (sh_E h) := by
  have c := sh_okG H
  replace H := sh_okH H
  refine ai_WP_steps mc_233 (sh_CM d) 8 (And.intro c ?_)
  show wq_233 d Q 70 [oR 12 0, oI l1, oI l2, oI l3, _] [aL (h.2.1 14 5 l3.toNatClampNeg), aI (h.1 12 0 15), aR 14 7] (sh_E h)
  have c := sh_okG H
  replace H := sh_okH H
  refine ai_WP_steps mc_233 (sh_CM d) 1 (And.intro c ?_)
  show wq_233 d Q 71 [oR 12 0, oI l1, oI l2, oI l3, _] [] (sh_E (sh_pJ h 14 7 (h.1 12 0 15).toNatClampNeg (h.2.1 14 5 l3.toNatClampNeg)))
  replace H := sh_okL H
  generalize sh_pJ h 14 7 (h.1 12 0 15).toNatClampNeg (h.2.1 14 5 l3.toNatClampNeg) = h2 at H ⊢
  have c := sh_okG H
  replace H := sh_okH H
  refine ai_WP_steps mc_233 (sh_CM d) 6 (And.intro c ?_)
  show wq_233 d Q 81 [oR 12 0, oI l1, oI l2, oI l3, _] [] (sh_E (sh_pI h2 13 47 (h2.1 12 0 15).toNatClampNeg l1))
  replace H := sh_okL H
  generalize sh_pI h2 13 47 (h2.1 12 0 15).toNatClampNeg l1 = h3 at H ⊢
  have c := sh_okG H
  replace H := sh_okH H
  refine ai_WP_steps mc_233 (sh_CM d) 6 (And.intro c ?_)
  show wq_233 d Q 91 [oR 12 0, oI l1, oI l2, oI l3, _] [] (sh_E (sh_pI h3 13 48 (h3.1 12 0 15).toNatClampNeg l2))
  replace H := sh_okL H
  generalize sh_pI h3 13 48 (h3.1 12 0 15).toNatClampNeg l2 = h4 at H ⊢
  refine ai_WP_steps mc_233 (sh_CM d) 6 (And.intro trivial ?_)
  show wq_233 d Q 101 [oR 12 0, oI l1, oI l2, oI l3, _] [] (sh_E (sh_pI h4 12 0 15 ((h4.1 12 0 15) + (1 : Int32))))
  replace H := sh_okL H
  generalize sh_pI h4 12 0 15 ((h4.1 12 0 15) + (1 : Int32)) = h5 at H ⊢
  exact ai_WP_steps mc_233 (sh_CM d) 2 (hR (ai_nar 1 (1 : Int32)) h5 H)
def f_M_names (N : Nat)  (l1 : Int32) (l2 : Int32) (h : sh_H) : Option (Int32 × sh_H) := (sh_b2 (f_M_takes (0 : Int32) h) (fun v6 h7 => (if v6 = 0 then (some ((ai_nar 1 (0 : Int32)), h7)) else f_M_names_l18 N (f_M_names_b56 N) N l1 l2 (h.1 12 0 7) (0 : Int32) h7)))
theorem x_M_names (N : Nat) {d : Nat} (hd : 4 ≤ d) (l1 : Int32) (l2 : Int32) (h : sh_H) {Q : ai_Q} {R : Int32 × sh_H → Prop} (H : sh_ok (f_M_names N l1 l2 h) R) (hR : ∀ r h, R (r, h) → Q (some (aI r)) (sh_E h)) : ai_Ex sh_T d 233 [aR 12 0, aI l1, aI l2] (sh_E h) Q := by
  obtain ⟨d, rfl⟩ : ∃ e, d = e + 1 := ⟨d - 1, by omega⟩
  replace hd : 3 ≤ d := by omega
  refine And.intro (Nat.le_of_ble_eq_true rfl) ?_
  show wq_233 d Q 0 [oR 12 0, oI l1, oI l2, none, none] [] (sh_E h)
  refine ai_WP_steps mc_233 (sh_CM d) 6 (And.intro (Nat.le_of_ble_eq_true rfl) (x_M_takes (Nat.le_trans (Nat.le_of_ble_eq_true rfl) hd) (0 : Int32) h (sh_okB H) (fun v6 h7 H => ?_)))
  show wq_233 d Q 10 [oR 12 0, oI l1, oI l2, oI (h.1 12 0 7), _] [aI v6] (sh_E h7)
  refine ai_WP_steps mc_233 (sh_CM d) 1 (And.intro (fun c => ?_) (fun c => ?_))
  · replace H := sh_okT c H
    show wq_233 d Q 13 [oR 12 0, oI l1, oI l2, oI (h.1 12 0 7), _] [] (sh_E h7)
    exact ai_WP_steps mc_233 (sh_CM d) 2 (hR (ai_nar 1 (0 : Int32)) h7 H)
  · replace H := sh_okF c H
    show wq_233 d Q 15 [oR 12 0, oI l1, oI l2, oI (h.1 12 0 7), _] [] (sh_E h7)
    refine ai_WP_steps mc_233 (sh_CM d) 2 ?_
    exact x_M_names_l18 N hd hR (f_M_names_b56 N) (fun z0 z1 z2 {e4} h H => x_M_names_b56 N hd hR z0 z1 z2 h H) N l1 l2 (h.1 12 0 7) (0 : Int32) h7 H
def f_M_takesName_b67 (N : Nat)  (k27 : Int32 → Int32 → Int32 → sh_H → Option (Int32 × sh_H)) (l1 : Int32) (l2 : Int32) (l3 : Int32) (h : sh_H) : Option (Int32 × sh_H) := k27 l1 l2 (l3 + (-1 : Int32)) h
theorem x_M_takesName_b67 (N : Nat) {d : Nat} (hd : 3 ≤ d) {Q : ai_Q} {R : Int32 × sh_H → Prop} (hR : ∀ r h, R (r, h) → Q (some (aI r)) (sh_E h))  (k27 : Int32 → Int32 → Int32 → sh_H → Option (Int32 × sh_H)) (hk27 : ∀ (l1 : Int32) (l2 : Int32) (l3 : Int32) (h : sh_H), sh_ok (k27 l1 l2 l3 h) R → wq_234 d Q 27 [oR 12 0, oI l1, oI l2, oI l3] [] (sh_E h)) (l1 : Int32) (l2 : Int32) (l3 : Int32) (h : sh_H) (H : sh_ok (f_M_takesName_b67 N k27 l1 l2 l3 h) R) : wq_234 d Q 67 [oR 12 0, oI l1, oI l2, oI l3] [] (sh_E h) := by
  refine ai_WP_steps mc_234 (sh_CM d) 2 ?_
  exact hk27 l1 l2 (l3 + (-1 : Int32)) h H
def f_M_takesName_c27 (N : Nat)  (k73 : Int32 → sh_H → Option (Int32 × sh_H)) (k27 : Int32 → Int32 → Int32 → sh_H → Option (Int32 × sh_H)) (l1 : Int32) (l2 : Int32) (l3 : Int32) (h : sh_H) : Option (Int32 × sh_H) := (if l3 < 0 then k73 l2 h else (if ai_in l3 12 then (if ai_in l2 2001 then (if (lg_cmp (h.2.1 14 7 l3.toNatClampNeg) (h.2.1 14 5 l2.toNatClampNeg)) = 0 then (if ai_in l3 12 then (if (h.1 13 47 l3.toNatClampNeg) = l1 then (if ai_in l3 12 then (sh_let (sh_pI h 12 0 19 (h.1 13 48 l3.toNatClampNeg)) (fun h1 => f_M_takesName_b67 N k27 l1 l2 l3 h1)) else none) else f_M_takesName_b67 N k27 l1 l2 l3 h) else none) else f_M_takesName_b67 N k27 l1 l2 l3 h) else none) else none))
def f_M_takesName_l27 (N : Nat)  (k73 : Int32 → sh_H → Option (Int32 × sh_H)) (n : Nat) : Int32 → Int32 → Int32 → sh_H → Option (Int32 × sh_H) := Nat.rec (motive := fun _ => Int32 → Int32 → Int32 → sh_H → Option (Int32 × sh_H)) (fun _ _ _ _ => none) (fun _ k27 => f_M_takesName_c27 N k73 k27) n
theorem x_M_takesName_l27 (N : Nat) {d : Nat} (hd : 3 ≤ d) {Q : ai_Q} {R : Int32 × sh_H → Prop} (hR : ∀ r h, R (r, h) → Q (some (aI r)) (sh_E h))  (k73 : Int32 → sh_H → Option (Int32 × sh_H)) (hk73 : ∀ (l2 : Int32) {d1 d3 : Option ai_V} (h : sh_H), sh_ok (k73 l2 h) R → wq_234 d Q 73 [oR 12 0, d1, oI l2, d3] [] (sh_E h)) (n : Nat) : ∀ (l1 : Int32) (l2 : Int32) (l3 : Int32) (h : sh_H), sh_ok (f_M_takesName_l27 N k73 n l1 l2 l3 h) R → wq_234 d Q 27 [oR 12 0, oI l1, oI l2, oI l3] [] (sh_E h) := by
  induction n with
  | zero => intro l1 l2 l3 h H; exact H.elim
  | succ n ih =>
    intro l1 l2 l3 h H
    have hk27 := @ih
    replace H : sh_ok (f_M_takesName_c27 N k73 (f_M_takesName_l27 N k73 n) l1 l2 l3 h) R := H
    revert hk27 H
    generalize f_M_takesName_l27 N k73 n = k27
    intro hk27 H
    refine ai_WP_steps mc_234 (sh_CM d) 2 (And.intro (fun c => ?_) (fun c => ?_))
    · replace H := sh_okT c H
      exact hk73 l2 h H
    · replace H := sh_okF c H
      show wq_234 d Q 31 [oR 12 0, oI l1, oI l2, oI l3] [] (sh_E h)
      have c := sh_okG H
      replace H := sh_okH H
      refine ai_WP_steps mc_234 (sh_CM d) 4 (And.intro c ?_)
      show wq_234 d Q 37 [oR 12 0, oI l1, oI l2, oI l3] [aL (h.2.1 14 7 l3.toNatClampNeg)] (sh_E h)
      have c := sh_okG H
      replace H := sh_okH H
      refine ai_WP_steps mc_234 (sh_CM d) 4 (And.intro c ?_)
      show wq_234 d Q 43 [oR 12 0, oI l1, oI l2, oI l3] [aL (h.2.1 14 5 l2.toNatClampNeg), aL (h.2.1 14 7 l3.toNatClampNeg)] (sh_E h)
      refine ai_WP_steps mc_234 (sh_CM d) 2 (And.intro (fun c => ?_) (fun c => ?_))
      · replace H := sh_okT c H
        show wq_234 d Q 47 [oR 12 0, oI l1, oI l2, oI l3] [] (sh_E h)
        have c := sh_okG H
        replace H := sh_okH H
        refine ai_WP_steps mc_234 (sh_CM d) 4 (And.intro c ?_)
        show wq_234 d Q 53 [oR 12 0, oI l1, oI l2, oI l3] [aI (h.1 13 47 l3.toNatClampNeg)] (sh_E h)
        refine ai_WP_steps mc_234 (sh_CM d) 2 (And.intro (fun c => ?_) (fun c => ?_))
        · replace H := sh_okT c H
          show wq_234 d Q 57 [oR 12 0, oI l1, oI l2, oI l3] [] (sh_E h)
          have c := sh_okG H
          replace H := sh_okH H
          refine ai_WP_steps mc_234 (sh_CM d) 5 (And.intro c ?_)
          show wq_234 d Q 64 [oR 12 0, oI l1, oI l2, oI l3] [aI (h.1 13 48 l3.toNatClampNeg), aR 12 0] (sh_E h)
          refine ai_WP_steps mc_234 (sh_CM d) 1 (And.intro trivial ?_)
          show wq_234 d Q 67 [oR 12 0, oI l1, oI l2, oI l3] [] (sh_E (sh_pI h 12 0 19 (h.1 13 48 l3.toNatClampNeg)))
          replace H := sh_okL H
          generalize sh_pI h 12 0 19 (h.1 13 48 l3.toNatClampNeg) = h1 at H ⊢
          exact x_M_takesName_b67 N hd hR k27 hk27 l1 l2 l3 h1 H
        · replace H := sh_okF c H
          exact x_M_takesName_b67 N hd hR k27 hk27 l1 l2 l3 h H
      · replace H := sh_okF c H
        exact x_M_takesName_b67 N hd hR k27 hk27 l1 l2 l3 h H
def f_M_takesName_b73 (N : Nat)   (l2 : Int32) (h : sh_H) : Option (Int32 × sh_H) := (if (h.1 12 0 19) < 0 then (Option.bind (f_M_tells (4 : Int32) l2 h) (fun h2 => (some ((ai_nar 1 (1 : Int32)), h2)))) else (some ((ai_nar 1 (1 : Int32)), h)))
theorem x_M_takesName_b73 (N : Nat) {d : Nat} (hd : 3 ≤ d) {Q : ai_Q} {R : Int32 × sh_H → Prop} (hR : ∀ r h, R (r, h) → Q (some (aI r)) (sh_E h))   (l2 : Int32) {d1 d3 : Option ai_V} (h : sh_H) (H : sh_ok (f_M_takesName_b73 N l2 h) R) : wq_234 d Q 73 [oR 12 0, d1, oI l2, d3] [] (sh_E h) := by
  refine ai_WP_steps mc_234 (sh_CM d) 3 (And.intro (fun c => ?_) (fun c => ?_))
  · replace H := sh_okT c H
    show wq_234 d Q 80 [oR 12 0, _, oI l2, _] [] (sh_E h)
    refine ai_WP_steps mc_234 (sh_CM d) 4 (And.intro (Nat.le_of_ble_eq_true rfl) (x_M_tells (Nat.le_trans (Nat.le_of_ble_eq_true rfl) hd) (4 : Int32) l2 h (sh_okB H) (fun h2 H => ?_)))
    show wq_234 d Q 86 [oR 12 0, _, oI l2, _] [] (sh_E h2)
    exact ai_WP_steps mc_234 (sh_CM d) 2 (hR (ai_nar 1 (1 : Int32)) h2 H)
  · replace H := sh_okF c H
    show wq_234 d Q 86 [oR 12 0, _, oI l2, _] [] (sh_E h)
    exact ai_WP_steps mc_234 (sh_CM d) 2 (hR (ai_nar 1 (1 : Int32)) h H)
def f_M_takesName (N : Nat)  (l1 : Int32) (h : sh_H) : Option (Int32 × sh_H) := (sh_b2 (f_M_takes (0 : Int32) h) (fun v3 h4 => (if v3 = 0 then (some ((ai_nar 1 (0 : Int32)), h4)) else (sh_let (sh_pI h4 12 0 19 (-1 : Int32)) (fun h5 => f_M_takesName_l27 N (f_M_takesName_b73 N) N l1 (h.1 12 0 7) ((h5.1 12 0 15) - (1 : Int32)) h5)))))
theorem x_M_takesName (N : Nat) {d : Nat} (hd : 4 ≤ d) (l1 : Int32) (h : sh_H) {Q : ai_Q} {R : Int32 × sh_H → Prop} (H : sh_ok (f_M_takesName N l1 h) R) (hR : ∀ r h, R (r, h) → Q (some (aI r)) (sh_E h)) : ai_Ex sh_T d 234 [aR 12 0, aI l1] (sh_E h) Q := by
  obtain ⟨d, rfl⟩ : ∃ e, d = e + 1 := ⟨d - 1, by omega⟩
  replace hd : 3 ≤ d := by omega
  refine And.intro (Nat.le_of_ble_eq_true rfl) ?_
  show wq_234 d Q 0 [oR 12 0, oI l1, none, none] [] (sh_E h)
  refine ai_WP_steps mc_234 (sh_CM d) 6 (And.intro (Nat.le_of_ble_eq_true rfl) (x_M_takes (Nat.le_trans (Nat.le_of_ble_eq_true rfl) hd) (0 : Int32) h (sh_okB H) (fun v3 h4 H => ?_)))
  show wq_234 d Q 10 [oR 12 0, oI l1, oI (h.1 12 0 7), _] [aI v3] (sh_E h4)
  refine ai_WP_steps mc_234 (sh_CM d) 1 (And.intro (fun c => ?_) (fun c => ?_))
  · replace H := sh_okT c H
    show wq_234 d Q 13 [oR 12 0, oI l1, oI (h.1 12 0 7), _] [] (sh_E h4)
    exact ai_WP_steps mc_234 (sh_CM d) 2 (hR (ai_nar 1 (0 : Int32)) h4 H)
  · replace H := sh_okF c H
    show wq_234 d Q 15 [oR 12 0, oI l1, oI (h.1 12 0 7), _] [] (sh_E h4)
    refine ai_WP_steps mc_234 (sh_CM d) 3 (And.intro trivial ?_)
    show wq_234 d Q 20 [oR 12 0, oI l1, oI (h.1 12 0 7), _] [] (sh_E (sh_pI h4 12 0 19 (-1 : Int32)))
    replace H := sh_okL H
    generalize sh_pI h4 12 0 19 (-1 : Int32) = h5 at H ⊢
    refine ai_WP_steps mc_234 (sh_CM d) 5 ?_
    exact x_M_takesName_l27 N hd hR (f_M_takesName_b73 N) (fun z0 {e1} {e3} h H => x_M_takesName_b73 N hd hR z0 h H) N l1 (h.1 12 0 7) ((h5.1 12 0 15) - (1 : Int32)) h5 H
def f_M_takesPlace_b36 (N : Nat)   (s1 : Int32) (h : sh_H) : Option (Int32 × sh_H) := (sh_let (sh_pI h 12 0 19 s1) (fun h1 => (some ((ai_nar 1 (1 : Int32)), h1))))
theorem x_M_takesPlace_b36 (N : Nat) {d : Nat} (hd : 4 ≤ d) {Q : ai_Q} {R : Int32 × sh_H → Prop} (hR : ∀ r h, R (r, h) → Q (some (aI r)) (sh_E h))   (s1 : Int32) {d0 : Option ai_V} (h : sh_H) (H : sh_ok (f_M_takesPlace_b36 N s1 h) R) : wq_235 d Q 36 [d0] [aI s1, aR 12 0] (sh_E h) := by
  refine ai_WP_steps mc_235 (sh_CM d) 1 (And.intro trivial ?_)
  show wq_235 d Q 39 [_] [] (sh_E (sh_pI h 12 0 19 s1))
  replace H := sh_okL H
  generalize sh_pI h 12 0 19 s1 = h1 at H ⊢
  exact ai_WP_steps mc_235 (sh_CM d) 2 (hR (ai_nar 1 (1 : Int32)) h1 H)
def f_M_takesPlace (N : Nat)   (h : sh_H) : Option (Int32 × sh_H) := (Option.bind (f_M_isWord (5 : Int32) h) (fun v2 => (if v2 = 0 then (sh_b2 (f_M_takesName N (1 : Int32) h) (fun v3 h4 => (if v3 = 0 then (some ((ai_nar 1 (0 : Int32)), h4)) else (if (h4.1 12 0 19) < 0 then f_M_takesPlace_b36 N (-1 : Int32) h4 else f_M_takesPlace_b36 N ((h4.1 12 0 19) + (1 : Int32)) h4)))) else (sh_let (sh_pI h 12 0 19 (0 : Int32)) (fun h5 => (sh_b2 (f_M_pass h5) (fun v6 h7 => (some ((ai_nar 1 v6), h7)))))))))
theorem x_M_takesPlace (N : Nat) {d : Nat} (hd : 5 ≤ d)  (h : sh_H) {Q : ai_Q} {R : Int32 × sh_H → Prop} (H : sh_ok (f_M_takesPlace N h) R) (hR : ∀ r h, R (r, h) → Q (some (aI r)) (sh_E h)) : ai_Ex sh_T d 235 [aR 12 0] (sh_E h) Q := by
  obtain ⟨d, rfl⟩ : ∃ e, d = e + 1 := ⟨d - 1, by omega⟩
  replace hd : 4 ≤ d := by omega
  refine And.intro (Nat.le_of_ble_eq_true rfl) ?_
  show wq_235 d Q 0 [oR 12 0] [] (sh_E h)
  refine ai_WP_steps mc_235 (sh_CM d) 3 (And.intro (Nat.le_of_ble_eq_true rfl) (x_M_isWord (Nat.le_trans (Nat.le_of_ble_eq_true rfl) hd) (5 : Int32) h (sh_okB H) (fun v2 H => ?_)))
  show wq_235 d Q 5 [oR 12 0] [aI v2] (sh_E h)
  refine ai_WP_steps mc_235 (sh_CM d) 1 (And.intro (fun c => ?_) (fun c => ?_))
  · replace H := sh_okT c H
    show wq_235 d Q 8 [oR 12 0] [] (sh_E h)
    refine ai_WP_steps mc_235 (sh_CM d) 3 (And.intro (Nat.le_of_ble_eq_true rfl) (x_M_takesName N (Nat.le_trans (Nat.le_of_ble_eq_true rfl) hd) (1 : Int32) h (sh_okB H) (fun v3 h4 H => ?_)))
    show wq_235 d Q 13 [oR 12 0] [aI v3] (sh_E h4)
    refine ai_WP_steps mc_235 (sh_CM d) 1 (And.intro (fun c => ?_) (fun c => ?_))
    · replace H := sh_okT c H
      show wq_235 d Q 16 [oR 12 0] [] (sh_E h4)
      exact ai_WP_steps mc_235 (sh_CM d) 2 (hR (ai_nar 1 (0 : Int32)) h4 H)
    · replace H := sh_okF c H
      show wq_235 d Q 18 [oR 12 0] [] (sh_E h4)
      refine ai_WP_steps mc_235 (sh_CM d) 4 (And.intro (fun c => ?_) (fun c => ?_))
      · replace H := sh_okT c H
        show wq_235 d Q 26 [oR 12 0] [aR 12 0] (sh_E h4)
        refine ai_WP_steps mc_235 (sh_CM d) 2 ?_
        exact x_M_takesPlace_b36 N hd hR (-1 : Int32) h4 H
      · replace H := sh_okF c H
        show wq_235 d Q 30 [oR 12 0] [aR 12 0] (sh_E h4)
        refine ai_WP_steps mc_235 (sh_CM d) 4 ?_
        exact x_M_takesPlace_b36 N hd hR ((h4.1 12 0 19) + (1 : Int32)) h4 H
  · replace H := sh_okF c H
    show wq_235 d Q 41 [oR 12 0] [] (sh_E h)
    refine ai_WP_steps mc_235 (sh_CM d) 3 (And.intro trivial ?_)
    show wq_235 d Q 46 [oR 12 0] [] (sh_E (sh_pI h 12 0 19 (0 : Int32)))
    replace H := sh_okL H
    generalize sh_pI h 12 0 19 (0 : Int32) = h5 at H ⊢
    refine ai_WP_steps mc_235 (sh_CM d) 2 (And.intro (Nat.le_of_ble_eq_true rfl) (x_M_pass (Nat.le_trans (Nat.le_of_ble_eq_true rfl) hd) h5 (sh_okB H) (fun v6 h7 H => ?_)))
    show wq_235 d Q 50 [oR 12 0] [aI v6] (sh_E h7)
    exact ai_WP_steps mc_235 (sh_CM d) 1 (hR (ai_nar 1 v6) h7 H)
def f_M_takesSum (N : Nat)  (l1 : Int32) (h : sh_H) : Option (Int32 × sh_H) := (Option.bind (f_M_isSign (61 : Int32) h) (fun v1 => (if v1 = 0 then (sh_b2 (f_M_wrong (1 : Int32) h) (fun v2 h3 => (some ((ai_nar 1 v2), h3)))) else (sh_b2 (f_M_pass h) (fun v4 h5 => (if v4 = 0 then (some ((ai_nar 1 (0 : Int32)), h5)) else (sh_b2 (f_M_expr N h5) (fun v6 h7 => (if v6 = 0 then (some ((ai_nar 1 (0 : Int32)), h7)) else (Option.bind (f_M_tell l1 (h7.1 12 0 22) h7) (fun h8 => (Option.bind (f_M_told (10 : Int32) h8) (fun v9 => (Option.bind (f_M_tell (l1 + (1 : Int32)) v9 h8) (fun h10 => (some ((ai_nar 1 (1 : Int32)), h10)))))))))))))))))
theorem x_M_takesSum (N : Nat) {d : Nat} (hd : 5 ≤ d) (l1 : Int32) (h : sh_H) {Q : ai_Q} {R : Int32 × sh_H → Prop} (H : sh_ok (f_M_takesSum N l1 h) R) (hR : ∀ r h, R (r, h) → Q (some (aI r)) (sh_E h)) : ai_Ex sh_T d 236 [aR 12 0, aI l1] (sh_E h) Q := by
  obtain ⟨d, rfl⟩ : ∃ e, d = e + 1 := ⟨d - 1, by omega⟩
  replace hd : 4 ≤ d := by omega
  refine And.intro (Nat.le_of_ble_eq_true rfl) ?_
  show wq_236 d Q 0 [oR 12 0, oI l1] [] (sh_E h)
  refine ai_WP_steps mc_236 (sh_CM d) 3 (And.intro (Nat.le_of_ble_eq_true rfl) (x_M_isSign (Nat.le_trans (Nat.le_of_ble_eq_true rfl) hd) (61 : Int32) h (sh_okB H) (fun v1 H => ?_)))
  show wq_236 d Q 6 [oR 12 0, oI l1] [aI v1] (sh_E h)
  refine ai_WP_steps mc_236 (sh_CM d) 1 (And.intro (fun c => ?_) (fun c => ?_))
  · replace H := sh_okT c H
    show wq_236 d Q 9 [oR 12 0, oI l1] [] (sh_E h)
    refine ai_WP_steps mc_236 (sh_CM d) 3 (And.intro (Nat.le_of_ble_eq_true rfl) (x_M_wrong (Nat.le_trans (Nat.le_of_ble_eq_true rfl) hd) (1 : Int32) h (sh_okB H) (fun v2 h3 H => ?_)))
    show wq_236 d Q 14 [oR 12 0, oI l1] [aI v2] (sh_E h3)
    exact ai_WP_steps mc_236 (sh_CM d) 1 (hR (ai_nar 1 v2) h3 H)
  · replace H := sh_okF c H
    show wq_236 d Q 15 [oR 12 0, oI l1] [] (sh_E h)
    refine ai_WP_steps mc_236 (sh_CM d) 2 (And.intro (Nat.le_of_ble_eq_true rfl) (x_M_pass (Nat.le_trans (Nat.le_of_ble_eq_true rfl) hd) h (sh_okB H) (fun v4 h5 H => ?_)))
    show wq_236 d Q 19 [oR 12 0, oI l1] [aI v4] (sh_E h5)
    refine ai_WP_steps mc_236 (sh_CM d) 1 (And.intro (fun c => ?_) (fun c => ?_))
    · replace H := sh_okT c H
      show wq_236 d Q 29 [oR 12 0, oI l1] [] (sh_E h5)
      exact ai_WP_steps mc_236 (sh_CM d) 2 (hR (ai_nar 1 (0 : Int32)) h5 H)
    · replace H := sh_okF c H
      show wq_236 d Q 22 [oR 12 0, oI l1] [] (sh_E h5)
      refine ai_WP_steps mc_236 (sh_CM d) 2 (And.intro (Nat.le_of_ble_eq_true rfl) (x_M_expr N (Nat.le_trans (Nat.le_of_ble_eq_true rfl) hd) h5 (sh_okB H) (fun v6 h7 H => ?_)))
      show wq_236 d Q 26 [oR 12 0, oI l1] [aI v6] (sh_E h7)
      refine ai_WP_steps mc_236 (sh_CM d) 1 (And.intro (fun c => ?_) (fun c => ?_))
      · replace H := sh_okT c H
        show wq_236 d Q 29 [oR 12 0, oI l1] [] (sh_E h7)
        exact ai_WP_steps mc_236 (sh_CM d) 2 (hR (ai_nar 1 (0 : Int32)) h7 H)
      · replace H := sh_okF c H
        show wq_236 d Q 31 [oR 12 0, oI l1] [] (sh_E h7)
        refine ai_WP_steps mc_236 (sh_CM d) 5 (And.intro (Nat.le_of_ble_eq_true rfl) (x_M_tell (Nat.le_trans (Nat.le_of_ble_eq_true rfl) hd) l1 (h7.1 12 0 22) h7 (sh_okB H) (fun h8 H => ?_)))
        show wq_236 d Q 40 [oR 12 0, oI l1] [] (sh_E h8)
        refine ai_WP_steps mc_236 (sh_CM d) 7 (And.intro (Nat.le_of_ble_eq_true rfl) (x_M_told (Nat.le_trans (Nat.le_of_ble_eq_true rfl) hd) (10 : Int32) h8 (sh_okB H) (fun v9 H => ?_)))
        show wq_236 d Q 50 [oR 12 0, oI l1] [aI v9, aI (l1 + (1 : Int32)), aR 12 0] (sh_E h8)
        refine ai_WP_steps mc_236 (sh_CM d) 1 (And.intro (Nat.le_of_ble_eq_true rfl) (x_M_tell (Nat.le_trans (Nat.le_of_ble_eq_true rfl) hd) (l1 + (1 : Int32)) v9 h8 (sh_okB H) (fun h10 H => ?_)))
        show wq_236 d Q 53 [oR 12 0, oI l1] [] (sh_E h10)
        exact ai_WP_steps mc_236 (sh_CM d) 2 (hR (ai_nar 1 (1 : Int32)) h10 H)
def f_M_tellKind (N : Nat)   (h : sh_H) : Option (Int32 × sh_H) := (Option.bind (f_M_told (0 : Int32) h) (fun v1 => (if v1 = (6 : Int32) then (sh_b2 (f_M_wrong (2 : Int32) h) (fun v2 h3 => (some ((ai_nar 1 v2), h3)))) else (sh_b2 (f_M_pass h) (fun v4 h5 => (if v4 = 0 then (some ((ai_nar 1 (0 : Int32)), h5)) else (sh_b2 (f_M_names N (0 : Int32) v1 h5) (fun v6 h7 => (if v6 = 0 then (some ((ai_nar 1 (0 : Int32)), h7)) else (sh_b2 (f_M_takesInt (1 : Int32) (500 : Int32) h7) (fun v8 h9 => (if v8 = 0 then (some ((ai_nar 1 (0 : Int32)), h9)) else (Option.bind (f_M_tell ((20 : Int32) + ((3 : Int32) * v1)) (h9.1 12 0 19) h9) (fun h10 => (sh_b2 (f_M_takesInt (1 : Int32) (20 : Int32) h10) (fun v11 h12 => (if v11 = 0 then (some ((ai_nar 1 (0 : Int32)), h12)) else (Option.bind (f_M_tell (((20 : Int32) + ((3 : Int32) * v1)) + (1 : Int32)) (h12.1 12 0 19) h12) (fun h13 => (sh_b2 (f_M_takesInt (0 : Int32) (99 : Int32) h13) (fun v14 h15 => (if v14 = 0 then (some ((ai_nar 1 (0 : Int32)), h15)) else (Option.bind (f_M_tell (((20 : Int32) + ((3 : Int32) * v1)) + (2 : Int32)) (h15.1 12 0 19) h15) (fun h16 => (Option.bind (f_M_tell (0 : Int32) (v1 + (1 : Int32)) h16) (fun h17 => (some ((ai_nar 1 (1 : Int32)), h17))))))))))))))))))))))))))))
theorem x_M_tellKind (N : Nat) {d : Nat} (hd : 5 ≤ d)  (h : sh_H) {Q : ai_Q} {R : Int32 × sh_H → Prop} (H : sh_ok (f_M_tellKind N h) R) (hR : ∀ r h, R (r, h) → Q (some (aI r)) (sh_E h)) : ai_Ex sh_T d 237 [aR 12 0] (sh_E h) Q := by
  obtain ⟨d, rfl⟩ : ∃ e, d = e + 1 := ⟨d - 1, by omega⟩
  replace hd : 4 ≤ d := by omega
  refine And.intro (Nat.le_of_ble_eq_true rfl) ?_
  show wq_237 d Q 0 [oR 12 0, none, none] [] (sh_E h)
  refine ai_WP_steps mc_237 (sh_CM d) 3 (And.intro (Nat.le_of_ble_eq_true rfl) (x_M_told (Nat.le_trans (Nat.le_of_ble_eq_true rfl) hd) (0 : Int32) h (sh_okB H) (fun v1 H => ?_)))
  show wq_237 d Q 5 [oR 12 0, _, _] [aI v1] (sh_E h)
  refine ai_WP_steps mc_237 (sh_CM d) 4 (And.intro (fun c => ?_) (fun c => ?_))
  · replace H := sh_okT c H
    show wq_237 d Q 12 [oR 12 0, oI v1, _] [] (sh_E h)
    refine ai_WP_steps mc_237 (sh_CM d) 3 (And.intro (Nat.le_of_ble_eq_true rfl) (x_M_wrong (Nat.le_trans (Nat.le_of_ble_eq_true rfl) hd) (2 : Int32) h (sh_okB H) (fun v2 h3 H => ?_)))
    show wq_237 d Q 17 [oR 12 0, oI v1, _] [aI v2] (sh_E h3)
    exact ai_WP_steps mc_237 (sh_CM d) 1 (hR (ai_nar 1 v2) h3 H)
  · replace H := sh_okF c H
    show wq_237 d Q 18 [oR 12 0, oI v1, _] [] (sh_E h)
    refine ai_WP_steps mc_237 (sh_CM d) 2 (And.intro (Nat.le_of_ble_eq_true rfl) (x_M_pass (Nat.le_trans (Nat.le_of_ble_eq_true rfl) hd) h (sh_okB H) (fun v4 h5 H => ?_)))
    show wq_237 d Q 22 [oR 12 0, oI v1, _] [aI v4] (sh_E h5)
    refine ai_WP_steps mc_237 (sh_CM d) 1 (And.intro (fun c => ?_) (fun c => ?_))
    · replace H := sh_okT c H
      show wq_237 d Q 34 [oR 12 0, oI v1, _] [] (sh_E h5)
      exact ai_WP_steps mc_237 (sh_CM d) 2 (hR (ai_nar 1 (0 : Int32)) h5 H)
    · replace H := sh_okF c H
      show wq_237 d Q 25 [oR 12 0, oI v1, _] [] (sh_E h5)
      refine ai_WP_steps mc_237 (sh_CM d) 4 (And.intro (Nat.le_of_ble_eq_true rfl) (x_M_names N (Nat.le_trans (Nat.le_of_ble_eq_true rfl) hd) (0 : Int32) v1 h5 (sh_okB H) (fun v6 h7 H => ?_)))
      show wq_237 d Q 31 [oR 12 0, oI v1, _] [aI v6] (sh_E h7)
      refine ai_WP_steps mc_237 (sh_CM d) 1 (And.intro (fun c => ?_) (fun c => ?_))
      · replace H := sh_okT c H
        show wq_237 d Q 34 [oR 12 0, oI v1, _] [] (sh_E h7)
        exact ai_WP_steps mc_237 (sh_CM d) 2 (hR (ai_nar 1 (0 : Int32)) h7 H)
      · replace H := sh_okF c H
        show wq_237 d Q 36 [oR 12 0, oI v1, _] [] (sh_E h7)
        refine ai_WP_steps mc_237 (sh_CM d) 10 (And.intro (Nat.le_of_ble_eq_true rfl) (x_M_takesInt (Nat.le_trans (Nat.le_of_ble_eq_true rfl) hd) (1 : Int32) (500 : Int32) h7 (sh_okB H) (fun v8 h9 H => ?_)))
        show wq_237 d Q 51 [oR 12 0, oI v1, oI ((20 : Int32) + ((3 : Int32) * v1))] [aI v8] (sh_E h9)
        refine ai_WP_steps mc_237 (sh_CM d) 1 (And.intro (fun c => ?_) (fun c => ?_))
        · replace H := sh_okT c H
          show wq_237 d Q 54 [oR 12 0, oI v1, oI ((20 : Int32) + ((3 : Int32) * v1))] [] (sh_E h9)
          exact ai_WP_steps mc_237 (sh_CM d) 2 (hR (ai_nar 1 (0 : Int32)) h9 H)
        · replace H := sh_okF c H
          show wq_237 d Q 56 [oR 12 0, oI v1, oI ((20 : Int32) + ((3 : Int32) * v1))] [] (sh_E h9)
          refine ai_WP_steps mc_237 (sh_CM d) 5 (And.intro (Nat.le_of_ble_eq_true rfl) (x_M_tell (Nat.le_trans (Nat.le_of_ble_eq_true rfl) hd) ((20 : Int32) + ((3 : Int32) * v1)) (h9.1 12 0 19) h9 (sh_okB H) (fun h10 H => ?_)))
          show wq_237 d Q 65 [oR 12 0, oI v1, oI ((20 : Int32) + ((3 : Int32) * v1))] [] (sh_E h10)
          refine ai_WP_steps mc_237 (sh_CM d) 4 (And.intro (Nat.le_of_ble_eq_true rfl) (x_M_takesInt (Nat.le_trans (Nat.le_of_ble_eq_true rfl) hd) (1 : Int32) (20 : Int32) h10 (sh_okB H) (fun v11 h12 H => ?_)))
          show wq_237 d Q 72 [oR 12 0, oI v1, oI ((20 : Int32) + ((3 : Int32) * v1))] [aI v11] (sh_E h12)
          refine ai_WP_steps mc_237 (sh_CM d) 1 (And.intro (fun c => ?_) (fun c => ?_))
          · replace H := sh_okT c H
            show wq_237 d Q 75 [oR 12 0, oI v1, oI ((20 : Int32) + ((3 : Int32) * v1))] [] (sh_E h12)
            exact ai_WP_steps mc_237 (sh_CM d) 2 (hR (ai_nar 1 (0 : Int32)) h12 H)
          · replace H := sh_okF c H
            show wq_237 d Q 77 [oR 12 0, oI v1, oI ((20 : Int32) + ((3 : Int32) * v1))] [] (sh_E h12)
            refine ai_WP_steps mc_237 (sh_CM d) 7 (And.intro (Nat.le_of_ble_eq_true rfl) (x_M_tell (Nat.le_trans (Nat.le_of_ble_eq_true rfl) hd) (((20 : Int32) + ((3 : Int32) * v1)) + (1 : Int32)) (h12.1 12 0 19) h12 (sh_okB H) (fun h13 H => ?_)))
            show wq_237 d Q 88 [oR 12 0, oI v1, oI ((20 : Int32) + ((3 : Int32) * v1))] [] (sh_E h13)
            refine ai_WP_steps mc_237 (sh_CM d) 4 (And.intro (Nat.le_of_ble_eq_true rfl) (x_M_takesInt (Nat.le_trans (Nat.le_of_ble_eq_true rfl) hd) (0 : Int32) (99 : Int32) h13 (sh_okB H) (fun v14 h15 H => ?_)))
            show wq_237 d Q 95 [oR 12 0, oI v1, oI ((20 : Int32) + ((3 : Int32) * v1))] [aI v14] (sh_E h15)
            refine ai_WP_steps mc_237 (sh_CM d) 1 (And.intro (fun c => ?_) (fun c => ?_))
            · replace H := sh_okT c H
              show wq_237 d Q 98 [oR 12 0, oI v1, oI ((20 : Int32) + ((3 : Int32) * v1))] [] (sh_E h15)
              exact ai_WP_steps mc_237 (sh_CM d) 2 (hR (ai_nar 1 (0 : Int32)) h15 H)
            · replace H := sh_okF c H
              show wq_237 d Q 100 [oR 12 0, oI v1, oI ((20 : Int32) + ((3 : Int32) * v1))] [] (sh_E h15)
              refine ai_WP_steps mc_237 (sh_CM d) 7 (And.intro (Nat.le_of_ble_eq_true rfl) (x_M_tell (Nat.le_trans (Nat.le_of_ble_eq_true rfl) hd) (((20 : Int32) + ((3 : Int32) * v1)) + (2 : Int32)) (h15.1 12 0 19) h15 (sh_okB H) (fun h16 H => ?_)))
              show wq_237 d Q 111 [oR 12 0, oI v1, oI ((20 : Int32) + ((3 : Int32) * v1))] [] (sh_E h16)
              refine ai_WP_steps mc_237 (sh_CM d) 6 (And.intro (Nat.le_of_ble_eq_true rfl) (x_M_tell (Nat.le_trans (Nat.le_of_ble_eq_true rfl) hd) (0 : Int32) (v1 + (1 : Int32)) h16 (sh_okB H) (fun h17 H => ?_)))
              show wq_237 d Q 119 [oR 12 0, oI v1, oI ((20 : Int32) + ((3 : Int32) * v1))] [] (sh_E h17)
              exact ai_WP_steps mc_237 (sh_CM d) 2 (hR (ai_nar 1 (1 : Int32)) h17 H)
def f_M_tellIsland (N : Nat)   (h : sh_H) : Option (Int32 × sh_H) := (Option.bind (f_M_told (1 : Int32) h) (fun v1 => (if v1 = (4 : Int32) then (sh_b2 (f_M_wrong (2 : Int32) h) (fun v2 h3 => (some ((ai_nar 1 v2), h3)))) else (sh_b2 (f_M_pass h) (fun v4 h5 => (if v4 = 0 then (some ((ai_nar 1 (0 : Int32)), h5)) else (sh_b2 (f_M_names N (1 : Int32) v1 h5) (fun v6 h7 => (if v6 = 0 then (some ((ai_nar 1 (0 : Int32)), h7)) else (sh_b2 (f_M_takesInt (0 : Int32) (60 : Int32) h7) (fun v8 h9 => (if v8 = 0 then (some ((ai_nar 1 (0 : Int32)), h9)) else (Option.bind (f_M_tell ((40 : Int32) + ((2 : Int32) * v1)) (h9.1 12 0 19) h9) (fun h10 => (sh_b2 (f_M_takesInt (0 : Int32) (99 : Int32) h10) (fun v11 h12 => (if v11 = 0 then (some ((ai_nar 1 (0 : Int32)), h12)) else (Option.bind (f_M_tell (((40 : Int32) + ((2 : Int32) * v1)) + (1 : Int32)) (h12.1 12 0 19) h12) (fun h13 => (Option.bind (f_M_tell (1 : Int32) (v1 + (1 : Int32)) h13) (fun h14 => (some ((ai_nar 1 (1 : Int32)), h14)))))))))))))))))))))))
theorem x_M_tellIsland (N : Nat) {d : Nat} (hd : 5 ≤ d)  (h : sh_H) {Q : ai_Q} {R : Int32 × sh_H → Prop} (H : sh_ok (f_M_tellIsland N h) R) (hR : ∀ r h, R (r, h) → Q (some (aI r)) (sh_E h)) : ai_Ex sh_T d 238 [aR 12 0] (sh_E h) Q := by
  obtain ⟨d, rfl⟩ : ∃ e, d = e + 1 := ⟨d - 1, by omega⟩
  replace hd : 4 ≤ d := by omega
  refine And.intro (Nat.le_of_ble_eq_true rfl) ?_
  show wq_238 d Q 0 [oR 12 0, none] [] (sh_E h)
  refine ai_WP_steps mc_238 (sh_CM d) 3 (And.intro (Nat.le_of_ble_eq_true rfl) (x_M_told (Nat.le_trans (Nat.le_of_ble_eq_true rfl) hd) (1 : Int32) h (sh_okB H) (fun v1 H => ?_)))
  show wq_238 d Q 5 [oR 12 0, _] [aI v1] (sh_E h)
  refine ai_WP_steps mc_238 (sh_CM d) 4 (And.intro (fun c => ?_) (fun c => ?_))
  · replace H := sh_okT c H
    show wq_238 d Q 11 [oR 12 0, oI v1] [] (sh_E h)
    refine ai_WP_steps mc_238 (sh_CM d) 3 (And.intro (Nat.le_of_ble_eq_true rfl) (x_M_wrong (Nat.le_trans (Nat.le_of_ble_eq_true rfl) hd) (2 : Int32) h (sh_okB H) (fun v2 h3 H => ?_)))
    show wq_238 d Q 16 [oR 12 0, oI v1] [aI v2] (sh_E h3)
    exact ai_WP_steps mc_238 (sh_CM d) 1 (hR (ai_nar 1 v2) h3 H)
  · replace H := sh_okF c H
    show wq_238 d Q 17 [oR 12 0, oI v1] [] (sh_E h)
    refine ai_WP_steps mc_238 (sh_CM d) 2 (And.intro (Nat.le_of_ble_eq_true rfl) (x_M_pass (Nat.le_trans (Nat.le_of_ble_eq_true rfl) hd) h (sh_okB H) (fun v4 h5 H => ?_)))
    show wq_238 d Q 21 [oR 12 0, oI v1] [aI v4] (sh_E h5)
    refine ai_WP_steps mc_238 (sh_CM d) 1 (And.intro (fun c => ?_) (fun c => ?_))
    · replace H := sh_okT c H
      show wq_238 d Q 33 [oR 12 0, oI v1] [] (sh_E h5)
      exact ai_WP_steps mc_238 (sh_CM d) 2 (hR (ai_nar 1 (0 : Int32)) h5 H)
    · replace H := sh_okF c H
      show wq_238 d Q 24 [oR 12 0, oI v1] [] (sh_E h5)
      refine ai_WP_steps mc_238 (sh_CM d) 4 (And.intro (Nat.le_of_ble_eq_true rfl) (x_M_names N (Nat.le_trans (Nat.le_of_ble_eq_true rfl) hd) (1 : Int32) v1 h5 (sh_okB H) (fun v6 h7 H => ?_)))
      show wq_238 d Q 30 [oR 12 0, oI v1] [aI v6] (sh_E h7)
      refine ai_WP_steps mc_238 (sh_CM d) 1 (And.intro (fun c => ?_) (fun c => ?_))
      · replace H := sh_okT c H
        show wq_238 d Q 33 [oR 12 0, oI v1] [] (sh_E h7)
        exact ai_WP_steps mc_238 (sh_CM d) 2 (hR (ai_nar 1 (0 : Int32)) h7 H)
      · replace H := sh_okF c H
        show wq_238 d Q 35 [oR 12 0, oI v1] [] (sh_E h7)
        refine ai_WP_steps mc_238 (sh_CM d) 4 (And.intro (Nat.le_of_ble_eq_true rfl) (x_M_takesInt (Nat.le_trans (Nat.le_of_ble_eq_true rfl) hd) (0 : Int32) (60 : Int32) h7 (sh_okB H) (fun v8 h9 H => ?_)))
        show wq_238 d Q 42 [oR 12 0, oI v1] [aI v8] (sh_E h9)
        refine ai_WP_steps mc_238 (sh_CM d) 1 (And.intro (fun c => ?_) (fun c => ?_))
        · replace H := sh_okT c H
          show wq_238 d Q 45 [oR 12 0, oI v1] [] (sh_E h9)
          exact ai_WP_steps mc_238 (sh_CM d) 2 (hR (ai_nar 1 (0 : Int32)) h9 H)
        · replace H := sh_okF c H
          show wq_238 d Q 47 [oR 12 0, oI v1] [] (sh_E h9)
          refine ai_WP_steps mc_238 (sh_CM d) 9 (And.intro (Nat.le_of_ble_eq_true rfl) (x_M_tell (Nat.le_trans (Nat.le_of_ble_eq_true rfl) hd) ((40 : Int32) + ((2 : Int32) * v1)) (h9.1 12 0 19) h9 (sh_okB H) (fun h10 H => ?_)))
          show wq_238 d Q 61 [oR 12 0, oI v1] [] (sh_E h10)
          refine ai_WP_steps mc_238 (sh_CM d) 4 (And.intro (Nat.le_of_ble_eq_true rfl) (x_M_takesInt (Nat.le_trans (Nat.le_of_ble_eq_true rfl) hd) (0 : Int32) (99 : Int32) h10 (sh_okB H) (fun v11 h12 H => ?_)))
          show wq_238 d Q 68 [oR 12 0, oI v1] [aI v11] (sh_E h12)
          refine ai_WP_steps mc_238 (sh_CM d) 1 (And.intro (fun c => ?_) (fun c => ?_))
          · replace H := sh_okT c H
            show wq_238 d Q 71 [oR 12 0, oI v1] [] (sh_E h12)
            exact ai_WP_steps mc_238 (sh_CM d) 2 (hR (ai_nar 1 (0 : Int32)) h12 H)
          · replace H := sh_okF c H
            show wq_238 d Q 73 [oR 12 0, oI v1] [] (sh_E h12)
            refine ai_WP_steps mc_238 (sh_CM d) 11 (And.intro (Nat.le_of_ble_eq_true rfl) (x_M_tell (Nat.le_trans (Nat.le_of_ble_eq_true rfl) hd) (((40 : Int32) + ((2 : Int32) * v1)) + (1 : Int32)) (h12.1 12 0 19) h12 (sh_okB H) (fun h13 H => ?_)))
            show wq_238 d Q 89 [oR 12 0, oI v1] [] (sh_E h13)
            refine ai_WP_steps mc_238 (sh_CM d) 6 (And.intro (Nat.le_of_ble_eq_true rfl) (x_M_tell (Nat.le_trans (Nat.le_of_ble_eq_true rfl) hd) (1 : Int32) (v1 + (1 : Int32)) h13 (sh_okB H) (fun h14 H => ?_)))
            show wq_238 d Q 97 [oR 12 0, oI v1] [] (sh_E h14)
            exact ai_WP_steps mc_238 (sh_CM d) 2 (hR (ai_nar 1 (1 : Int32)) h14 H)
def f_M_tellWant (N : Nat)  (l1 : Int32) (l2 : Int32) (h : sh_H) : Option (Int32 × sh_H) := (Option.bind (f_M_told l1 h) (fun v1 => (if v1 = (12 : Int32) then (sh_b2 (f_M_wrong (2 : Int32) h) (fun v2 h3 => (some ((ai_nar 1 v2), h3)))) else (sh_b2 (f_M_pass h) (fun v4 h5 => (if v4 = 0 then (some ((ai_nar 1 (0 : Int32)), h5)) else (sh_b2 (f_M_takesName N (1 : Int32) h5) (fun v6 h7 => (if v6 = 0 then (some ((ai_nar 1 (0 : Int32)), h7)) else (Option.bind (f_M_tell (l2 + ((4 : Int32) * v1)) ((h7.1 12 0 19) + (1 : Int32)) h7) (fun h8 => (sh_b2 (f_M_takesName N (0 : Int32) h8) (fun v9 h10 => (if v9 = 0 then (some ((ai_nar 1 (0 : Int32)), h10)) else (Option.bind (f_M_tell ((l2 + ((4 : Int32) * v1)) + (1 : Int32)) (h10.1 12 0 19) h10) (fun h11 => (Option.bind (f_M_tell l1 (v1 + (1 : Int32)) h11) (fun h12 => (sh_b2 (f_M_takesSum N ((l2 + ((4 : Int32) * v1)) + (2 : Int32)) h12) (fun v13 h14 => (some ((ai_nar 1 v13), h14))))))))))))))))))))))
theorem x_M_tellWant (N : Nat) {d : Nat} (hd : 6 ≤ d) (l1 : Int32) (l2 : Int32) (h : sh_H) {Q : ai_Q} {R : Int32 × sh_H → Prop} (H : sh_ok (f_M_tellWant N l1 l2 h) R) (hR : ∀ r h, R (r, h) → Q (some (aI r)) (sh_E h)) : ai_Ex sh_T d 239 [aR 12 0, aI l1, aI l2] (sh_E h) Q := by
  obtain ⟨d, rfl⟩ : ∃ e, d = e + 1 := ⟨d - 1, by omega⟩
  replace hd : 5 ≤ d := by omega
  refine And.intro (Nat.le_of_ble_eq_true rfl) ?_
  show wq_239 d Q 0 [oR 12 0, oI l1, oI l2, none] [] (sh_E h)
  refine ai_WP_steps mc_239 (sh_CM d) 3 (And.intro (Nat.le_of_ble_eq_true rfl) (x_M_told (Nat.le_trans (Nat.le_of_ble_eq_true rfl) hd) l1 h (sh_okB H) (fun v1 H => ?_)))
  show wq_239 d Q 5 [oR 12 0, oI l1, oI l2, _] [aI v1] (sh_E h)
  refine ai_WP_steps mc_239 (sh_CM d) 4 (And.intro (fun c => ?_) (fun c => ?_))
  · replace H := sh_okT c H
    show wq_239 d Q 12 [oR 12 0, oI l1, oI l2, oI v1] [] (sh_E h)
    refine ai_WP_steps mc_239 (sh_CM d) 3 (And.intro (Nat.le_of_ble_eq_true rfl) (x_M_wrong (Nat.le_trans (Nat.le_of_ble_eq_true rfl) hd) (2 : Int32) h (sh_okB H) (fun v2 h3 H => ?_)))
    show wq_239 d Q 17 [oR 12 0, oI l1, oI l2, oI v1] [aI v2] (sh_E h3)
    exact ai_WP_steps mc_239 (sh_CM d) 1 (hR (ai_nar 1 v2) h3 H)
  · replace H := sh_okF c H
    show wq_239 d Q 18 [oR 12 0, oI l1, oI l2, oI v1] [] (sh_E h)
    refine ai_WP_steps mc_239 (sh_CM d) 2 (And.intro (Nat.le_of_ble_eq_true rfl) (x_M_pass (Nat.le_trans (Nat.le_of_ble_eq_true rfl) hd) h (sh_okB H) (fun v4 h5 H => ?_)))
    show wq_239 d Q 22 [oR 12 0, oI l1, oI l2, oI v1] [aI v4] (sh_E h5)
    refine ai_WP_steps mc_239 (sh_CM d) 1 (And.intro (fun c => ?_) (fun c => ?_))
    · replace H := sh_okT c H
      show wq_239 d Q 33 [oR 12 0, oI l1, oI l2, oI v1] [] (sh_E h5)
      exact ai_WP_steps mc_239 (sh_CM d) 2 (hR (ai_nar 1 (0 : Int32)) h5 H)
    · replace H := sh_okF c H
      show wq_239 d Q 25 [oR 12 0, oI l1, oI l2, oI v1] [] (sh_E h5)
      refine ai_WP_steps mc_239 (sh_CM d) 3 (And.intro (Nat.le_of_ble_eq_true rfl) (x_M_takesName N (Nat.le_trans (Nat.le_of_ble_eq_true rfl) hd) (1 : Int32) h5 (sh_okB H) (fun v6 h7 H => ?_)))
      show wq_239 d Q 30 [oR 12 0, oI l1, oI l2, oI v1] [aI v6] (sh_E h7)
      refine ai_WP_steps mc_239 (sh_CM d) 1 (And.intro (fun c => ?_) (fun c => ?_))
      · replace H := sh_okT c H
        show wq_239 d Q 33 [oR 12 0, oI l1, oI l2, oI v1] [] (sh_E h7)
        exact ai_WP_steps mc_239 (sh_CM d) 2 (hR (ai_nar 1 (0 : Int32)) h7 H)
      · replace H := sh_okF c H
        show wq_239 d Q 35 [oR 12 0, oI l1, oI l2, oI v1] [] (sh_E h7)
        refine ai_WP_steps mc_239 (sh_CM d) 11 (And.intro (Nat.le_of_ble_eq_true rfl) (x_M_tell (Nat.le_trans (Nat.le_of_ble_eq_true rfl) hd) (l2 + ((4 : Int32) * v1)) ((h7.1 12 0 19) + (1 : Int32)) h7 (sh_okB H) (fun h8 H => ?_)))
        show wq_239 d Q 50 [oR 12 0, oI l1, oI l2, oI v1] [] (sh_E h8)
        refine ai_WP_steps mc_239 (sh_CM d) 3 (And.intro (Nat.le_of_ble_eq_true rfl) (x_M_takesName N (Nat.le_trans (Nat.le_of_ble_eq_true rfl) hd) (0 : Int32) h8 (sh_okB H) (fun v9 h10 H => ?_)))
        show wq_239 d Q 55 [oR 12 0, oI l1, oI l2, oI v1] [aI v9] (sh_E h10)
        refine ai_WP_steps mc_239 (sh_CM d) 1 (And.intro (fun c => ?_) (fun c => ?_))
        · replace H := sh_okT c H
          show wq_239 d Q 58 [oR 12 0, oI l1, oI l2, oI v1] [] (sh_E h10)
          exact ai_WP_steps mc_239 (sh_CM d) 2 (hR (ai_nar 1 (0 : Int32)) h10 H)
        · replace H := sh_okF c H
          show wq_239 d Q 60 [oR 12 0, oI l1, oI l2, oI v1] [] (sh_E h10)
          refine ai_WP_steps mc_239 (sh_CM d) 11 (And.intro (Nat.le_of_ble_eq_true rfl) (x_M_tell (Nat.le_trans (Nat.le_of_ble_eq_true rfl) hd) ((l2 + ((4 : Int32) * v1)) + (1 : Int32)) (h10.1 12 0 19) h10 (sh_okB H) (fun h11 H => ?_)))
          show wq_239 d Q 75 [oR 12 0, oI l1, oI l2, oI v1] [] (sh_E h11)
          refine ai_WP_steps mc_239 (sh_CM d) 6 (And.intro (Nat.le_of_ble_eq_true rfl) (x_M_tell (Nat.le_trans (Nat.le_of_ble_eq_true rfl) hd) l1 (v1 + (1 : Int32)) h11 (sh_okB H) (fun h12 H => ?_)))
          show wq_239 d Q 83 [oR 12 0, oI l1, oI l2, oI v1] [] (sh_E h12)
          refine ai_WP_steps mc_239 (sh_CM d) 9 (And.intro (Nat.le_of_ble_eq_true rfl) (x_M_takesSum N (Nat.le_trans (Nat.le_of_ble_eq_true rfl) hd) ((l2 + ((4 : Int32) * v1)) + (2 : Int32)) h12 (sh_okB H) (fun v13 h14 H => ?_)))
          show wq_239 d Q 94 [oR 12 0, oI l1, oI l2, oI v1] [aI v13] (sh_E h14)
          exact ai_WP_steps mc_239 (sh_CM d) 1 (hR (ai_nar 1 v13) h14 H)
def f_M_tellFlow_b101 (N : Nat)   (l1 : Int32) (l2 : Int32) (h : sh_H) : Option (Int32 × sh_H) := (sh_b2 (f_M_takesName N (0 : Int32) h) (fun v1 h2 => (if v1 = 0 then (some ((ai_nar 1 (0 : Int32)), h2)) else (Option.bind (f_M_tell (l2 + (2 : Int32)) (h2.1 12 0 19) h2) (fun h3 => (Option.bind (f_M_tell (4 : Int32) (l1 + (1 : Int32)) h3) (fun h4 => (sh_b2 (f_M_takesSum N (l2 + (3 : Int32)) h4) (fun v5 h6 => (some ((ai_nar 1 v5), h6)))))))))))
theorem x_M_tellFlow_b101 (N : Nat) {d : Nat} (hd : 5 ≤ d) {Q : ai_Q} {R : Int32 × sh_H → Prop} (hR : ∀ r h, R (r, h) → Q (some (aI r)) (sh_E h))   (l1 : Int32) (l2 : Int32) {d3 : Option ai_V} (h : sh_H) (H : sh_ok (f_M_tellFlow_b101 N l1 l2 h) R) : wq_240 d Q 101 [oR 12 0, oI l1, oI l2, d3] [] (sh_E h) := by
  refine ai_WP_steps mc_240 (sh_CM d) 3 (And.intro (Nat.le_of_ble_eq_true rfl) (x_M_takesName N (Nat.le_trans (Nat.le_of_ble_eq_true rfl) hd) (0 : Int32) h (sh_okB H) (fun v1 h2 H => ?_)))
  show wq_240 d Q 106 [oR 12 0, oI l1, oI l2, _] [aI v1] (sh_E h2)
  refine ai_WP_steps mc_240 (sh_CM d) 1 (And.intro (fun c => ?_) (fun c => ?_))
  · replace H := sh_okT c H
    show wq_240 d Q 109 [oR 12 0, oI l1, oI l2, _] [] (sh_E h2)
    exact ai_WP_steps mc_240 (sh_CM d) 2 (hR (ai_nar 1 (0 : Int32)) h2 H)
  · replace H := sh_okF c H
    show wq_240 d Q 111 [oR 12 0, oI l1, oI l2, _] [] (sh_E h2)
    refine ai_WP_steps mc_240 (sh_CM d) 7 (And.intro (Nat.le_of_ble_eq_true rfl) (x_M_tell (Nat.le_trans (Nat.le_of_ble_eq_true rfl) hd) (l2 + (2 : Int32)) (h2.1 12 0 19) h2 (sh_okB H) (fun h3 H => ?_)))
    show wq_240 d Q 122 [oR 12 0, oI l1, oI l2, _] [] (sh_E h3)
    refine ai_WP_steps mc_240 (sh_CM d) 6 (And.intro (Nat.le_of_ble_eq_true rfl) (x_M_tell (Nat.le_trans (Nat.le_of_ble_eq_true rfl) hd) (4 : Int32) (l1 + (1 : Int32)) h3 (sh_okB H) (fun h4 H => ?_)))
    show wq_240 d Q 130 [oR 12 0, oI l1, oI l2, _] [] (sh_E h4)
    refine ai_WP_steps mc_240 (sh_CM d) 5 (And.intro (Nat.le_of_ble_eq_true rfl) (x_M_takesSum N (Nat.le_trans (Nat.le_of_ble_eq_true rfl) hd) (l2 + (3 : Int32)) h4 (sh_okB H) (fun v5 h6 H => ?_)))
    show wq_240 d Q 137 [oR 12 0, oI l1, oI l2, _] [aI v5] (sh_E h6)
    exact ai_WP_steps mc_240 (sh_CM d) 1 (hR (ai_nar 1 v5) h6 H)
def f_M_tellFlow (N : Nat)   (h : sh_H) : Option (Int32 × sh_H) := (Option.bind (f_M_told (4 : Int32) h) (fun v7 => (if v7 = (12 : Int32) then (sh_b2 (f_M_wrong (2 : Int32) h) (fun v8 h9 => (some ((ai_nar 1 v8), h9)))) else (sh_b2 (f_M_pass h) (fun v10 h11 => (if v10 = 0 then (some ((ai_nar 1 (0 : Int32)), h11)) else (sh_b2 (f_M_takesPlace N h11) (fun v12 h13 => (if v12 = 0 then (some ((ai_nar 1 (0 : Int32)), h13)) else (Option.bind (f_M_tell ((150 : Int32) + ((5 : Int32) * v7)) (h13.1 12 0 19) h13) (fun h14 => (sh_b2 (f_M_takesPlace N h14) (fun v15 h16 => (if v15 = 0 then (some ((ai_nar 1 (0 : Int32)), h16)) else (Option.bind (f_M_tell (((150 : Int32) + ((5 : Int32) * v7)) + (1 : Int32)) (h16.1 12 0 19) h16) (fun h17 => (if (h17.1 12 0 19) < 0 then f_M_tellFlow_b101 N v7 ((150 : Int32) + ((5 : Int32) * v7)) h17 else (Option.bind (f_M_told ((150 : Int32) + ((5 : Int32) * v7)) h17) (fun v18 => (if v18 = (h17.1 12 0 19) then (Option.bind (f_M_tells (5 : Int32) (h14.1 12 0 7) h17) (fun h19 => f_M_tellFlow_b101 N v7 ((150 : Int32) + ((5 : Int32) * v7)) h19)) else f_M_tellFlow_b101 N v7 ((150 : Int32) + ((5 : Int32) * v7)) h17))))))))))))))))))))
theorem x_M_tellFlow (N : Nat) {d : Nat} (hd : 6 ≤ d)  (h : sh_H) {Q : ai_Q} {R : Int32 × sh_H → Prop} (H : sh_ok (f_M_tellFlow N h) R) (hR : ∀ r h, R (r, h) → Q (some (aI r)) (sh_E h)) : ai_Ex sh_T d 240 [aR 12 0] (sh_E h) Q := by
  obtain ⟨d, rfl⟩ : ∃ e, d = e + 1 := ⟨d - 1, by omega⟩
  replace hd : 5 ≤ d := by omega
  refine And.intro (Nat.le_of_ble_eq_true rfl) ?_
  show wq_240 d Q 0 [oR 12 0, none, none, none] [] (sh_E h)
  refine ai_WP_steps mc_240 (sh_CM d) 3 (And.intro (Nat.le_of_ble_eq_true rfl) (x_M_told (Nat.le_trans (Nat.le_of_ble_eq_true rfl) hd) (4 : Int32) h (sh_okB H) (fun v7 H => ?_)))
  show wq_240 d Q 5 [oR 12 0, _, _, _] [aI v7] (sh_E h)
  refine ai_WP_steps mc_240 (sh_CM d) 4 (And.intro (fun c => ?_) (fun c => ?_))
  · replace H := sh_okT c H
    show wq_240 d Q 12 [oR 12 0, oI v7, _, _] [] (sh_E h)
    refine ai_WP_steps mc_240 (sh_CM d) 3 (And.intro (Nat.le_of_ble_eq_true rfl) (x_M_wrong (Nat.le_trans (Nat.le_of_ble_eq_true rfl) hd) (2 : Int32) h (sh_okB H) (fun v8 h9 H => ?_)))
    show wq_240 d Q 17 [oR 12 0, oI v7, _, _] [aI v8] (sh_E h9)
    exact ai_WP_steps mc_240 (sh_CM d) 1 (hR (ai_nar 1 v8) h9 H)
  · replace H := sh_okF c H
    show wq_240 d Q 18 [oR 12 0, oI v7, _, _] [] (sh_E h)
    refine ai_WP_steps mc_240 (sh_CM d) 8 (And.intro (Nat.le_of_ble_eq_true rfl) (x_M_pass (Nat.le_trans (Nat.le_of_ble_eq_true rfl) hd) h (sh_okB H) (fun v10 h11 H => ?_)))
    show wq_240 d Q 30 [oR 12 0, oI v7, oI ((150 : Int32) + ((5 : Int32) * v7)), _] [aI v10] (sh_E h11)
    refine ai_WP_steps mc_240 (sh_CM d) 1 (And.intro (fun c => ?_) (fun c => ?_))
    · replace H := sh_okT c H
      show wq_240 d Q 40 [oR 12 0, oI v7, oI ((150 : Int32) + ((5 : Int32) * v7)), _] [] (sh_E h11)
      exact ai_WP_steps mc_240 (sh_CM d) 2 (hR (ai_nar 1 (0 : Int32)) h11 H)
    · replace H := sh_okF c H
      show wq_240 d Q 33 [oR 12 0, oI v7, oI ((150 : Int32) + ((5 : Int32) * v7)), _] [] (sh_E h11)
      refine ai_WP_steps mc_240 (sh_CM d) 2 (And.intro (Nat.le_of_ble_eq_true rfl) (x_M_takesPlace N (Nat.le_trans (Nat.le_of_ble_eq_true rfl) hd) h11 (sh_okB H) (fun v12 h13 H => ?_)))
      show wq_240 d Q 37 [oR 12 0, oI v7, oI ((150 : Int32) + ((5 : Int32) * v7)), _] [aI v12] (sh_E h13)
      refine ai_WP_steps mc_240 (sh_CM d) 1 (And.intro (fun c => ?_) (fun c => ?_))
      · replace H := sh_okT c H
        show wq_240 d Q 40 [oR 12 0, oI v7, oI ((150 : Int32) + ((5 : Int32) * v7)), _] [] (sh_E h13)
        exact ai_WP_steps mc_240 (sh_CM d) 2 (hR (ai_nar 1 (0 : Int32)) h13 H)
      · replace H := sh_okF c H
        show wq_240 d Q 42 [oR 12 0, oI v7, oI ((150 : Int32) + ((5 : Int32) * v7)), _] [] (sh_E h13)
        refine ai_WP_steps mc_240 (sh_CM d) 5 (And.intro (Nat.le_of_ble_eq_true rfl) (x_M_tell (Nat.le_trans (Nat.le_of_ble_eq_true rfl) hd) ((150 : Int32) + ((5 : Int32) * v7)) (h13.1 12 0 19) h13 (sh_okB H) (fun h14 H => ?_)))
        show wq_240 d Q 51 [oR 12 0, oI v7, oI ((150 : Int32) + ((5 : Int32) * v7)), _] [] (sh_E h14)
        refine ai_WP_steps mc_240 (sh_CM d) 5 (And.intro (Nat.le_of_ble_eq_true rfl) (x_M_takesPlace N (Nat.le_trans (Nat.le_of_ble_eq_true rfl) hd) h14 (sh_okB H) (fun v15 h16 H => ?_)))
        show wq_240 d Q 60 [oR 12 0, oI v7, oI ((150 : Int32) + ((5 : Int32) * v7)), oI (h14.1 12 0 7)] [aI v15] (sh_E h16)
        refine ai_WP_steps mc_240 (sh_CM d) 1 (And.intro (fun c => ?_) (fun c => ?_))
        · replace H := sh_okT c H
          show wq_240 d Q 63 [oR 12 0, oI v7, oI ((150 : Int32) + ((5 : Int32) * v7)), oI (h14.1 12 0 7)] [] (sh_E h16)
          exact ai_WP_steps mc_240 (sh_CM d) 2 (hR (ai_nar 1 (0 : Int32)) h16 H)
        · replace H := sh_okF c H
          show wq_240 d Q 65 [oR 12 0, oI v7, oI ((150 : Int32) + ((5 : Int32) * v7)), oI (h14.1 12 0 7)] [] (sh_E h16)
          refine ai_WP_steps mc_240 (sh_CM d) 7 (And.intro (Nat.le_of_ble_eq_true rfl) (x_M_tell (Nat.le_trans (Nat.le_of_ble_eq_true rfl) hd) (((150 : Int32) + ((5 : Int32) * v7)) + (1 : Int32)) (h16.1 12 0 19) h16 (sh_okB H) (fun h17 H => ?_)))
          show wq_240 d Q 76 [oR 12 0, oI v7, oI ((150 : Int32) + ((5 : Int32) * v7)), oI (h14.1 12 0 7)] [] (sh_E h17)
          refine ai_WP_steps mc_240 (sh_CM d) 3 (And.intro (fun c => ?_) (fun c => ?_))
          · replace H := sh_okT c H
            exact x_M_tellFlow_b101 N hd hR v7 ((150 : Int32) + ((5 : Int32) * v7)) h17 H
          · replace H := sh_okF c H
            show wq_240 d Q 83 [oR 12 0, oI v7, oI ((150 : Int32) + ((5 : Int32) * v7)), oI (h14.1 12 0 7)] [] (sh_E h17)
            refine ai_WP_steps mc_240 (sh_CM d) 3 (And.intro (Nat.le_of_ble_eq_true rfl) (x_M_told (Nat.le_trans (Nat.le_of_ble_eq_true rfl) hd) ((150 : Int32) + ((5 : Int32) * v7)) h17 (sh_okB H) (fun v18 H => ?_)))
            show wq_240 d Q 88 [oR 12 0, oI v7, oI ((150 : Int32) + ((5 : Int32) * v7)), oI (h14.1 12 0 7)] [aI v18] (sh_E h17)
            refine ai_WP_steps mc_240 (sh_CM d) 3 (And.intro (fun c => ?_) (fun c => ?_))
            · replace H := sh_okT c H
              show wq_240 d Q 95 [oR 12 0, oI v7, oI ((150 : Int32) + ((5 : Int32) * v7)), oI (h14.1 12 0 7)] [] (sh_E h17)
              refine ai_WP_steps mc_240 (sh_CM d) 4 (And.intro (Nat.le_of_ble_eq_true rfl) (x_M_tells (Nat.le_trans (Nat.le_of_ble_eq_true rfl) hd) (5 : Int32) (h14.1 12 0 7) h17 (sh_okB H) (fun h19 H => ?_)))
              show wq_240 d Q 101 [oR 12 0, oI v7, oI ((150 : Int32) + ((5 : Int32) * v7)), oI (h14.1 12 0 7)] [] (sh_E h19)
              exact x_M_tellFlow_b101 N hd hR v7 ((150 : Int32) + ((5 : Int32) * v7)) h19 H
            · replace H := sh_okF c H
              exact x_M_tellFlow_b101 N hd hR v7 ((150 : Int32) + ((5 : Int32) * v7)) h17 H
def f_M_tellWear (N : Nat)   (h : sh_H) : Option (Int32 × sh_H) := (Option.bind (f_M_told (5 : Int32) h) (fun v1 => (if v1 = (12 : Int32) then (sh_b2 (f_M_wrong (2 : Int32) h) (fun v2 h3 => (some ((ai_nar 1 v2), h3)))) else (sh_b2 (f_M_pass h) (fun v4 h5 => (if v4 = 0 then (some ((ai_nar 1 (0 : Int32)), h5)) else (sh_b2 (f_M_takesName N (0 : Int32) h5) (fun v6 h7 => (if v6 = 0 then (some ((ai_nar 1 (0 : Int32)), h7)) else (Option.bind (f_M_tell ((210 : Int32) + ((3 : Int32) * v1)) (h7.1 12 0 19) h7) (fun h8 => (Option.bind (f_M_tell (5 : Int32) (v1 + (1 : Int32)) h8) (fun h9 => (sh_b2 (f_M_takesSum N (((210 : Int32) + ((3 : Int32) * v1)) + (1 : Int32)) h9) (fun v10 h11 => (some ((ai_nar 1 v10), h11)))))))))))))))))
theorem x_M_tellWear (N : Nat) {d : Nat} (hd : 6 ≤ d)  (h : sh_H) {Q : ai_Q} {R : Int32 × sh_H → Prop} (H : sh_ok (f_M_tellWear N h) R) (hR : ∀ r h, R (r, h) → Q (some (aI r)) (sh_E h)) : ai_Ex sh_T d 241 [aR 12 0] (sh_E h) Q := by
  obtain ⟨d, rfl⟩ : ∃ e, d = e + 1 := ⟨d - 1, by omega⟩
  replace hd : 5 ≤ d := by omega
  refine And.intro (Nat.le_of_ble_eq_true rfl) ?_
  show wq_241 d Q 0 [oR 12 0, none] [] (sh_E h)
  refine ai_WP_steps mc_241 (sh_CM d) 3 (And.intro (Nat.le_of_ble_eq_true rfl) (x_M_told (Nat.le_trans (Nat.le_of_ble_eq_true rfl) hd) (5 : Int32) h (sh_okB H) (fun v1 H => ?_)))
  show wq_241 d Q 5 [oR 12 0, _] [aI v1] (sh_E h)
  refine ai_WP_steps mc_241 (sh_CM d) 4 (And.intro (fun c => ?_) (fun c => ?_))
  · replace H := sh_okT c H
    show wq_241 d Q 12 [oR 12 0, oI v1] [] (sh_E h)
    refine ai_WP_steps mc_241 (sh_CM d) 3 (And.intro (Nat.le_of_ble_eq_true rfl) (x_M_wrong (Nat.le_trans (Nat.le_of_ble_eq_true rfl) hd) (2 : Int32) h (sh_okB H) (fun v2 h3 H => ?_)))
    show wq_241 d Q 17 [oR 12 0, oI v1] [aI v2] (sh_E h3)
    exact ai_WP_steps mc_241 (sh_CM d) 1 (hR (ai_nar 1 v2) h3 H)
  · replace H := sh_okF c H
    show wq_241 d Q 18 [oR 12 0, oI v1] [] (sh_E h)
    refine ai_WP_steps mc_241 (sh_CM d) 2 (And.intro (Nat.le_of_ble_eq_true rfl) (x_M_pass (Nat.le_trans (Nat.le_of_ble_eq_true rfl) hd) h (sh_okB H) (fun v4 h5 H => ?_)))
    show wq_241 d Q 22 [oR 12 0, oI v1] [aI v4] (sh_E h5)
    refine ai_WP_steps mc_241 (sh_CM d) 1 (And.intro (fun c => ?_) (fun c => ?_))
    · replace H := sh_okT c H
      show wq_241 d Q 33 [oR 12 0, oI v1] [] (sh_E h5)
      exact ai_WP_steps mc_241 (sh_CM d) 2 (hR (ai_nar 1 (0 : Int32)) h5 H)
    · replace H := sh_okF c H
      show wq_241 d Q 25 [oR 12 0, oI v1] [] (sh_E h5)
      refine ai_WP_steps mc_241 (sh_CM d) 3 (And.intro (Nat.le_of_ble_eq_true rfl) (x_M_takesName N (Nat.le_trans (Nat.le_of_ble_eq_true rfl) hd) (0 : Int32) h5 (sh_okB H) (fun v6 h7 H => ?_)))
      show wq_241 d Q 30 [oR 12 0, oI v1] [aI v6] (sh_E h7)
      refine ai_WP_steps mc_241 (sh_CM d) 1 (And.intro (fun c => ?_) (fun c => ?_))
      · replace H := sh_okT c H
        show wq_241 d Q 33 [oR 12 0, oI v1] [] (sh_E h7)
        exact ai_WP_steps mc_241 (sh_CM d) 2 (hR (ai_nar 1 (0 : Int32)) h7 H)
      · replace H := sh_okF c H
        show wq_241 d Q 35 [oR 12 0, oI v1] [] (sh_E h7)
        refine ai_WP_steps mc_241 (sh_CM d) 9 (And.intro (Nat.le_of_ble_eq_true rfl) (x_M_tell (Nat.le_trans (Nat.le_of_ble_eq_true rfl) hd) ((210 : Int32) + ((3 : Int32) * v1)) (h7.1 12 0 19) h7 (sh_okB H) (fun h8 H => ?_)))
        show wq_241 d Q 50 [oR 12 0, oI v1] [] (sh_E h8)
        refine ai_WP_steps mc_241 (sh_CM d) 6 (And.intro (Nat.le_of_ble_eq_true rfl) (x_M_tell (Nat.le_trans (Nat.le_of_ble_eq_true rfl) hd) (5 : Int32) (v1 + (1 : Int32)) h8 (sh_okB H) (fun h9 H => ?_)))
        show wq_241 d Q 58 [oR 12 0, oI v1] [] (sh_E h9)
        refine ai_WP_steps mc_241 (sh_CM d) 9 (And.intro (Nat.le_of_ble_eq_true rfl) (x_M_takesSum N (Nat.le_trans (Nat.le_of_ble_eq_true rfl) hd) (((210 : Int32) + ((3 : Int32) * v1)) + (1 : Int32)) h9 (sh_okB H) (fun v10 h11 H => ?_)))
        show wq_241 d Q 71 [oR 12 0, oI v1] [aI v10] (sh_E h11)
        exact ai_WP_steps mc_241 (sh_CM d) 1 (hR (ai_nar 1 v10) h11 H)
def f_M_tellBoat_b147 (N : Nat)  (k86 : Int32 → Int32 → Int32 → Int32 → sh_H → Option (Int32 × sh_H)) (l1 : Int32) (l2 : Int32) (l3 : Int32) (l4 : Int32) (h : sh_H) : Option (Int32 × sh_H) := k86 l1 l2 l3 (l4 + (1 : Int32)) h
theorem x_M_tellBoat_b147 (N : Nat) {d : Nat} (hd : 4 ≤ d) {Q : ai_Q} {R : Int32 × sh_H → Prop} (hR : ∀ r h, R (r, h) → Q (some (aI r)) (sh_E h))  (k86 : Int32 → Int32 → Int32 → Int32 → sh_H → Option (Int32 × sh_H)) (hk86 : ∀ (l1 : Int32) (l2 : Int32) (l3 : Int32) (l4 : Int32) (h : sh_H), sh_ok (k86 l1 l2 l3 l4 h) R → wq_242 d Q 86 [oR 12 0, oI l1, oI l2, oI l3, oI l4] [] (sh_E h)) (l1 : Int32) (l2 : Int32) (l3 : Int32) (l4 : Int32) (h : sh_H) (H : sh_ok (f_M_tellBoat_b147 N k86 l1 l2 l3 l4 h) R) : wq_242 d Q 147 [oR 12 0, oI l1, oI l2, oI l3, oI l4] [] (sh_E h) := by
  refine ai_WP_steps mc_242 (sh_CM d) 2 ?_
  exact hk86 l1 l2 l3 (l4 + (1 : Int32)) h H
def f_M_tellBoat_c86 (N : Nat)  (k153 : Int32 → Int32 → sh_H → Option (Int32 × sh_H)) (k86 : Int32 → Int32 → Int32 → Int32 → sh_H → Option (Int32 × sh_H)) (l1 : Int32) (l2 : Int32) (l3 : Int32) (l4 : Int32) (h : sh_H) : Option (Int32 × sh_H) := (if l4 < l1 then (Option.bind (f_M_told l2 h) (fun v1 => (if 0 < v1 then (Option.bind (f_M_told ((250 : Int32) + ((5 : Int32) * l4)) h) (fun v2 => (Option.bind (f_M_told l2 h) (fun v3 => (if v2 = v3 then (Option.bind (f_M_told (((250 : Int32) + ((5 : Int32) * l4)) + (1 : Int32)) h) (fun v4 => (if v4 = (h.1 12 0 19) then (Option.bind (f_M_tells (3 : Int32) l3 h) (fun h5 => f_M_tellBoat_b147 N k86 l1 l2 l3 l4 h5)) else f_M_tellBoat_b147 N k86 l1 l2 l3 l4 h))) else f_M_tellBoat_b147 N k86 l1 l2 l3 l4 h))))) else f_M_tellBoat_b147 N k86 l1 l2 l3 l4 h))) else k153 l1 l2 h)
def f_M_tellBoat_l86 (N : Nat)  (k153 : Int32 → Int32 → sh_H → Option (Int32 × sh_H)) (n : Nat) : Int32 → Int32 → Int32 → Int32 → sh_H → Option (Int32 × sh_H) := Nat.rec (motive := fun _ => Int32 → Int32 → Int32 → Int32 → sh_H → Option (Int32 × sh_H)) (fun _ _ _ _ _ => none) (fun _ k86 => f_M_tellBoat_c86 N k153 k86) n
theorem x_M_tellBoat_l86 (N : Nat) {d : Nat} (hd : 4 ≤ d) {Q : ai_Q} {R : Int32 × sh_H → Prop} (hR : ∀ r h, R (r, h) → Q (some (aI r)) (sh_E h))  (k153 : Int32 → Int32 → sh_H → Option (Int32 × sh_H)) (hk153 : ∀ (l1 : Int32) (l2 : Int32) {d3 d4 : Option ai_V} (h : sh_H), sh_ok (k153 l1 l2 h) R → wq_242 d Q 153 [oR 12 0, oI l1, oI l2, d3, d4] [] (sh_E h)) (n : Nat) : ∀ (l1 : Int32) (l2 : Int32) (l3 : Int32) (l4 : Int32) (h : sh_H), sh_ok (f_M_tellBoat_l86 N k153 n l1 l2 l3 l4 h) R → wq_242 d Q 86 [oR 12 0, oI l1, oI l2, oI l3, oI l4] [] (sh_E h) := by
  induction n with
  | zero => intro l1 l2 l3 l4 h H; exact H.elim
  | succ n ih =>
    intro l1 l2 l3 l4 h H
    have hk86 := @ih
    replace H : sh_ok (f_M_tellBoat_c86 N k153 (f_M_tellBoat_l86 N k153 n) l1 l2 l3 l4 h) R := H
    revert hk86 H
    generalize f_M_tellBoat_l86 N k153 n = k86
    intro hk86 H
    refine ai_WP_steps mc_242 (sh_CM d) 3 (And.intro (fun c => ?_) (fun c => ?_))
    · replace H := sh_okT c H
      show wq_242 d Q 92 [oR 12 0, oI l1, oI l2, oI l3, oI l4] [] (sh_E h)
      refine ai_WP_steps mc_242 (sh_CM d) 3 (And.intro (Nat.le_of_ble_eq_true rfl) (x_M_told (Nat.le_trans (Nat.le_of_ble_eq_true rfl) hd) l2 h (sh_okB H) (fun v1 H => ?_)))
      show wq_242 d Q 97 [oR 12 0, oI l1, oI l2, oI l3, oI l4] [aI v1] (sh_E h)
      refine ai_WP_steps mc_242 (sh_CM d) 1 (And.intro (fun c => ?_) (fun c => ?_))
      · replace H := sh_okT c H
        show wq_242 d Q 100 [oR 12 0, oI l1, oI l2, oI l3, oI l4] [] (sh_E h)
        refine ai_WP_steps mc_242 (sh_CM d) 7 (And.intro (Nat.le_of_ble_eq_true rfl) (x_M_told (Nat.le_trans (Nat.le_of_ble_eq_true rfl) hd) ((250 : Int32) + ((5 : Int32) * l4)) h (sh_okB H) (fun v2 H => ?_)))
        show wq_242 d Q 112 [oR 12 0, oI l1, oI l2, oI l3, oI l4] [aI v2] (sh_E h)
        refine ai_WP_steps mc_242 (sh_CM d) 3 (And.intro (Nat.le_of_ble_eq_true rfl) (x_M_told (Nat.le_trans (Nat.le_of_ble_eq_true rfl) hd) l2 h (sh_okB H) (fun v3 H => ?_)))
        show wq_242 d Q 117 [oR 12 0, oI l1, oI l2, oI l3, oI l4] [aI v3, aI v2] (sh_E h)
        refine ai_WP_steps mc_242 (sh_CM d) 1 (And.intro (fun c => ?_) (fun c => ?_))
        · replace H := sh_okT c H
          show wq_242 d Q 120 [oR 12 0, oI l1, oI l2, oI l3, oI l4] [] (sh_E h)
          refine ai_WP_steps mc_242 (sh_CM d) 9 (And.intro (Nat.le_of_ble_eq_true rfl) (x_M_told (Nat.le_trans (Nat.le_of_ble_eq_true rfl) hd) (((250 : Int32) + ((5 : Int32) * l4)) + (1 : Int32)) h (sh_okB H) (fun v4 H => ?_)))
          show wq_242 d Q 134 [oR 12 0, oI l1, oI l2, oI l3, oI l4] [aI v4] (sh_E h)
          refine ai_WP_steps mc_242 (sh_CM d) 3 (And.intro (fun c => ?_) (fun c => ?_))
          · replace H := sh_okT c H
            show wq_242 d Q 141 [oR 12 0, oI l1, oI l2, oI l3, oI l4] [] (sh_E h)
            refine ai_WP_steps mc_242 (sh_CM d) 4 (And.intro (Nat.le_of_ble_eq_true rfl) (x_M_tells (Nat.le_trans (Nat.le_of_ble_eq_true rfl) hd) (3 : Int32) l3 h (sh_okB H) (fun h5 H => ?_)))
            show wq_242 d Q 147 [oR 12 0, oI l1, oI l2, oI l3, oI l4] [] (sh_E h5)
            exact x_M_tellBoat_b147 N hd hR k86 hk86 l1 l2 l3 l4 h5 H
          · replace H := sh_okF c H
            exact x_M_tellBoat_b147 N hd hR k86 hk86 l1 l2 l3 l4 h H
        · replace H := sh_okF c H
          exact x_M_tellBoat_b147 N hd hR k86 hk86 l1 l2 l3 l4 h H
      · replace H := sh_okF c H
        exact x_M_tellBoat_b147 N hd hR k86 hk86 l1 l2 l3 l4 h H
    · replace H := sh_okF c H
      exact hk153 l1 l2 h H
def f_M_tellBoat_b248 (N : Nat)   (l1 : Int32) (h : sh_H) : Option (Int32 × sh_H) := (Option.bind (f_M_tell (6 : Int32) (l1 + (1 : Int32)) h) (fun h6 => (some ((ai_nar 1 (1 : Int32)), h6))))
theorem x_M_tellBoat_b248 (N : Nat) {d : Nat} (hd : 4 ≤ d) {Q : ai_Q} {R : Int32 × sh_H → Prop} (hR : ∀ r h, R (r, h) → Q (some (aI r)) (sh_E h))   (l1 : Int32) {d2 d3 d4 : Option ai_V} (h : sh_H) (H : sh_ok (f_M_tellBoat_b248 N l1 h) R) : wq_242 d Q 248 [oR 12 0, oI l1, d2, d3, d4] [] (sh_E h) := by
  refine ai_WP_steps mc_242 (sh_CM d) 6 (And.intro (Nat.le_of_ble_eq_true rfl) (x_M_tell (Nat.le_trans (Nat.le_of_ble_eq_true rfl) hd) (6 : Int32) (l1 + (1 : Int32)) h (sh_okB H) (fun h6 H => ?_)))
  show wq_242 d Q 257 [oR 12 0, oI l1, _, _, _] [] (sh_E h6)
  exact ai_WP_steps mc_242 (sh_CM d) 2 (hR (ai_nar 1 (1 : Int32)) h6 H)
def f_M_tellBoat_b153 (N : Nat)   (l1 : Int32) (l2 : Int32) (h : sh_H) : Option (Int32 × sh_H) := (sh_b2 (f_M_takesInt (1 : Int32) (999 : Int32) h) (fun v7 h8 => (if v7 = 0 then (some ((ai_nar 1 (0 : Int32)), h8)) else (Option.bind (f_M_tell (l2 + (2 : Int32)) (h8.1 12 0 19) h8) (fun h9 => (sh_b2 (f_M_takesInt (0 : Int32) (999 : Int32) h9) (fun v10 h11 => (if v10 = 0 then (some ((ai_nar 1 (0 : Int32)), h11)) else (Option.bind (f_M_tell (l2 + (3 : Int32)) (h11.1 12 0 19) h11) (fun h12 => (Option.bind (f_M_tell (l2 + (4 : Int32)) (0 : Int32) h12) (fun h13 => (Option.bind (f_M_isWord (8 : Int32) h13) (fun v14 => (if v14 = 0 then f_M_tellBoat_b248 N l1 h13 else (sh_b2 (f_M_pass h13) (fun v15 h16 => (if v15 = 0 then (some ((ai_nar 1 (0 : Int32)), h16)) else (sh_b2 (f_M_takesInt (0 : Int32) (10 : Int32) h16) (fun v17 h18 => (if v17 = 0 then (some ((ai_nar 1 (0 : Int32)), h18)) else (Option.bind (f_M_tell (l2 + (4 : Int32)) (h18.1 12 0 19) h18) (fun h19 => f_M_tellBoat_b248 N l1 h19)))))))))))))))))))))))
theorem x_M_tellBoat_b153 (N : Nat) {d : Nat} (hd : 4 ≤ d) {Q : ai_Q} {R : Int32 × sh_H → Prop} (hR : ∀ r h, R (r, h) → Q (some (aI r)) (sh_E h))   (l1 : Int32) (l2 : Int32) {d3 d4 : Option ai_V} (h : sh_H) (H : sh_ok (f_M_tellBoat_b153 N l1 l2 h) R) : wq_242 d Q 153 [oR 12 0, oI l1, oI l2, d3, d4] [] (sh_E h) := by
  refine ai_WP_steps mc_242 (sh_CM d) 4 (And.intro (Nat.le_of_ble_eq_true rfl) (x_M_takesInt (Nat.le_trans (Nat.le_of_ble_eq_true rfl) hd) (1 : Int32) (999 : Int32) h (sh_okB H) (fun v7 h8 H => ?_)))
  show wq_242 d Q 161 [oR 12 0, oI l1, oI l2, _, _] [aI v7] (sh_E h8)
  refine ai_WP_steps mc_242 (sh_CM d) 1 (And.intro (fun c => ?_) (fun c => ?_))
  · replace H := sh_okT c H
    show wq_242 d Q 164 [oR 12 0, oI l1, oI l2, _, _] [] (sh_E h8)
    exact ai_WP_steps mc_242 (sh_CM d) 2 (hR (ai_nar 1 (0 : Int32)) h8 H)
  · replace H := sh_okF c H
    show wq_242 d Q 166 [oR 12 0, oI l1, oI l2, _, _] [] (sh_E h8)
    refine ai_WP_steps mc_242 (sh_CM d) 7 (And.intro (Nat.le_of_ble_eq_true rfl) (x_M_tell (Nat.le_trans (Nat.le_of_ble_eq_true rfl) hd) (l2 + (2 : Int32)) (h8.1 12 0 19) h8 (sh_okB H) (fun h9 H => ?_)))
    show wq_242 d Q 177 [oR 12 0, oI l1, oI l2, _, _] [] (sh_E h9)
    refine ai_WP_steps mc_242 (sh_CM d) 4 (And.intro (Nat.le_of_ble_eq_true rfl) (x_M_takesInt (Nat.le_trans (Nat.le_of_ble_eq_true rfl) hd) (0 : Int32) (999 : Int32) h9 (sh_okB H) (fun v10 h11 H => ?_)))
    show wq_242 d Q 185 [oR 12 0, oI l1, oI l2, _, _] [aI v10] (sh_E h11)
    refine ai_WP_steps mc_242 (sh_CM d) 1 (And.intro (fun c => ?_) (fun c => ?_))
    · replace H := sh_okT c H
      show wq_242 d Q 188 [oR 12 0, oI l1, oI l2, _, _] [] (sh_E h11)
      exact ai_WP_steps mc_242 (sh_CM d) 2 (hR (ai_nar 1 (0 : Int32)) h11 H)
    · replace H := sh_okF c H
      show wq_242 d Q 190 [oR 12 0, oI l1, oI l2, _, _] [] (sh_E h11)
      refine ai_WP_steps mc_242 (sh_CM d) 7 (And.intro (Nat.le_of_ble_eq_true rfl) (x_M_tell (Nat.le_trans (Nat.le_of_ble_eq_true rfl) hd) (l2 + (3 : Int32)) (h11.1 12 0 19) h11 (sh_okB H) (fun h12 H => ?_)))
      show wq_242 d Q 201 [oR 12 0, oI l1, oI l2, _, _] [] (sh_E h12)
      refine ai_WP_steps mc_242 (sh_CM d) 6 (And.intro (Nat.le_of_ble_eq_true rfl) (x_M_tell (Nat.le_trans (Nat.le_of_ble_eq_true rfl) hd) (l2 + (4 : Int32)) (0 : Int32) h12 (sh_okB H) (fun h13 H => ?_)))
      show wq_242 d Q 209 [oR 12 0, oI l1, oI l2, _, _] [] (sh_E h13)
      refine ai_WP_steps mc_242 (sh_CM d) 3 (And.intro (Nat.le_of_ble_eq_true rfl) (x_M_isWord (Nat.le_trans (Nat.le_of_ble_eq_true rfl) hd) (8 : Int32) h13 (sh_okB H) (fun v14 H => ?_)))
      show wq_242 d Q 215 [oR 12 0, oI l1, oI l2, _, _] [aI v14] (sh_E h13)
      refine ai_WP_steps mc_242 (sh_CM d) 1 (And.intro (fun c => ?_) (fun c => ?_))
      · replace H := sh_okT c H
        exact x_M_tellBoat_b248 N hd hR l1 h13 H
      · replace H := sh_okF c H
        show wq_242 d Q 218 [oR 12 0, oI l1, oI l2, _, _] [] (sh_E h13)
        refine ai_WP_steps mc_242 (sh_CM d) 2 (And.intro (Nat.le_of_ble_eq_true rfl) (x_M_pass (Nat.le_trans (Nat.le_of_ble_eq_true rfl) hd) h13 (sh_okB H) (fun v15 h16 H => ?_)))
        show wq_242 d Q 222 [oR 12 0, oI l1, oI l2, _, _] [aI v15] (sh_E h16)
        refine ai_WP_steps mc_242 (sh_CM d) 1 (And.intro (fun c => ?_) (fun c => ?_))
        · replace H := sh_okT c H
          show wq_242 d Q 235 [oR 12 0, oI l1, oI l2, _, _] [] (sh_E h16)
          exact ai_WP_steps mc_242 (sh_CM d) 2 (hR (ai_nar 1 (0 : Int32)) h16 H)
        · replace H := sh_okF c H
          show wq_242 d Q 225 [oR 12 0, oI l1, oI l2, _, _] [] (sh_E h16)
          refine ai_WP_steps mc_242 (sh_CM d) 4 (And.intro (Nat.le_of_ble_eq_true rfl) (x_M_takesInt (Nat.le_trans (Nat.le_of_ble_eq_true rfl) hd) (0 : Int32) (10 : Int32) h16 (sh_okB H) (fun v17 h18 H => ?_)))
          show wq_242 d Q 232 [oR 12 0, oI l1, oI l2, _, _] [aI v17] (sh_E h18)
          refine ai_WP_steps mc_242 (sh_CM d) 1 (And.intro (fun c => ?_) (fun c => ?_))
          · replace H := sh_okT c H
            show wq_242 d Q 235 [oR 12 0, oI l1, oI l2, _, _] [] (sh_E h18)
            exact ai_WP_steps mc_242 (sh_CM d) 2 (hR (ai_nar 1 (0 : Int32)) h18 H)
          · replace H := sh_okF c H
            show wq_242 d Q 237 [oR 12 0, oI l1, oI l2, _, _] [] (sh_E h18)
            refine ai_WP_steps mc_242 (sh_CM d) 7 (And.intro (Nat.le_of_ble_eq_true rfl) (x_M_tell (Nat.le_trans (Nat.le_of_ble_eq_true rfl) hd) (l2 + (4 : Int32)) (h18.1 12 0 19) h18 (sh_okB H) (fun h19 H => ?_)))
            show wq_242 d Q 248 [oR 12 0, oI l1, oI l2, _, _] [] (sh_E h19)
            exact x_M_tellBoat_b248 N hd hR l1 h19 H
def f_M_tellBoat (N : Nat)   (h : sh_H) : Option (Int32 × sh_H) := (Option.bind (f_M_told (6 : Int32) h) (fun v20 => (if v20 = (12 : Int32) then (sh_b2 (f_M_wrong (2 : Int32) h) (fun v21 h22 => (some ((ai_nar 1 v21), h22)))) else (sh_b2 (f_M_pass h) (fun v23 h24 => (if v23 = 0 then (some ((ai_nar 1 (0 : Int32)), h24)) else (sh_b2 (f_M_takesName N (1 : Int32) h24) (fun v25 h26 => (if v25 = 0 then (some ((ai_nar 1 (0 : Int32)), h26)) else (Option.bind (f_M_tell ((250 : Int32) + ((5 : Int32) * v20)) ((h26.1 12 0 19) + (1 : Int32)) h26) (fun h27 => (sh_b2 (f_M_takesInt (0 : Int32) (11 : Int32) h27) (fun v28 h29 => (if v28 = 0 then (some ((ai_nar 1 (0 : Int32)), h29)) else (Option.bind (f_M_tell (((250 : Int32) + ((5 : Int32) * v20)) + (1 : Int32)) (h29.1 12 0 19) h29) (fun h30 => f_M_tellBoat_l86 N (f_M_tellBoat_b153 N) N v20 ((250 : Int32) + ((5 : Int32) * v20)) (h27.1 12 0 7) (0 : Int32) h30))))))))))))))))
theorem x_M_tellBoat (N : Nat) {d : Nat} (hd : 5 ≤ d)  (h : sh_H) {Q : ai_Q} {R : Int32 × sh_H → Prop} (H : sh_ok (f_M_tellBoat N h) R) (hR : ∀ r h, R (r, h) → Q (some (aI r)) (sh_E h)) : ai_Ex sh_T d 242 [aR 12 0] (sh_E h) Q := by
  obtain ⟨d, rfl⟩ : ∃ e, d = e + 1 := ⟨d - 1, by omega⟩
  replace hd : 4 ≤ d := by omega
  refine And.intro (Nat.le_of_ble_eq_true rfl) ?_
  show wq_242 d Q 0 [oR 12 0, none, none, none, none] [] (sh_E h)
  refine ai_WP_steps mc_242 (sh_CM d) 3 (And.intro (Nat.le_of_ble_eq_true rfl) (x_M_told (Nat.le_trans (Nat.le_of_ble_eq_true rfl) hd) (6 : Int32) h (sh_okB H) (fun v20 H => ?_)))
  show wq_242 d Q 6 [oR 12 0, _, _, _, _] [aI v20] (sh_E h)
  refine ai_WP_steps mc_242 (sh_CM d) 4 (And.intro (fun c => ?_) (fun c => ?_))
  · replace H := sh_okT c H
    show wq_242 d Q 13 [oR 12 0, oI v20, _, _, _] [] (sh_E h)
    refine ai_WP_steps mc_242 (sh_CM d) 3 (And.intro (Nat.le_of_ble_eq_true rfl) (x_M_wrong (Nat.le_trans (Nat.le_of_ble_eq_true rfl) hd) (2 : Int32) h (sh_okB H) (fun v21 h22 H => ?_)))
    show wq_242 d Q 18 [oR 12 0, oI v20, _, _, _] [aI v21] (sh_E h22)
    exact ai_WP_steps mc_242 (sh_CM d) 1 (hR (ai_nar 1 v21) h22 H)
  · replace H := sh_okF c H
    show wq_242 d Q 19 [oR 12 0, oI v20, _, _, _] [] (sh_E h)
    refine ai_WP_steps mc_242 (sh_CM d) 8 (And.intro (Nat.le_of_ble_eq_true rfl) (x_M_pass (Nat.le_trans (Nat.le_of_ble_eq_true rfl) hd) h (sh_okB H) (fun v23 h24 H => ?_)))
    show wq_242 d Q 31 [oR 12 0, oI v20, oI ((250 : Int32) + ((5 : Int32) * v20)), _, _] [aI v23] (sh_E h24)
    refine ai_WP_steps mc_242 (sh_CM d) 1 (And.intro (fun c => ?_) (fun c => ?_))
    · replace H := sh_okT c H
      show wq_242 d Q 42 [oR 12 0, oI v20, oI ((250 : Int32) + ((5 : Int32) * v20)), _, _] [] (sh_E h24)
      exact ai_WP_steps mc_242 (sh_CM d) 2 (hR (ai_nar 1 (0 : Int32)) h24 H)
    · replace H := sh_okF c H
      show wq_242 d Q 34 [oR 12 0, oI v20, oI ((250 : Int32) + ((5 : Int32) * v20)), _, _] [] (sh_E h24)
      refine ai_WP_steps mc_242 (sh_CM d) 3 (And.intro (Nat.le_of_ble_eq_true rfl) (x_M_takesName N (Nat.le_trans (Nat.le_of_ble_eq_true rfl) hd) (1 : Int32) h24 (sh_okB H) (fun v25 h26 H => ?_)))
      show wq_242 d Q 39 [oR 12 0, oI v20, oI ((250 : Int32) + ((5 : Int32) * v20)), _, _] [aI v25] (sh_E h26)
      refine ai_WP_steps mc_242 (sh_CM d) 1 (And.intro (fun c => ?_) (fun c => ?_))
      · replace H := sh_okT c H
        show wq_242 d Q 42 [oR 12 0, oI v20, oI ((250 : Int32) + ((5 : Int32) * v20)), _, _] [] (sh_E h26)
        exact ai_WP_steps mc_242 (sh_CM d) 2 (hR (ai_nar 1 (0 : Int32)) h26 H)
      · replace H := sh_okF c H
        show wq_242 d Q 44 [oR 12 0, oI v20, oI ((250 : Int32) + ((5 : Int32) * v20)), _, _] [] (sh_E h26)
        refine ai_WP_steps mc_242 (sh_CM d) 7 (And.intro (Nat.le_of_ble_eq_true rfl) (x_M_tell (Nat.le_trans (Nat.le_of_ble_eq_true rfl) hd) ((250 : Int32) + ((5 : Int32) * v20)) ((h26.1 12 0 19) + (1 : Int32)) h26 (sh_okB H) (fun h27 H => ?_)))
        show wq_242 d Q 55 [oR 12 0, oI v20, oI ((250 : Int32) + ((5 : Int32) * v20)), _, _] [] (sh_E h27)
        refine ai_WP_steps mc_242 (sh_CM d) 7 (And.intro (Nat.le_of_ble_eq_true rfl) (x_M_takesInt (Nat.le_trans (Nat.le_of_ble_eq_true rfl) hd) (0 : Int32) (11 : Int32) h27 (sh_okB H) (fun v28 h29 H => ?_)))
        show wq_242 d Q 67 [oR 12 0, oI v20, oI ((250 : Int32) + ((5 : Int32) * v20)), oI (h27.1 12 0 7), _] [aI v28] (sh_E h29)
        refine ai_WP_steps mc_242 (sh_CM d) 1 (And.intro (fun c => ?_) (fun c => ?_))
        · replace H := sh_okT c H
          show wq_242 d Q 70 [oR 12 0, oI v20, oI ((250 : Int32) + ((5 : Int32) * v20)), oI (h27.1 12 0 7), _] [] (sh_E h29)
          exact ai_WP_steps mc_242 (sh_CM d) 2 (hR (ai_nar 1 (0 : Int32)) h29 H)
        · replace H := sh_okF c H
          show wq_242 d Q 72 [oR 12 0, oI v20, oI ((250 : Int32) + ((5 : Int32) * v20)), oI (h27.1 12 0 7), _] [] (sh_E h29)
          refine ai_WP_steps mc_242 (sh_CM d) 7 (And.intro (Nat.le_of_ble_eq_true rfl) (x_M_tell (Nat.le_trans (Nat.le_of_ble_eq_true rfl) hd) (((250 : Int32) + ((5 : Int32) * v20)) + (1 : Int32)) (h29.1 12 0 19) h29 (sh_okB H) (fun h30 H => ?_)))
          show wq_242 d Q 83 [oR 12 0, oI v20, oI ((250 : Int32) + ((5 : Int32) * v20)), oI (h27.1 12 0 7), _] [] (sh_E h30)
          refine ai_WP_steps mc_242 (sh_CM d) 2 ?_
          exact x_M_tellBoat_l86 N hd hR (f_M_tellBoat_b153 N) (fun z0 z1 {e3} {e4} h H => x_M_tellBoat_b153 N hd hR z0 z1 h H) N v20 ((250 : Int32) + ((5 : Int32) * v20)) (h27.1 12 0 7) (0 : Int32) h30 H
def f_M_tellOne_b26 (N : Nat)   (s0 : Int32) (h : sh_H) : Option (Int32 × sh_H) := (if s0 = 0 then (sh_b2 (f_M_tellKind N h) (fun v1 h2 => (some ((ai_nar 1 v1), h2)))) else (if s0 = (1 : Int32) then (sh_b2 (f_M_tellIsland N h) (fun v3 h4 => (some ((ai_nar 1 v3), h4)))) else (if s0 = (2 : Int32) then (sh_b2 (f_M_tellWant N (2 : Int32) (50 : Int32) h) (fun v5 h6 => (some ((ai_nar 1 v5), h6)))) else (if s0 = (3 : Int32) then (sh_b2 (f_M_tellWant N (3 : Int32) (100 : Int32) h) (fun v7 h8 => (some ((ai_nar 1 v7), h8)))) else (if s0 = (4 : Int32) then (sh_b2 (f_M_tellFlow N h) (fun v9 h10 => (some ((ai_nar 1 v9), h10)))) else (if s0 = (6 : Int32) then (sh_b2 (f_M_tellWear N h) (fun v11 h12 => (some ((ai_nar 1 v11), h12)))) else (if s0 = (7 : Int32) then (sh_b2 (f_M_tellBoat N h) (fun v13 h14 => (some ((ai_nar 1 v13), h14)))) else (sh_b2 (f_M_wrong (1 : Int32) h) (fun v15 h16 => (some ((ai_nar 1 v15), h16)))))))))))
theorem x_M_tellOne_b26 (N : Nat) {d : Nat} (hd : 6 ≤ d) {Q : ai_Q} {R : Int32 × sh_H → Prop} (hR : ∀ r h, R (r, h) → Q (some (aI r)) (sh_E h))   (s0 : Int32) {d1 : Option ai_V} (h : sh_H) (H : sh_ok (f_M_tellOne_b26 N s0 h) R) : wq_243 d Q 26 [oR 12 0, d1] [aI s0] (sh_E h) := by
  refine ai_WP_steps mc_243 (sh_CM d) 3 (And.intro (fun c => ?_) (fun c => ?_))
  · replace H := sh_okT c H
    show wq_243 d Q 31 [oR 12 0, oI s0] [] (sh_E h)
    refine ai_WP_steps mc_243 (sh_CM d) 2 (And.intro (Nat.le_of_ble_eq_true rfl) (x_M_tellKind N (Nat.le_trans (Nat.le_of_ble_eq_true rfl) hd) h (sh_okB H) (fun v1 h2 H => ?_)))
    show wq_243 d Q 35 [oR 12 0, oI s0] [aI v1] (sh_E h2)
    exact ai_WP_steps mc_243 (sh_CM d) 1 (hR (ai_nar 1 v1) h2 H)
  · replace H := sh_okF c H
    show wq_243 d Q 36 [oR 12 0, oI s0] [] (sh_E h)
    refine ai_WP_steps mc_243 (sh_CM d) 3 (And.intro (fun c => ?_) (fun c => ?_))
    · replace H := sh_okT c H
      show wq_243 d Q 41 [oR 12 0, oI s0] [] (sh_E h)
      refine ai_WP_steps mc_243 (sh_CM d) 2 (And.intro (Nat.le_of_ble_eq_true rfl) (x_M_tellIsland N (Nat.le_trans (Nat.le_of_ble_eq_true rfl) hd) h (sh_okB H) (fun v3 h4 H => ?_)))
      show wq_243 d Q 45 [oR 12 0, oI s0] [aI v3] (sh_E h4)
      exact ai_WP_steps mc_243 (sh_CM d) 1 (hR (ai_nar 1 v3) h4 H)
    · replace H := sh_okF c H
      show wq_243 d Q 46 [oR 12 0, oI s0] [] (sh_E h)
      refine ai_WP_steps mc_243 (sh_CM d) 3 (And.intro (fun c => ?_) (fun c => ?_))
      · replace H := sh_okT c H
        show wq_243 d Q 51 [oR 12 0, oI s0] [] (sh_E h)
        refine ai_WP_steps mc_243 (sh_CM d) 4 (And.intro (Nat.le_of_ble_eq_true rfl) (x_M_tellWant N (Nat.le_trans (Nat.le_of_ble_eq_true rfl) hd) (2 : Int32) (50 : Int32) h (sh_okB H) (fun v5 h6 H => ?_)))
        show wq_243 d Q 58 [oR 12 0, oI s0] [aI v5] (sh_E h6)
        exact ai_WP_steps mc_243 (sh_CM d) 1 (hR (ai_nar 1 v5) h6 H)
      · replace H := sh_okF c H
        show wq_243 d Q 59 [oR 12 0, oI s0] [] (sh_E h)
        refine ai_WP_steps mc_243 (sh_CM d) 3 (And.intro (fun c => ?_) (fun c => ?_))
        · replace H := sh_okT c H
          show wq_243 d Q 64 [oR 12 0, oI s0] [] (sh_E h)
          refine ai_WP_steps mc_243 (sh_CM d) 4 (And.intro (Nat.le_of_ble_eq_true rfl) (x_M_tellWant N (Nat.le_trans (Nat.le_of_ble_eq_true rfl) hd) (3 : Int32) (100 : Int32) h (sh_okB H) (fun v7 h8 H => ?_)))
          show wq_243 d Q 71 [oR 12 0, oI s0] [aI v7] (sh_E h8)
          exact ai_WP_steps mc_243 (sh_CM d) 1 (hR (ai_nar 1 v7) h8 H)
        · replace H := sh_okF c H
          show wq_243 d Q 72 [oR 12 0, oI s0] [] (sh_E h)
          refine ai_WP_steps mc_243 (sh_CM d) 3 (And.intro (fun c => ?_) (fun c => ?_))
          · replace H := sh_okT c H
            show wq_243 d Q 77 [oR 12 0, oI s0] [] (sh_E h)
            refine ai_WP_steps mc_243 (sh_CM d) 2 (And.intro (Nat.le_of_ble_eq_true rfl) (x_M_tellFlow N (Nat.le_trans (Nat.le_of_ble_eq_true rfl) hd) h (sh_okB H) (fun v9 h10 H => ?_)))
            show wq_243 d Q 81 [oR 12 0, oI s0] [aI v9] (sh_E h10)
            exact ai_WP_steps mc_243 (sh_CM d) 1 (hR (ai_nar 1 v9) h10 H)
          · replace H := sh_okF c H
            show wq_243 d Q 82 [oR 12 0, oI s0] [] (sh_E h)
            refine ai_WP_steps mc_243 (sh_CM d) 3 (And.intro (fun c => ?_) (fun c => ?_))
            · replace H := sh_okT c H
              show wq_243 d Q 88 [oR 12 0, oI s0] [] (sh_E h)
              refine ai_WP_steps mc_243 (sh_CM d) 2 (And.intro (Nat.le_of_ble_eq_true rfl) (x_M_tellWear N (Nat.le_trans (Nat.le_of_ble_eq_true rfl) hd) h (sh_okB H) (fun v11 h12 H => ?_)))
              show wq_243 d Q 92 [oR 12 0, oI s0] [aI v11] (sh_E h12)
              exact ai_WP_steps mc_243 (sh_CM d) 1 (hR (ai_nar 1 v11) h12 H)
            · replace H := sh_okF c H
              show wq_243 d Q 93 [oR 12 0, oI s0] [] (sh_E h)
              refine ai_WP_steps mc_243 (sh_CM d) 3 (And.intro (fun c => ?_) (fun c => ?_))
              · replace H := sh_okT c H
                show wq_243 d Q 99 [oR 12 0, oI s0] [] (sh_E h)
                refine ai_WP_steps mc_243 (sh_CM d) 2 (And.intro (Nat.le_of_ble_eq_true rfl) (x_M_tellBoat N (Nat.le_trans (Nat.le_of_ble_eq_true rfl) hd) h (sh_okB H) (fun v13 h14 H => ?_)))
                show wq_243 d Q 103 [oR 12 0, oI s0] [aI v13] (sh_E h14)
                exact ai_WP_steps mc_243 (sh_CM d) 2 (hR (ai_nar 1 v13) h14 H)
              · replace H := sh_okF c H
                show wq_243 d Q 106 [oR 12 0, oI s0] [] (sh_E h)
                refine ai_WP_steps mc_243 (sh_CM d) 3 (And.intro (Nat.le_of_ble_eq_true rfl) (x_M_wrong (Nat.le_trans (Nat.le_of_ble_eq_true rfl) hd) (1 : Int32) h (sh_okB H) (fun v15 h16 H => ?_)))
                show wq_243 d Q 111 [oR 12 0, oI s0] [aI v15] (sh_E h16)
                exact ai_WP_steps mc_243 (sh_CM d) 1 (hR (ai_nar 1 v15) h16 H)
def f_M_tellOne (N : Nat)   (h : sh_H) : Option (Int32 × sh_H) := (if ai_in (h.1 12 0 7) 2001 then (if (h.1 13 43 (h.1 12 0 7).toNatClampNeg) = (3 : Int32) then (if ai_in (h.1 12 0 7) 2001 then f_M_tellOne_b26 N (h.1 13 45 (h.1 12 0 7).toNatClampNeg) h else none) else f_M_tellOne_b26 N (-1 : Int32) h) else none)
theorem x_M_tellOne (N : Nat) {d : Nat} (hd : 7 ≤ d)  (h : sh_H) {Q : ai_Q} {R : Int32 × sh_H → Prop} (H : sh_ok (f_M_tellOne N h) R) (hR : ∀ r h, R (r, h) → Q (some (aI r)) (sh_E h)) : ai_Ex sh_T d 243 [aR 12 0] (sh_E h) Q := by
  obtain ⟨d, rfl⟩ : ∃ e, d = e + 1 := ⟨d - 1, by omega⟩
  replace hd : 6 ≤ d := by omega
  refine And.intro (Nat.le_of_ble_eq_true rfl) ?_
  show wq_243 d Q 0 [oR 12 0, none] [] (sh_E h)
  have c := sh_okG H
  replace H := sh_okH H
  refine ai_WP_steps mc_243 (sh_CM d) 5 (And.intro c ?_)
  show wq_243 d Q 9 [oR 12 0, _] [aI (h.1 13 43 (h.1 12 0 7).toNatClampNeg)] (sh_E h)
  refine ai_WP_steps mc_243 (sh_CM d) 2 (And.intro (fun c => ?_) (fun c => ?_))
  · replace H := sh_okT c H
    show wq_243 d Q 13 [oR 12 0, _] [] (sh_E h)
    have c := sh_okG H
    replace H := sh_okH H
    refine ai_WP_steps mc_243 (sh_CM d) 5 (And.intro c ?_)
    show wq_243 d Q 22 [oR 12 0, _] [aI (h.1 13 45 (h.1 12 0 7).toNatClampNeg)] (sh_E h)
    refine ai_WP_steps mc_243 (sh_CM d) 1 ?_
    exact x_M_tellOne_b26 N hd hR (h.1 13 45 (h.1 12 0 7).toNatClampNeg) h H
  · replace H := sh_okF c H
    show wq_243 d Q 25 [oR 12 0, _] [] (sh_E h)
    refine ai_WP_steps mc_243 (sh_CM d) 1 ?_
    exact x_M_tellOne_b26 N hd hR (-1 : Int32) h H
def f_M_parses_c10 (N : Nat)  (k41 : sh_H → Option (Int32 × sh_H)) (k10 : sh_H → Option (Int32 × sh_H))  (h : sh_H) : Option (Int32 × sh_H) := (if ai_in (h.1 12 0 7) 2001 then (if (h.1 13 43 (h.1 12 0 7).toNatClampNeg) = (4 : Int32) then (some ((ai_nar 1 (1 : Int32)), h)) else (sh_b2 (f_M_tellOne N h) (fun v1 h2 => (if v1 = 0 then (some ((ai_nar 1 (0 : Int32)), h2)) else (Option.bind (f_M_isSign (59 : Int32) h2) (fun v3 => (if v3 = 0 then k41 h2 else (sh_b2 (f_M_pass h2) (fun v4 h5 => (if v4 = 0 then (some ((ai_nar 1 (0 : Int32)), h5)) else k10 h5)))))))))) else none)
def f_M_parses_l10 (N : Nat)  (k41 : sh_H → Option (Int32 × sh_H)) (n : Nat) : sh_H → Option (Int32 × sh_H) := Nat.rec (motive := fun _ => sh_H → Option (Int32 × sh_H)) (fun _ => none) (fun _ k10 => f_M_parses_c10 N k41 k10) n
theorem x_M_parses_l10 (N : Nat) {d : Nat} (hd : 7 ≤ d) {Q : ai_Q} {R : Int32 × sh_H → Prop} (hR : ∀ r h, R (r, h) → Q (some (aI r)) (sh_E h))  (k41 : sh_H → Option (Int32 × sh_H)) (hk41 : ∀ (h : sh_H), sh_ok (k41 h) R → wq_244 d Q 41 [oR 12 0] [] (sh_E h)) (n : Nat) : ∀ (h : sh_H), sh_ok (f_M_parses_l10 N k41 n h) R → wq_244 d Q 10 [oR 12 0] [] (sh_E h) := by
  induction n with
  | zero => intro h H; exact H.elim
  | succ n ih =>
    intro h H
    have hk10 := @ih
    replace H : sh_ok (f_M_parses_c10 N k41 (f_M_parses_l10 N k41 n) h) R := H
    revert hk10 H
    generalize f_M_parses_l10 N k41 n = k10
    intro hk10 H
    have c := sh_okG H
    replace H := sh_okH H
    refine ai_WP_steps mc_244 (sh_CM d) 5 (And.intro c ?_)
    show wq_244 d Q 19 [oR 12 0] [aI (h.1 13 43 (h.1 12 0 7).toNatClampNeg)] (sh_E h)
    refine ai_WP_steps mc_244 (sh_CM d) 2 (And.intro (fun c => ?_) (fun c => ?_))
    · replace H := sh_okT c H
      show wq_244 d Q 56 [oR 12 0] [] (sh_E h)
      exact ai_WP_steps mc_244 (sh_CM d) 2 (hR (ai_nar 1 (1 : Int32)) h H)
    · replace H := sh_okF c H
      show wq_244 d Q 23 [oR 12 0] [] (sh_E h)
      refine ai_WP_steps mc_244 (sh_CM d) 2 (And.intro (Nat.le_of_ble_eq_true rfl) (x_M_tellOne N (Nat.le_trans (Nat.le_of_ble_eq_true rfl) hd) h (sh_okB H) (fun v1 h2 H => ?_)))
      show wq_244 d Q 27 [oR 12 0] [aI v1] (sh_E h2)
      refine ai_WP_steps mc_244 (sh_CM d) 1 (And.intro (fun c => ?_) (fun c => ?_))
      · replace H := sh_okT c H
        show wq_244 d Q 30 [oR 12 0] [] (sh_E h2)
        exact ai_WP_steps mc_244 (sh_CM d) 2 (hR (ai_nar 1 (0 : Int32)) h2 H)
      · replace H := sh_okF c H
        show wq_244 d Q 32 [oR 12 0] [] (sh_E h2)
        refine ai_WP_steps mc_244 (sh_CM d) 3 (And.intro (Nat.le_of_ble_eq_true rfl) (x_M_isSign (Nat.le_trans (Nat.le_of_ble_eq_true rfl) hd) (59 : Int32) h2 (sh_okB H) (fun v3 H => ?_)))
        show wq_244 d Q 38 [oR 12 0] [aI v3] (sh_E h2)
        refine ai_WP_steps mc_244 (sh_CM d) 1 (And.intro (fun c => ?_) (fun c => ?_))
        · replace H := sh_okT c H
          exact hk41 h2 H
        · replace H := sh_okF c H
          show wq_244 d Q 47 [oR 12 0] [] (sh_E h2)
          refine ai_WP_steps mc_244 (sh_CM d) 2 (And.intro (Nat.le_of_ble_eq_true rfl) (x_M_pass (Nat.le_trans (Nat.le_of_ble_eq_true rfl) hd) h2 (sh_okB H) (fun v4 h5 H => ?_)))
          show wq_244 d Q 51 [oR 12 0] [aI v4] (sh_E h5)
          refine ai_WP_steps mc_244 (sh_CM d) 1 (And.intro (fun c => ?_) (fun c => ?_))
          · replace H := sh_okT c H
            show wq_244 d Q 54 [oR 12 0] [] (sh_E h5)
            exact ai_WP_steps mc_244 (sh_CM d) 2 (hR (ai_nar 1 (0 : Int32)) h5 H)
          · replace H := sh_okF c H
            exact hk10 h5 H
def f_M_parses_b41 (N : Nat)    (h : sh_H) : Option (Int32 × sh_H) := (sh_b2 (f_M_wrong (1 : Int32) h) (fun v6 h7 => (some ((ai_nar 1 v6), h7))))
theorem x_M_parses_b41 (N : Nat) {d : Nat} (hd : 7 ≤ d) {Q : ai_Q} {R : Int32 × sh_H → Prop} (hR : ∀ r h, R (r, h) → Q (some (aI r)) (sh_E h))    (h : sh_H) (H : sh_ok (f_M_parses_b41 N h) R) : wq_244 d Q 41 [oR 12 0] [] (sh_E h) := by
  refine ai_WP_steps mc_244 (sh_CM d) 3 (And.intro (Nat.le_of_ble_eq_true rfl) (x_M_wrong (Nat.le_trans (Nat.le_of_ble_eq_true rfl) hd) (1 : Int32) h (sh_okB H) (fun v6 h7 H => ?_)))
  show wq_244 d Q 46 [oR 12 0] [aI v6] (sh_E h7)
  exact ai_WP_steps mc_244 (sh_CM d) 1 (hR (ai_nar 1 v6) h7 H)
def f_M_parses (N : Nat)   (h : sh_H) : Option (Int32 × sh_H) := (sh_let (sh_pI h 12 0 7 (0 : Int32)) (fun h8 => (sh_let (sh_pI h8 12 0 15 (0 : Int32)) (fun h9 => f_M_parses_l10 N (f_M_parses_b41 N) N h9))))
theorem x_M_parses (N : Nat) {d : Nat} (hd : 8 ≤ d)  (h : sh_H) {Q : ai_Q} {R : Int32 × sh_H → Prop} (H : sh_ok (f_M_parses N h) R) (hR : ∀ r h, R (r, h) → Q (some (aI r)) (sh_E h)) : ai_Ex sh_T d 244 [aR 12 0] (sh_E h) Q := by
  obtain ⟨d, rfl⟩ : ∃ e, d = e + 1 := ⟨d - 1, by omega⟩
  replace hd : 7 ≤ d := by omega
  refine And.intro (Nat.le_of_ble_eq_true rfl) ?_
  show wq_244 d Q 0 [oR 12 0] [] (sh_E h)
  refine ai_WP_steps mc_244 (sh_CM d) 3 (And.intro trivial ?_)
  show wq_244 d Q 5 [oR 12 0] [] (sh_E (sh_pI h 12 0 7 (0 : Int32)))
  replace H := sh_okL H
  generalize sh_pI h 12 0 7 (0 : Int32) = h8 at H ⊢
  refine ai_WP_steps mc_244 (sh_CM d) 3 (And.intro trivial ?_)
  show wq_244 d Q 10 [oR 12 0] [] (sh_E (sh_pI h8 12 0 15 (0 : Int32)))
  replace H := sh_okL H
  generalize sh_pI h8 12 0 15 (0 : Int32) = h9 at H ⊢
  exact x_M_parses_l10 N hd hR (f_M_parses_b41 N) (fun h H => x_M_parses_b41 N hd hR  h H) N h9 H
def f_M_copy_c2 (N : Nat)  (k39 : Int32 → Int32 → sh_H → Option sh_H) (k2 : Int32 → Int32 → Int32 → sh_H → Option sh_H) (l1 : Int32) (l2 : Int32) (l3 : Int32) (h : sh_H) : Option sh_H := (if l3 < (2000 : Int32) then (if ai_in (((2000 : Int32) * l1) + l3) 8000 then (if ai_in (((2000 : Int32) * l2) + l3) 8000 then (sh_let (sh_pI h 13 46 (((2000 : Int32) * l2) + l3).toNatClampNeg (h.1 13 46 (((2000 : Int32) * l1) + l3).toNatClampNeg)) (fun h1 => k2 l1 l2 (l3 + (1 : Int32)) h1)) else none) else none) else k39 l1 l2 h)
def f_M_copy_l2 (N : Nat)  (k39 : Int32 → Int32 → sh_H → Option sh_H) (n : Nat) : Int32 → Int32 → Int32 → sh_H → Option sh_H := Nat.rec (motive := fun _ => Int32 → Int32 → Int32 → sh_H → Option sh_H) (fun _ _ _ _ => none) (fun _ k2 => f_M_copy_c2 N k39 k2) n
theorem x_M_copy_l2 (N : Nat) {d : Nat} (hd : 0 ≤ d) {Q : ai_Q} {R : sh_H → Prop} (hR : ∀ h, R h → Q none (sh_E h))  (k39 : Int32 → Int32 → sh_H → Option sh_H) (hk39 : ∀ (l1 : Int32) (l2 : Int32) {d3 : Option ai_V} (h : sh_H), sh_ok (k39 l1 l2 h) R → wq_245 d Q 39 [oR 12 0, oI l1, oI l2, d3] [] (sh_E h)) (n : Nat) : ∀ (l1 : Int32) (l2 : Int32) (l3 : Int32) (h : sh_H), sh_ok (f_M_copy_l2 N k39 n l1 l2 l3 h) R → wq_245 d Q 2 [oR 12 0, oI l1, oI l2, oI l3] [] (sh_E h) := by
  induction n with
  | zero => intro l1 l2 l3 h H; exact H.elim
  | succ n ih =>
    intro l1 l2 l3 h H
    have hk2 := @ih
    replace H : sh_ok (f_M_copy_c2 N k39 (f_M_copy_l2 N k39 n) l1 l2 l3 h) R := H
    revert hk2 H
    generalize f_M_copy_l2 N k39 n = k2
    intro hk2 H
    refine ai_WP_steps mc_245 (sh_CM d) 3 (And.intro (fun c => ?_) (fun c => ?_))
    · replace H := sh_okT c H
      show wq_245 d Q 9 [oR 12 0, oI l1, oI l2, oI l3] [] (sh_E h)
      have c := sh_okG H
      replace H := sh_okH H
      refine ai_WP_steps mc_245 (sh_CM d) 15 (And.intro c ?_)
      show wq_245 d Q 32 [oR 12 0, oI l1, oI l2, oI l3] [aI (h.1 13 46 (((2000 : Int32) * l1) + l3).toNatClampNeg), aI (((2000 : Int32) * l2) + l3), aR 13 46] (sh_E h)
      have c := sh_okG H
      replace H := sh_okH H
      refine ai_WP_steps mc_245 (sh_CM d) 1 (And.intro c ?_)
      show wq_245 d Q 33 [oR 12 0, oI l1, oI l2, oI l3] [] (sh_E (sh_pI h 13 46 (((2000 : Int32) * l2) + l3).toNatClampNeg (h.1 13 46 (((2000 : Int32) * l1) + l3).toNatClampNeg)))
      replace H := sh_okL H
      generalize sh_pI h 13 46 (((2000 : Int32) * l2) + l3).toNatClampNeg (h.1 13 46 (((2000 : Int32) * l1) + l3).toNatClampNeg) = h1 at H ⊢
      refine ai_WP_steps mc_245 (sh_CM d) 2 ?_
      exact hk2 l1 l2 (l3 + (1 : Int32)) h1 H
    · replace H := sh_okF c H
      exact hk39 l1 l2 h H
def f_M_copy_c41 (N : Nat)   (k41 : Int32 → Int32 → Int32 → sh_H → Option sh_H) (l1 : Int32) (l2 : Int32) (l3 : Int32) (h : sh_H) : Option sh_H := (if l3 < (3 : Int32) then (if ai_in (((3 : Int32) * l1) + l3) 12 then (if ai_in (((3 : Int32) * l2) + l3) 12 then (sh_let (sh_pJ h 14 6 (((3 : Int32) * l2) + l3).toNatClampNeg (h.2.1 14 6 (((3 : Int32) * l1) + l3).toNatClampNeg)) (fun h2 => k41 l1 l2 (l3 + (1 : Int32)) h2)) else none) else none) else (some h))
def f_M_copy_l41 (N : Nat)   (n : Nat) : Int32 → Int32 → Int32 → sh_H → Option sh_H := Nat.rec (motive := fun _ => Int32 → Int32 → Int32 → sh_H → Option sh_H) (fun _ _ _ _ => none) (fun _ k41 => f_M_copy_c41 N k41) n
theorem x_M_copy_l41 (N : Nat) {d : Nat} (hd : 0 ≤ d) {Q : ai_Q} {R : sh_H → Prop} (hR : ∀ h, R h → Q none (sh_E h))   (n : Nat) : ∀ (l1 : Int32) (l2 : Int32) (l3 : Int32) (h : sh_H), sh_ok (f_M_copy_l41 N n l1 l2 l3 h) R → wq_245 d Q 41 [oR 12 0, oI l1, oI l2, oI l3] [] (sh_E h) := by
  induction n with
  | zero => intro l1 l2 l3 h H; exact H.elim
  | succ n ih =>
    intro l1 l2 l3 h H
    have hk41 := @ih
    replace H : sh_ok (f_M_copy_c41 N (f_M_copy_l41 N n) l1 l2 l3 h) R := H
    revert hk41 H
    generalize f_M_copy_l41 N n = k41
    intro hk41 H
    refine ai_WP_steps mc_245 (sh_CM d) 3 (And.intro (fun c => ?_) (fun c => ?_))
    · replace H := sh_okT c H
      show wq_245 d Q 46 [oR 12 0, oI l1, oI l2, oI l3] [] (sh_E h)
      have c := sh_okG H
      replace H := sh_okH H
      refine ai_WP_steps mc_245 (sh_CM d) 15 (And.intro c ?_)
      show wq_245 d Q 65 [oR 12 0, oI l1, oI l2, oI l3] [aL (h.2.1 14 6 (((3 : Int32) * l1) + l3).toNatClampNeg), aI (((3 : Int32) * l2) + l3), aR 14 6] (sh_E h)
      have c := sh_okG H
      replace H := sh_okH H
      refine ai_WP_steps mc_245 (sh_CM d) 1 (And.intro c ?_)
      show wq_245 d Q 66 [oR 12 0, oI l1, oI l2, oI l3] [] (sh_E (sh_pJ h 14 6 (((3 : Int32) * l2) + l3).toNatClampNeg (h.2.1 14 6 (((3 : Int32) * l1) + l3).toNatClampNeg)))
      replace H := sh_okL H
      generalize sh_pJ h 14 6 (((3 : Int32) * l2) + l3).toNatClampNeg (h.2.1 14 6 (((3 : Int32) * l1) + l3).toNatClampNeg) = h2 at H ⊢
      refine ai_WP_steps mc_245 (sh_CM d) 2 ?_
      exact hk41 l1 l2 (l3 + (1 : Int32)) h2 H
    · replace H := sh_okF c H
      show wq_245 d Q 72 [oR 12 0, oI l1, oI l2, oI l3] [] (sh_E h)
      exact ai_WP_steps mc_245 (sh_CM d) 1 (hR h H)
def f_M_copy_b39 (N : Nat)   (l1 : Int32) (l2 : Int32) (h : sh_H) : Option sh_H := f_M_copy_l41 N N l1 l2 (0 : Int32) h
theorem x_M_copy_b39 (N : Nat) {d : Nat} (hd : 0 ≤ d) {Q : ai_Q} {R : sh_H → Prop} (hR : ∀ h, R h → Q none (sh_E h))   (l1 : Int32) (l2 : Int32) {d3 : Option ai_V} (h : sh_H) (H : sh_ok (f_M_copy_b39 N l1 l2 h) R) : wq_245 d Q 39 [oR 12 0, oI l1, oI l2, d3] [] (sh_E h) := by
  refine ai_WP_steps mc_245 (sh_CM d) 2 ?_
  exact x_M_copy_l41 N hd hR N l1 l2 (0 : Int32) h H
def f_M_copy (N : Nat)  (l1 : Int32) (l2 : Int32) (h : sh_H) : Option sh_H := f_M_copy_l2 N (f_M_copy_b39 N) N l1 l2 (0 : Int32) h
theorem x_M_copy (N : Nat) {d : Nat} (hd : 1 ≤ d) (l1 : Int32) (l2 : Int32) (h : sh_H) {Q : ai_Q} {R : sh_H → Prop} (H : sh_ok (f_M_copy N l1 l2 h) R) (hR : ∀ h, R h → Q none (sh_E h)) : ai_Ex sh_T d 245 [aR 12 0, aI l1, aI l2] (sh_E h) Q := by
  obtain ⟨d, rfl⟩ : ∃ e, d = e + 1 := ⟨d - 1, by omega⟩
  replace hd : 0 ≤ d := by omega
  refine And.intro (Nat.le_of_ble_eq_true rfl) ?_
  show wq_245 d Q 0 [oR 12 0, oI l1, oI l2, none] [] (sh_E h)
  refine ai_WP_steps mc_245 (sh_CM d) 2 ?_
  exact x_M_copy_l2 N hd hR (f_M_copy_b39 N) (fun z0 z1 {e3} h H => x_M_copy_b39 N hd hR z0 z1 h H) N l1 l2 (0 : Int32) h H
def f_M_read_c21 (N : Nat)  (k40 : sh_H → Option (Int32 × sh_H)) (k21 : Int32 → sh_H → Option (Int32 × sh_H)) (l1 : Int32) (h : sh_H) : Option (Int32 × sh_H) := (if l1 < (2000 : Int32) then (Option.bind (f_M_tell l1 (0 : Int32) h) (fun h1 => k21 (l1 + (1 : Int32)) h1)) else k40 h)
def f_M_read_l21 (N : Nat)  (k40 : sh_H → Option (Int32 × sh_H)) (n : Nat) : Int32 → sh_H → Option (Int32 × sh_H) := Nat.rec (motive := fun _ => Int32 → sh_H → Option (Int32 × sh_H)) (fun _ _ => none) (fun _ k21 => f_M_read_c21 N k40 k21) n
theorem x_M_read_l21 (N : Nat) {d : Nat} (hd : 8 ≤ d) {Q : ai_Q} {R : Int32 × sh_H → Prop} (hR : ∀ r h, R (r, h) → Q (some (aI r)) (sh_E h))  (k40 : sh_H → Option (Int32 × sh_H)) (hk40 : ∀ {d1 : Option ai_V} (h : sh_H), sh_ok (k40 h) R → wq_246 d Q 40 [oR 12 0, d1] [] (sh_E h)) (n : Nat) : ∀ (l1 : Int32) (h : sh_H), sh_ok (f_M_read_l21 N k40 n l1 h) R → wq_246 d Q 21 [oR 12 0, oI l1] [] (sh_E h) := by
  induction n with
  | zero => intro l1 h H; exact H.elim
  | succ n ih =>
    intro l1 h H
    have hk21 := @ih
    replace H : sh_ok (f_M_read_c21 N k40 (f_M_read_l21 N k40 n) l1 h) R := H
    revert hk21 H
    generalize f_M_read_l21 N k40 n = k21
    intro hk21 H
    refine ai_WP_steps mc_246 (sh_CM d) 3 (And.intro (fun c => ?_) (fun c => ?_))
    · replace H := sh_okT c H
      show wq_246 d Q 28 [oR 12 0, oI l1] [] (sh_E h)
      refine ai_WP_steps mc_246 (sh_CM d) 4 (And.intro (Nat.le_of_ble_eq_true rfl) (x_M_tell (Nat.le_trans (Nat.le_of_ble_eq_true rfl) hd) l1 (0 : Int32) h (sh_okB H) (fun h1 H => ?_)))
      show wq_246 d Q 34 [oR 12 0, oI l1] [] (sh_E h1)
      refine ai_WP_steps mc_246 (sh_CM d) 2 ?_
      exact hk21 (l1 + (1 : Int32)) h1 H
    · replace H := sh_okF c H
      exact hk40 h H
def f_M_read_c42 (N : Nat)  (k62 : sh_H → Option (Int32 × sh_H)) (k42 : Int32 → sh_H → Option (Int32 × sh_H)) (l1 : Int32) (h : sh_H) : Option (Int32 × sh_H) := (if l1 < (3 : Int32) then (if ai_in ((3 : Int32) + l1) 12 then (sh_let (sh_pJ h 14 6 ((3 : Int32) + l1).toNatClampNeg (0 : Int64)) (fun h2 => k42 (l1 + (1 : Int32)) h2)) else none) else k62 h)
def f_M_read_l42 (N : Nat)  (k62 : sh_H → Option (Int32 × sh_H)) (n : Nat) : Int32 → sh_H → Option (Int32 × sh_H) := Nat.rec (motive := fun _ => Int32 → sh_H → Option (Int32 × sh_H)) (fun _ _ => none) (fun _ k42 => f_M_read_c42 N k62 k42) n
theorem x_M_read_l42 (N : Nat) {d : Nat} (hd : 8 ≤ d) {Q : ai_Q} {R : Int32 × sh_H → Prop} (hR : ∀ r h, R (r, h) → Q (some (aI r)) (sh_E h))  (k62 : sh_H → Option (Int32 × sh_H)) (hk62 : ∀ {d1 : Option ai_V} (h : sh_H), sh_ok (k62 h) R → wq_246 d Q 62 [oR 12 0, d1] [] (sh_E h)) (n : Nat) : ∀ (l1 : Int32) (h : sh_H), sh_ok (f_M_read_l42 N k62 n l1 h) R → wq_246 d Q 42 [oR 12 0, oI l1] [] (sh_E h) := by
  induction n with
  | zero => intro l1 h H; exact H.elim
  | succ n ih =>
    intro l1 h H
    have hk42 := @ih
    replace H : sh_ok (f_M_read_c42 N k62 (f_M_read_l42 N k62 n) l1 h) R := H
    revert hk42 H
    generalize f_M_read_l42 N k62 n = k42
    intro hk42 H
    refine ai_WP_steps mc_246 (sh_CM d) 3 (And.intro (fun c => ?_) (fun c => ?_))
    · replace H := sh_okT c H
      show wq_246 d Q 47 [oR 12 0, oI l1] [] (sh_E h)
      have c := sh_okG H
      replace H := sh_okH H
      refine ai_WP_steps mc_246 (sh_CM d) 7 (And.intro c ?_)
      show wq_246 d Q 56 [oR 12 0, oI l1] [] (sh_E (sh_pJ h 14 6 ((3 : Int32) + l1).toNatClampNeg (0 : Int64)))
      replace H := sh_okL H
      generalize sh_pJ h 14 6 ((3 : Int32) + l1).toNatClampNeg (0 : Int64) = h2 at H ⊢
      refine ai_WP_steps mc_246 (sh_CM d) 2 ?_
      exact hk42 (l1 + (1 : Int32)) h2 H
    · replace H := sh_okF c H
      exact hk62 h H
def f_M_read_b92 (N : Nat)    (h : sh_H) : Option (Int32 × sh_H) := (sh_let (sh_pI h 12 0 0 (0 : Int32)) (fun h3 => (if (h3.1 12 0 8) = 0 then (Option.bind (f_M_copy N (1 : Int32) (0 : Int32) h3) (fun h4 => (if ai_in (2 : Int32) 4 then (sh_let (sh_pI h4 16 0 (2 : Int32).toNatClampNeg ((0 : Int32) &&& 1)) (fun h5 => (if ai_in (3 : Int32) 4 then (sh_let (sh_pI h5 16 0 (3 : Int32).toNatClampNeg ((0 : Int32) &&& 1)) (fun h6 => (some ((0 : Int32), h6)))) else none))) else none))) else (some ((h3.1 12 0 8), h3)))))
theorem x_M_read_b92 (N : Nat) {d : Nat} (hd : 8 ≤ d) {Q : ai_Q} {R : Int32 × sh_H → Prop} (hR : ∀ r h, R (r, h) → Q (some (aI r)) (sh_E h))    {d1 : Option ai_V} (h : sh_H) (H : sh_ok (f_M_read_b92 N h) R) : wq_246 d Q 92 [oR 12 0, d1] [] (sh_E h) := by
  refine ai_WP_steps mc_246 (sh_CM d) 3 (And.intro trivial ?_)
  show wq_246 d Q 97 [oR 12 0, _] [] (sh_E (sh_pI h 12 0 0 (0 : Int32)))
  replace H := sh_okL H
  generalize sh_pI h 12 0 0 (0 : Int32) = h3 at H ⊢
  refine ai_WP_steps mc_246 (sh_CM d) 3 (And.intro (fun c => ?_) (fun c => ?_))
  · replace H := sh_okT c H
    show wq_246 d Q 109 [oR 12 0, _] [] (sh_E h3)
    refine ai_WP_steps mc_246 (sh_CM d) 4 (And.intro (Nat.le_of_ble_eq_true rfl) (x_M_copy N (Nat.le_trans (Nat.le_of_ble_eq_true rfl) hd) (1 : Int32) (0 : Int32) h3 (sh_okB H) (fun h4 H => ?_)))
    show wq_246 d Q 115 [oR 12 0, _] [] (sh_E h4)
    have c := sh_okG H
    replace H := sh_okH H
    refine ai_WP_steps mc_246 (sh_CM d) 5 (And.intro c ?_)
    show wq_246 d Q 122 [oR 12 0, _] [] (sh_E (sh_pI h4 16 0 (2 : Int32).toNatClampNeg ((0 : Int32) &&& 1)))
    replace H := sh_okL H
    generalize sh_pI h4 16 0 (2 : Int32).toNatClampNeg ((0 : Int32) &&& 1) = h5 at H ⊢
    have c := sh_okG H
    replace H := sh_okH H
    refine ai_WP_steps mc_246 (sh_CM d) 5 (And.intro c ?_)
    show wq_246 d Q 129 [oR 12 0, _] [] (sh_E (sh_pI h5 16 0 (3 : Int32).toNatClampNeg ((0 : Int32) &&& 1)))
    replace H := sh_okL H
    generalize sh_pI h5 16 0 (3 : Int32).toNatClampNeg ((0 : Int32) &&& 1) = h6 at H ⊢
    exact ai_WP_steps mc_246 (sh_CM d) 2 (hR (0 : Int32) h6 H)
  · replace H := sh_okF c H
    show wq_246 d Q 104 [oR 12 0, _] [] (sh_E h3)
    exact ai_WP_steps mc_246 (sh_CM d) 3 (hR (h3.1 12 0 8) h3 H)
def f_M_read_b62 (N : Nat)    (h : sh_H) : Option (Int32 × sh_H) := (sh_b2 (f_M_parses N h) (fun v7 h8 => (if v7 = 0 then f_M_read_b92 N h8 else (if (h8.1 12 0 10) = 0 then f_M_read_b92 N h8 else (sh_let (sh_pI h8 12 0 8 (h8.1 12 0 10)) (fun h9 => (sh_let (sh_pI h9 12 0 9 (h9.1 12 0 11)) (fun h10 => f_M_read_b92 N h10))))))))
theorem x_M_read_b62 (N : Nat) {d : Nat} (hd : 8 ≤ d) {Q : ai_Q} {R : Int32 × sh_H → Prop} (hR : ∀ r h, R (r, h) → Q (some (aI r)) (sh_E h))    {d1 : Option ai_V} (h : sh_H) (H : sh_ok (f_M_read_b62 N h) R) : wq_246 d Q 62 [oR 12 0, d1] [] (sh_E h) := by
  refine ai_WP_steps mc_246 (sh_CM d) 2 (And.intro (Nat.le_of_ble_eq_true rfl) (x_M_parses N (Nat.le_trans (Nat.le_of_ble_eq_true rfl) hd) h (sh_okB H) (fun v7 h8 H => ?_)))
  show wq_246 d Q 66 [oR 12 0, _] [aI v7] (sh_E h8)
  refine ai_WP_steps mc_246 (sh_CM d) 1 (And.intro (fun c => ?_) (fun c => ?_))
  · replace H := sh_okT c H
    exact x_M_read_b92 N hd hR h8 H
  · replace H := sh_okF c H
    show wq_246 d Q 69 [oR 12 0, _] [] (sh_E h8)
    refine ai_WP_steps mc_246 (sh_CM d) 3 (And.intro (fun c => ?_) (fun c => ?_))
    · replace H := sh_okT c H
      exact x_M_read_b92 N hd hR h8 H
    · replace H := sh_okF c H
      show wq_246 d Q 76 [oR 12 0, _] [] (sh_E h8)
      refine ai_WP_steps mc_246 (sh_CM d) 4 (And.intro trivial ?_)
      show wq_246 d Q 84 [oR 12 0, _] [] (sh_E (sh_pI h8 12 0 8 (h8.1 12 0 10)))
      replace H := sh_okL H
      generalize sh_pI h8 12 0 8 (h8.1 12 0 10) = h9 at H ⊢
      refine ai_WP_steps mc_246 (sh_CM d) 4 (And.intro trivial ?_)
      show wq_246 d Q 92 [oR 12 0, _] [] (sh_E (sh_pI h9 12 0 9 (h9.1 12 0 11)))
      replace H := sh_okL H
      generalize sh_pI h9 12 0 9 (h9.1 12 0 11) = h10 at H ⊢
      exact x_M_read_b92 N hd hR h10 H
def f_M_read_b40 (N : Nat)    (h : sh_H) : Option (Int32 × sh_H) := f_M_read_l42 N (f_M_read_b62 N) N (0 : Int32) h
theorem x_M_read_b40 (N : Nat) {d : Nat} (hd : 8 ≤ d) {Q : ai_Q} {R : Int32 × sh_H → Prop} (hR : ∀ r h, R (r, h) → Q (some (aI r)) (sh_E h))    {d1 : Option ai_V} (h : sh_H) (H : sh_ok (f_M_read_b40 N h) R) : wq_246 d Q 40 [oR 12 0, d1] [] (sh_E h) := by
  refine ai_WP_steps mc_246 (sh_CM d) 2 ?_
  exact x_M_read_l42 N hd hR (f_M_read_b62 N) (fun {e1} h H => x_M_read_b62 N hd hR  h H) N (0 : Int32) h H
def f_M_read (N : Nat)   (h : sh_H) : Option (Int32 × sh_H) := (Option.bind (f_M_scanAll N h) (fun h11 => (sh_let (sh_pI h11 12 0 8 (0 : Int32)) (fun h12 => (sh_let (sh_pI h12 12 0 9 (-1 : Int32)) (fun h13 => (sh_let (sh_pI h13 12 0 10 (0 : Int32)) (fun h14 => f_M_read_l21 N (f_M_read_b40 N) N (0 : Int32) h14))))))))
theorem x_M_read (N : Nat) {d : Nat} (hd : 9 ≤ d)  (h : sh_H) {Q : ai_Q} {R : Int32 × sh_H → Prop} (H : sh_ok (f_M_read N h) R) (hR : ∀ r h, R (r, h) → Q (some (aI r)) (sh_E h)) : ai_Ex sh_T d 246 [aR 12 0] (sh_E h) Q := by
  obtain ⟨d, rfl⟩ : ∃ e, d = e + 1 := ⟨d - 1, by omega⟩
  replace hd : 8 ≤ d := by omega
  refine And.intro (Nat.le_of_ble_eq_true rfl) ?_
  show wq_246 d Q 0 [oR 12 0, none] [] (sh_E h)
  refine ai_WP_steps mc_246 (sh_CM d) 2 (And.intro (Nat.le_of_ble_eq_true rfl) (x_M_scanAll N (Nat.le_trans (Nat.le_of_ble_eq_true rfl) hd) h (sh_okB H) (fun h11 H => ?_)))
  show wq_246 d Q 4 [oR 12 0, _] [] (sh_E h11)
  refine ai_WP_steps mc_246 (sh_CM d) 3 (And.intro trivial ?_)
  show wq_246 d Q 9 [oR 12 0, _] [] (sh_E (sh_pI h11 12 0 8 (0 : Int32)))
  replace H := sh_okL H
  generalize sh_pI h11 12 0 8 (0 : Int32) = h12 at H ⊢
  refine ai_WP_steps mc_246 (sh_CM d) 3 (And.intro trivial ?_)
  show wq_246 d Q 14 [oR 12 0, _] [] (sh_E (sh_pI h12 12 0 9 (-1 : Int32)))
  replace H := sh_okL H
  generalize sh_pI h12 12 0 9 (-1 : Int32) = h13 at H ⊢
  refine ai_WP_steps mc_246 (sh_CM d) 3 (And.intro trivial ?_)
  show wq_246 d Q 19 [oR 12 0, _] [] (sh_E (sh_pI h13 12 0 10 (0 : Int32)))
  replace H := sh_okL H
  generalize sh_pI h13 12 0 10 (0 : Int32) = h14 at H ⊢
  refine ai_WP_steps mc_246 (sh_CM d) 2 ?_
  exact x_M_read_l21 N hd hR (f_M_read_b40 N) (fun {e1} h H => x_M_read_b40 N hd hR  h H) N (0 : Int32) h14 H
def f_M_place   (h : sh_H) : Option Int32 := (some (h.1 12 0 9))
theorem x_M_place {d : Nat} (hd : 1 ≤ d)  (h : sh_H) {Q : ai_Q} {R : Int32 → Prop} (H : sh_ok (f_M_place h) R) (hR : ∀ r, R r → Q (some (aI r)) (sh_E h)) : ai_Ex sh_T d 247 [aR 12 0] (sh_E h) Q := by
  obtain ⟨d, rfl⟩ : ∃ e, d = e + 1 := ⟨d - 1, by omega⟩
  replace hd : 0 ≤ d := by omega
  refine And.intro (Nat.le_of_ble_eq_true rfl) ?_
  show wq_247 d Q 0 [oR 12 0] [] (sh_E h)
  exact ai_WP_steps mc_247 (sh_CM d) 3 (hR (h.1 12 0 9) H)
def f_M_hold (N : Nat)  (l1 : Int32) (h : sh_H) : Option (Int32 × sh_H) := (if l1 < 0 then (some ((ai_nar 1 (0 : Int32)), h)) else (if (1 : Int32) < l1 then (some ((ai_nar 1 (0 : Int32)), h)) else (Option.bind (f_M_copy N (0 : Int32) ((2 : Int32) + l1) h) (fun h1 => (if ai_in ((2 : Int32) + l1) 4 then (sh_let (sh_pI h1 16 0 ((2 : Int32) + l1).toNatClampNeg ((1 : Int32) &&& 1)) (fun h2 => (some ((ai_nar 1 (1 : Int32)), h2)))) else none)))))
theorem x_M_hold (N : Nat) {d : Nat} (hd : 2 ≤ d) (l1 : Int32) (h : sh_H) {Q : ai_Q} {R : Int32 × sh_H → Prop} (H : sh_ok (f_M_hold N l1 h) R) (hR : ∀ r h, R (r, h) → Q (some (aI r)) (sh_E h)) : ai_Ex sh_T d 248 [aR 12 0, aI l1] (sh_E h) Q := by
  obtain ⟨d, rfl⟩ : ∃ e, d = e + 1 := ⟨d - 1, by omega⟩
  replace hd : 1 ≤ d := by omega
  refine And.intro (Nat.le_of_ble_eq_true rfl) ?_
  show wq_248 d Q 0 [oR 12 0, oI l1] [] (sh_E h)
  refine ai_WP_steps mc_248 (sh_CM d) 2 (And.intro (fun c => ?_) (fun c => ?_))
  · replace H := sh_okT c H
    show wq_248 d Q 9 [oR 12 0, oI l1] [] (sh_E h)
    exact ai_WP_steps mc_248 (sh_CM d) 2 (hR (ai_nar 1 (0 : Int32)) h H)
  · replace H := sh_okF c H
    show wq_248 d Q 4 [oR 12 0, oI l1] [] (sh_E h)
    refine ai_WP_steps mc_248 (sh_CM d) 3 (And.intro (fun c => ?_) (fun c => ?_))
    · replace H := sh_okT c H
      show wq_248 d Q 9 [oR 12 0, oI l1] [] (sh_E h)
      exact ai_WP_steps mc_248 (sh_CM d) 2 (hR (ai_nar 1 (0 : Int32)) h H)
    · replace H := sh_okF c H
      show wq_248 d Q 11 [oR 12 0, oI l1] [] (sh_E h)
      refine ai_WP_steps mc_248 (sh_CM d) 6 (And.intro (Nat.le_of_ble_eq_true rfl) (x_M_copy N (Nat.le_trans (Nat.le_of_ble_eq_true rfl) hd) (0 : Int32) ((2 : Int32) + l1) h (sh_okB H) (fun h1 H => ?_)))
      show wq_248 d Q 19 [oR 12 0, oI l1] [] (sh_E h1)
      have c := sh_okG H
      replace H := sh_okH H
      refine ai_WP_steps mc_248 (sh_CM d) 7 (And.intro c ?_)
      show wq_248 d Q 28 [oR 12 0, oI l1] [] (sh_E (sh_pI h1 16 0 ((2 : Int32) + l1).toNatClampNeg ((1 : Int32) &&& 1)))
      replace H := sh_okL H
      generalize sh_pI h1 16 0 ((2 : Int32) + l1).toNatClampNeg ((1 : Int32) &&& 1) = h2 at H ⊢
      exact ai_WP_steps mc_248 (sh_CM d) 2 (hR (ai_nar 1 (1 : Int32)) h2 H)
def f_M_restore (N : Nat)  (l1 : Int32) (h : sh_H) : Option (Int32 × sh_H) := (if l1 < 0 then (some ((ai_nar 1 (0 : Int32)), h)) else (if (1 : Int32) < l1 then (some ((ai_nar 1 (0 : Int32)), h)) else (if ai_in ((2 : Int32) + l1) 4 then (if (h.1 16 0 ((2 : Int32) + l1).toNatClampNeg) = 0 then (some ((ai_nar 1 (0 : Int32)), h)) else (Option.bind (f_M_copy N ((2 : Int32) + l1) (0 : Int32) h) (fun h1 => (some ((ai_nar 1 (1 : Int32)), h1))))) else none)))
theorem x_M_restore (N : Nat) {d : Nat} (hd : 2 ≤ d) (l1 : Int32) (h : sh_H) {Q : ai_Q} {R : Int32 × sh_H → Prop} (H : sh_ok (f_M_restore N l1 h) R) (hR : ∀ r h, R (r, h) → Q (some (aI r)) (sh_E h)) : ai_Ex sh_T d 249 [aR 12 0, aI l1] (sh_E h) Q := by
  obtain ⟨d, rfl⟩ : ∃ e, d = e + 1 := ⟨d - 1, by omega⟩
  replace hd : 1 ≤ d := by omega
  refine And.intro (Nat.le_of_ble_eq_true rfl) ?_
  show wq_249 d Q 0 [oR 12 0, oI l1] [] (sh_E h)
  refine ai_WP_steps mc_249 (sh_CM d) 2 (And.intro (fun c => ?_) (fun c => ?_))
  · replace H := sh_okT c H
    show wq_249 d Q 20 [oR 12 0, oI l1] [] (sh_E h)
    exact ai_WP_steps mc_249 (sh_CM d) 2 (hR (ai_nar 1 (0 : Int32)) h H)
  · replace H := sh_okF c H
    show wq_249 d Q 4 [oR 12 0, oI l1] [] (sh_E h)
    refine ai_WP_steps mc_249 (sh_CM d) 3 (And.intro (fun c => ?_) (fun c => ?_))
    · replace H := sh_okT c H
      show wq_249 d Q 20 [oR 12 0, oI l1] [] (sh_E h)
      exact ai_WP_steps mc_249 (sh_CM d) 2 (hR (ai_nar 1 (0 : Int32)) h H)
    · replace H := sh_okF c H
      show wq_249 d Q 9 [oR 12 0, oI l1] [] (sh_E h)
      have c := sh_okG H
      replace H := sh_okH H
      refine ai_WP_steps mc_249 (sh_CM d) 6 (And.intro c ?_)
      show wq_249 d Q 17 [oR 12 0, oI l1] [aI (h.1 16 0 ((2 : Int32) + l1).toNatClampNeg)] (sh_E h)
      refine ai_WP_steps mc_249 (sh_CM d) 1 (And.intro (fun c => ?_) (fun c => ?_))
      · replace H := sh_okT c H
        show wq_249 d Q 20 [oR 12 0, oI l1] [] (sh_E h)
        exact ai_WP_steps mc_249 (sh_CM d) 2 (hR (ai_nar 1 (0 : Int32)) h H)
      · replace H := sh_okF c H
        show wq_249 d Q 22 [oR 12 0, oI l1] [] (sh_E h)
        refine ai_WP_steps mc_249 (sh_CM d) 6 (And.intro (Nat.le_of_ble_eq_true rfl) (x_M_copy N (Nat.le_trans (Nat.le_of_ble_eq_true rfl) hd) ((2 : Int32) + l1) (0 : Int32) h (sh_okB H) (fun h1 H => ?_)))
        show wq_249 d Q 30 [oR 12 0, oI l1] [] (sh_E h1)
        exact ai_WP_steps mc_249 (sh_CM d) 2 (hR (ai_nar 1 (1 : Int32)) h1 H)
def f_M_isIn_b14    (h : sh_H) : Option Int32 := (some (ai_nar 1 (0 : Int32)))
theorem x_M_isIn_b14 {d : Nat} (hd : 0 ≤ d) (h : sh_H) {Q : ai_Q} {R : Int32 → Prop} (hR : ∀ r, R r → Q (some (aI r)) (sh_E h))    {d0 d1 d2 : Option ai_V} (H : sh_ok (f_M_isIn_b14 h) R) : wq_250 d Q 14 [d0, d1, d2] [] (sh_E h) := by
  exact ai_WP_steps mc_250 (sh_CM d) 2 (hR (ai_nar 1 (0 : Int32)) H)
def f_M_isIn  (l0 : Int32) (l1 : Int32) (l2 : Int32) (h : sh_H) : Option Int32 := (if l0 < l1 then f_M_isIn_b14 h else (if l2 < l0 then f_M_isIn_b14 h else (some (ai_nar 1 (1 : Int32)))))
theorem x_M_isIn {d : Nat} (hd : 1 ≤ d) (l0 : Int32) (l1 : Int32) (l2 : Int32) (h : sh_H) {Q : ai_Q} {R : Int32 → Prop} (H : sh_ok (f_M_isIn l0 l1 l2 h) R) (hR : ∀ r, R r → Q (some (aI r)) (sh_E h)) : ai_Ex sh_T d 250 [aI l0, aI l1, aI l2] (sh_E h) Q := by
  obtain ⟨d, rfl⟩ : ∃ e, d = e + 1 := ⟨d - 1, by omega⟩
  replace hd : 0 ≤ d := by omega
  refine And.intro (Nat.le_of_ble_eq_true rfl) ?_
  show wq_250 d Q 0 [oI l0, oI l1, oI l2] [] (sh_E h)
  refine ai_WP_steps mc_250 (sh_CM d) 3 (And.intro (fun c => ?_) (fun c => ?_))
  · replace H := sh_okT c H
    exact x_M_isIn_b14 hd h hR H
  · replace H := sh_okF c H
    show wq_250 d Q 5 [oI l0, oI l1, oI l2] [] (sh_E h)
    refine ai_WP_steps mc_250 (sh_CM d) 3 (And.intro (fun c => ?_) (fun c => ?_))
    · replace H := sh_okT c H
      exact x_M_isIn_b14 hd h hR H
    · replace H := sh_okF c H
      show wq_250 d Q 10 [oI l0, oI l1, oI l2] [] (sh_E h)
      exact ai_WP_steps mc_250 (sh_CM d) 3 (hR (ai_nar 1 (1 : Int32)) H)
def f_M_isKind_b18    (h : sh_H) : Option Int32 := (some (ai_nar 1 (0 : Int32)))
theorem x_M_isKind_b18 {d : Nat} (hd : 0 ≤ d) (h : sh_H) {Q : ai_Q} {R : Int32 → Prop} (hR : ∀ r, R r → Q (some (aI r)) (sh_E h))    {d0 d1 : Option ai_V} (H : sh_ok (f_M_isKind_b18 h) R) : wq_251 d Q 18 [d0, d1] [] (sh_E h) := by
  exact ai_WP_steps mc_251 (sh_CM d) 2 (hR (ai_nar 1 (0 : Int32)) H)
def f_M_isKind  (l1 : Int32) (h : sh_H) : Option Int32 := (if l1 < 0 then f_M_isKind_b18 h else (if ai_in (0 : Int32) 8000 then (if l1 < (h.1 13 46 (0 : Int32).toNatClampNeg) then (some (ai_nar 1 (1 : Int32))) else f_M_isKind_b18 h) else none))
theorem x_M_isKind {d : Nat} (hd : 1 ≤ d) (l1 : Int32) (h : sh_H) {Q : ai_Q} {R : Int32 → Prop} (H : sh_ok (f_M_isKind l1 h) R) (hR : ∀ r, R r → Q (some (aI r)) (sh_E h)) : ai_Ex sh_T d 251 [aR 12 0, aI l1] (sh_E h) Q := by
  obtain ⟨d, rfl⟩ : ∃ e, d = e + 1 := ⟨d - 1, by omega⟩
  replace hd : 0 ≤ d := by omega
  refine And.intro (Nat.le_of_ble_eq_true rfl) ?_
  show wq_251 d Q 0 [oR 12 0, oI l1] [] (sh_E h)
  refine ai_WP_steps mc_251 (sh_CM d) 2 (And.intro (fun c => ?_) (fun c => ?_))
  · replace H := sh_okT c H
    exact x_M_isKind_b18 hd h hR H
  · replace H := sh_okF c H
    show wq_251 d Q 4 [oR 12 0, oI l1] [] (sh_E h)
    have c := sh_okG H
    replace H := sh_okH H
    refine ai_WP_steps mc_251 (sh_CM d) 5 (And.intro c ?_)
    show wq_251 d Q 11 [oR 12 0, oI l1] [aI (h.1 13 46 (0 : Int32).toNatClampNeg), aI l1] (sh_E h)
    refine ai_WP_steps mc_251 (sh_CM d) 1 (And.intro (fun c => ?_) (fun c => ?_))
    · replace H := sh_okT c H
      show wq_251 d Q 14 [oR 12 0, oI l1] [] (sh_E h)
      exact ai_WP_steps mc_251 (sh_CM d) 3 (hR (ai_nar 1 (1 : Int32)) H)
    · replace H := sh_okF c H
      exact x_M_isKind_b18 hd h hR H
def f_M_isPlace_b18    (h : sh_H) : Option Int32 := (some (ai_nar 1 (0 : Int32)))
theorem x_M_isPlace_b18 {d : Nat} (hd : 0 ≤ d) (h : sh_H) {Q : ai_Q} {R : Int32 → Prop} (hR : ∀ r, R r → Q (some (aI r)) (sh_E h))    {d0 d1 : Option ai_V} (H : sh_ok (f_M_isPlace_b18 h) R) : wq_252 d Q 18 [d0, d1] [] (sh_E h) := by
  exact ai_WP_steps mc_252 (sh_CM d) 2 (hR (ai_nar 1 (0 : Int32)) H)
def f_M_isPlace  (l1 : Int32) (h : sh_H) : Option Int32 := (if l1 < 0 then f_M_isPlace_b18 h else (if ai_in (1 : Int32) 8000 then (if (h.1 13 46 (1 : Int32).toNatClampNeg) < l1 then f_M_isPlace_b18 h else (some (ai_nar 1 (1 : Int32)))) else none))
theorem x_M_isPlace {d : Nat} (hd : 1 ≤ d) (l1 : Int32) (h : sh_H) {Q : ai_Q} {R : Int32 → Prop} (H : sh_ok (f_M_isPlace l1 h) R) (hR : ∀ r, R r → Q (some (aI r)) (sh_E h)) : ai_Ex sh_T d 252 [aR 12 0, aI l1] (sh_E h) Q := by
  obtain ⟨d, rfl⟩ : ∃ e, d = e + 1 := ⟨d - 1, by omega⟩
  replace hd : 0 ≤ d := by omega
  refine And.intro (Nat.le_of_ble_eq_true rfl) ?_
  show wq_252 d Q 0 [oR 12 0, oI l1] [] (sh_E h)
  refine ai_WP_steps mc_252 (sh_CM d) 2 (And.intro (fun c => ?_) (fun c => ?_))
  · replace H := sh_okT c H
    exact x_M_isPlace_b18 hd h hR H
  · replace H := sh_okF c H
    show wq_252 d Q 4 [oR 12 0, oI l1] [] (sh_E h)
    have c := sh_okG H
    replace H := sh_okH H
    refine ai_WP_steps mc_252 (sh_CM d) 5 (And.intro c ?_)
    show wq_252 d Q 11 [oR 12 0, oI l1] [aI (h.1 13 46 (1 : Int32).toNatClampNeg), aI l1] (sh_E h)
    refine ai_WP_steps mc_252 (sh_CM d) 1 (And.intro (fun c => ?_) (fun c => ?_))
    · replace H := sh_okT c H
      exact x_M_isPlace_b18 hd h hR H
    · replace H := sh_okF c H
      show wq_252 d Q 14 [oR 12 0, oI l1] [] (sh_E h)
      exact ai_WP_steps mc_252 (sh_CM d) 3 (hR (ai_nar 1 (1 : Int32)) H)
def f_M_isIsland_b18    (h : sh_H) : Option Int32 := (some (ai_nar 1 (0 : Int32)))
theorem x_M_isIsland_b18 {d : Nat} (hd : 0 ≤ d) (h : sh_H) {Q : ai_Q} {R : Int32 → Prop} (hR : ∀ r, R r → Q (some (aI r)) (sh_E h))    {d0 d1 : Option ai_V} (H : sh_ok (f_M_isIsland_b18 h) R) : wq_253 d Q 18 [d0, d1] [] (sh_E h) := by
  exact ai_WP_steps mc_253 (sh_CM d) 2 (hR (ai_nar 1 (0 : Int32)) H)
def f_M_isIsland  (l1 : Int32) (h : sh_H) : Option Int32 := (if 0 < l1 then (if ai_in (1 : Int32) 8000 then (if (h.1 13 46 (1 : Int32).toNatClampNeg) < l1 then f_M_isIsland_b18 h else (some (ai_nar 1 (1 : Int32)))) else none) else f_M_isIsland_b18 h)
theorem x_M_isIsland {d : Nat} (hd : 1 ≤ d) (l1 : Int32) (h : sh_H) {Q : ai_Q} {R : Int32 → Prop} (H : sh_ok (f_M_isIsland l1 h) R) (hR : ∀ r, R r → Q (some (aI r)) (sh_E h)) : ai_Ex sh_T d 253 [aR 12 0, aI l1] (sh_E h) Q := by
  obtain ⟨d, rfl⟩ : ∃ e, d = e + 1 := ⟨d - 1, by omega⟩
  replace hd : 0 ≤ d := by omega
  refine And.intro (Nat.le_of_ble_eq_true rfl) ?_
  show wq_253 d Q 0 [oR 12 0, oI l1] [] (sh_E h)
  refine ai_WP_steps mc_253 (sh_CM d) 2 (And.intro (fun c => ?_) (fun c => ?_))
  · replace H := sh_okT c H
    show wq_253 d Q 4 [oR 12 0, oI l1] [] (sh_E h)
    have c := sh_okG H
    replace H := sh_okH H
    refine ai_WP_steps mc_253 (sh_CM d) 5 (And.intro c ?_)
    show wq_253 d Q 11 [oR 12 0, oI l1] [aI (h.1 13 46 (1 : Int32).toNatClampNeg), aI l1] (sh_E h)
    refine ai_WP_steps mc_253 (sh_CM d) 1 (And.intro (fun c => ?_) (fun c => ?_))
    · replace H := sh_okT c H
      exact x_M_isIsland_b18 hd h hR H
    · replace H := sh_okF c H
      show wq_253 d Q 14 [oR 12 0, oI l1] [] (sh_E h)
      exact ai_WP_steps mc_253 (sh_CM d) 3 (hR (ai_nar 1 (1 : Int32)) H)
  · replace H := sh_okF c H
    exact x_M_isIsland_b18 hd h hR H
def f_M_worth  (l1 : Int32) (h : sh_H) : Option Int32 := (if ai_in ((20 : Int32) + ((3 : Int32) * l1)) 8000 then (some (h.1 13 46 ((20 : Int32) + ((3 : Int32) * l1)).toNatClampNeg)) else none)
theorem x_M_worth {d : Nat} (hd : 1 ≤ d) (l1 : Int32) (h : sh_H) {Q : ai_Q} {R : Int32 → Prop} (H : sh_ok (f_M_worth l1 h) R) (hR : ∀ r, R r → Q (some (aI r)) (sh_E h)) : ai_Ex sh_T d 254 [aR 12 0, aI l1] (sh_E h) Q := by
  obtain ⟨d, rfl⟩ : ∃ e, d = e + 1 := ⟨d - 1, by omega⟩
  replace hd : 0 ≤ d := by omega
  refine And.intro (Nat.le_of_ble_eq_true rfl) ?_
  show wq_254 d Q 0 [oR 12 0, oI l1] [] (sh_E h)
  have c := sh_okG H
  replace H := sh_okH H
  refine ai_WP_steps mc_254 (sh_CM d) 8 (And.intro c ?_)
  show wq_254 d Q 11 [oR 12 0, oI l1] [aI (h.1 13 46 ((20 : Int32) + ((3 : Int32) * l1)).toNatClampNeg)] (sh_E h)
  exact ai_WP_steps mc_254 (sh_CM d) 1 (hR (h.1 13 46 ((20 : Int32) + ((3 : Int32) * l1)).toNatClampNeg) H)
def f_M_harm  (l1 : Int32) (h : sh_H) : Option Int32 := (if ai_in (((40 : Int32) + ((2 : Int32) * l1)) - (1 : Int32)) 8000 then (some (h.1 13 46 (((40 : Int32) + ((2 : Int32) * l1)) - (1 : Int32)).toNatClampNeg)) else none)
theorem x_M_harm {d : Nat} (hd : 1 ≤ d) (l1 : Int32) (h : sh_H) {Q : ai_Q} {R : Int32 → Prop} (H : sh_ok (f_M_harm l1 h) R) (hR : ∀ r, R r → Q (some (aI r)) (sh_E h)) : ai_Ex sh_T d 255 [aR 12 0, aI l1] (sh_E h) Q := by
  obtain ⟨d, rfl⟩ : ∃ e, d = e + 1 := ⟨d - 1, by omega⟩
  replace hd : 0 ≤ d := by omega
  refine And.intro (Nat.le_of_ble_eq_true rfl) ?_
  show wq_255 d Q 0 [oR 12 0, oI l1] [] (sh_E h)
  have c := sh_okG H
  replace H := sh_okH H
  refine ai_WP_steps mc_255 (sh_CM d) 10 (And.intro c ?_)
  show wq_255 d Q 13 [oR 12 0, oI l1] [aI (h.1 13 46 (((40 : Int32) + ((2 : Int32) * l1)) - (1 : Int32)).toNatClampNeg)] (sh_E h)
  exact ai_WP_steps mc_255 (sh_CM d) 1 (hR (h.1 13 46 (((40 : Int32) + ((2 : Int32) * l1)) - (1 : Int32)).toNatClampNeg) H)
def f_M_kind_b33    (h : sh_H) : Option Int32 := (some (-1 : Int32))
theorem x_M_kind_b33 {d : Nat} (hd : 1 ≤ d) (h : sh_H) {Q : ai_Q} {R : Int32 → Prop} (hR : ∀ r, R r → Q (some (aI r)) (sh_E h))    {d0 d1 d2 : Option ai_V} (H : sh_ok (f_M_kind_b33 h) R) : wq_256 d Q 33 [d0, d1, d2] [] (sh_E h) := by
  exact ai_WP_steps mc_256 (sh_CM d) 2 (hR (-1 : Int32) H)
def f_M_kind  (l1 : Int32) (l2 : Int32) (h : sh_H) : Option Int32 := (Option.bind (f_M_isKind l1 h) (fun v1 => (if v1 = 0 then f_M_kind_b33 h else (Option.bind (f_M_isIn l2 (0 : Int32) (2 : Int32) h) (fun v2 => (if v2 = 0 then f_M_kind_b33 h else (if ai_in (((20 : Int32) + ((3 : Int32) * l1)) + l2) 8000 then (some (h.1 13 46 (((20 : Int32) + ((3 : Int32) * l1)) + l2).toNatClampNeg)) else none)))))))
theorem x_M_kind {d : Nat} (hd : 2 ≤ d) (l1 : Int32) (l2 : Int32) (h : sh_H) {Q : ai_Q} {R : Int32 → Prop} (H : sh_ok (f_M_kind l1 l2 h) R) (hR : ∀ r, R r → Q (some (aI r)) (sh_E h)) : ai_Ex sh_T d 256 [aR 12 0, aI l1, aI l2] (sh_E h) Q := by
  obtain ⟨d, rfl⟩ : ∃ e, d = e + 1 := ⟨d - 1, by omega⟩
  replace hd : 1 ≤ d := by omega
  refine And.intro (Nat.le_of_ble_eq_true rfl) ?_
  show wq_256 d Q 0 [oR 12 0, oI l1, oI l2] [] (sh_E h)
  refine ai_WP_steps mc_256 (sh_CM d) 3 (And.intro (Nat.le_of_ble_eq_true rfl) (x_M_isKind (Nat.le_trans (Nat.le_of_ble_eq_true rfl) hd) l1 h (sh_okB H) (fun v1 H => ?_)))
  show wq_256 d Q 5 [oR 12 0, oI l1, oI l2] [aI v1] (sh_E h)
  refine ai_WP_steps mc_256 (sh_CM d) 1 (And.intro (fun c => ?_) (fun c => ?_))
  · replace H := sh_okT c H
    exact x_M_kind_b33 hd h hR H
  · replace H := sh_okF c H
    show wq_256 d Q 8 [oR 12 0, oI l1, oI l2] [] (sh_E h)
    refine ai_WP_steps mc_256 (sh_CM d) 4 (And.intro (Nat.le_of_ble_eq_true rfl) (x_M_isIn (Nat.le_trans (Nat.le_of_ble_eq_true rfl) hd) l2 (0 : Int32) (2 : Int32) h (sh_okB H) (fun v2 H => ?_)))
    show wq_256 d Q 14 [oR 12 0, oI l1, oI l2] [aI v2] (sh_E h)
    refine ai_WP_steps mc_256 (sh_CM d) 1 (And.intro (fun c => ?_) (fun c => ?_))
    · replace H := sh_okT c H
      exact x_M_kind_b33 hd h hR H
    · replace H := sh_okF c H
      show wq_256 d Q 17 [oR 12 0, oI l1, oI l2] [] (sh_E h)
      have c := sh_okG H
      replace H := sh_okH H
      refine ai_WP_steps mc_256 (sh_CM d) 10 (And.intro c ?_)
      show wq_256 d Q 30 [oR 12 0, oI l1, oI l2] [aI (h.1 13 46 (((20 : Int32) + ((3 : Int32) * l1)) + l2).toNatClampNeg)] (sh_E h)
      exact ai_WP_steps mc_256 (sh_CM d) 2 (hR (h.1 13 46 (((20 : Int32) + ((3 : Int32) * l1)) + l2).toNatClampNeg) H)
def f_M_island_b35    (h : sh_H) : Option Int32 := (some (-1 : Int32))
theorem x_M_island_b35 {d : Nat} (hd : 1 ≤ d) (h : sh_H) {Q : ai_Q} {R : Int32 → Prop} (hR : ∀ r, R r → Q (some (aI r)) (sh_E h))    {d0 d1 d2 : Option ai_V} (H : sh_ok (f_M_island_b35 h) R) : wq_257 d Q 35 [d0, d1, d2] [] (sh_E h) := by
  exact ai_WP_steps mc_257 (sh_CM d) 2 (hR (-1 : Int32) H)
def f_M_island  (l1 : Int32) (l2 : Int32) (h : sh_H) : Option Int32 := (Option.bind (f_M_isIsland l1 h) (fun v1 => (if v1 = 0 then f_M_island_b35 h else (Option.bind (f_M_isIn l2 (0 : Int32) (1 : Int32) h) (fun v2 => (if v2 = 0 then f_M_island_b35 h else (if ai_in (((40 : Int32) + ((2 : Int32) * (l1 - (1 : Int32)))) + l2) 8000 then (some (h.1 13 46 (((40 : Int32) + ((2 : Int32) * (l1 - (1 : Int32)))) + l2).toNatClampNeg)) else none)))))))
theorem x_M_island {d : Nat} (hd : 2 ≤ d) (l1 : Int32) (l2 : Int32) (h : sh_H) {Q : ai_Q} {R : Int32 → Prop} (H : sh_ok (f_M_island l1 l2 h) R) (hR : ∀ r, R r → Q (some (aI r)) (sh_E h)) : ai_Ex sh_T d 257 [aR 12 0, aI l1, aI l2] (sh_E h) Q := by
  obtain ⟨d, rfl⟩ : ∃ e, d = e + 1 := ⟨d - 1, by omega⟩
  replace hd : 1 ≤ d := by omega
  refine And.intro (Nat.le_of_ble_eq_true rfl) ?_
  show wq_257 d Q 0 [oR 12 0, oI l1, oI l2] [] (sh_E h)
  refine ai_WP_steps mc_257 (sh_CM d) 3 (And.intro (Nat.le_of_ble_eq_true rfl) (x_M_isIsland (Nat.le_trans (Nat.le_of_ble_eq_true rfl) hd) l1 h (sh_okB H) (fun v1 H => ?_)))
  show wq_257 d Q 5 [oR 12 0, oI l1, oI l2] [aI v1] (sh_E h)
  refine ai_WP_steps mc_257 (sh_CM d) 1 (And.intro (fun c => ?_) (fun c => ?_))
  · replace H := sh_okT c H
    exact x_M_island_b35 hd h hR H
  · replace H := sh_okF c H
    show wq_257 d Q 8 [oR 12 0, oI l1, oI l2] [] (sh_E h)
    refine ai_WP_steps mc_257 (sh_CM d) 4 (And.intro (Nat.le_of_ble_eq_true rfl) (x_M_isIn (Nat.le_trans (Nat.le_of_ble_eq_true rfl) hd) l2 (0 : Int32) (1 : Int32) h (sh_okB H) (fun v2 H => ?_)))
    show wq_257 d Q 14 [oR 12 0, oI l1, oI l2] [aI v2] (sh_E h)
    refine ai_WP_steps mc_257 (sh_CM d) 1 (And.intro (fun c => ?_) (fun c => ?_))
    · replace H := sh_okT c H
      exact x_M_island_b35 hd h hR H
    · replace H := sh_okF c H
      show wq_257 d Q 17 [oR 12 0, oI l1, oI l2] [] (sh_E h)
      have c := sh_okG H
      replace H := sh_okH H
      refine ai_WP_steps mc_257 (sh_CM d) 12 (And.intro c ?_)
      show wq_257 d Q 32 [oR 12 0, oI l1, oI l2] [aI (h.1 13 46 (((40 : Int32) + ((2 : Int32) * (l1 - (1 : Int32)))) + l2).toNatClampNeg)] (sh_E h)
      exact ai_WP_steps mc_257 (sh_CM d) 2 (hR (h.1 13 46 (((40 : Int32) + ((2 : Int32) * (l1 - (1 : Int32)))) + l2).toNatClampNeg) H)
def f_M_boatOf_b49 (N : Nat)  (k2 : Int32 → Int32 → Int32 → sh_H → Option Int32) (l1 : Int32) (l2 : Int32) (l3 : Int32) (h : sh_H) : Option Int32 := k2 l1 l2 (l3 + (1 : Int32)) h
theorem x_M_boatOf_b49 (N : Nat) {d : Nat} (hd : 0 ≤ d) (h : sh_H) {Q : ai_Q} {R : Int32 → Prop} (hR : ∀ r, R r → Q (some (aI r)) (sh_E h))  (k2 : Int32 → Int32 → Int32 → sh_H → Option Int32) (hk2 : ∀ (l1 : Int32) (l2 : Int32) (l3 : Int32), sh_ok (k2 l1 l2 l3 h) R → wq_258 d Q 2 [oR 12 0, oI l1, oI l2, oI l3] [] (sh_E h)) (l1 : Int32) (l2 : Int32) (l3 : Int32) (H : sh_ok (f_M_boatOf_b49 N k2 l1 l2 l3 h) R) : wq_258 d Q 49 [oR 12 0, oI l1, oI l2, oI l3] [] (sh_E h) := by
  refine ai_WP_steps mc_258 (sh_CM d) 2 ?_
  exact hk2 l1 l2 (l3 + (1 : Int32)) H
def f_M_boatOf_c2 (N : Nat)   (k2 : Int32 → Int32 → Int32 → sh_H → Option Int32) (l1 : Int32) (l2 : Int32) (l3 : Int32) (h : sh_H) : Option Int32 := (if ai_in (6 : Int32) 8000 then (if l3 < (h.1 13 46 (6 : Int32).toNatClampNeg) then (if ai_in ((250 : Int32) + ((5 : Int32) * l3)) 8000 then (if (h.1 13 46 ((250 : Int32) + ((5 : Int32) * l3)).toNatClampNeg) = l1 then (if ai_in (((250 : Int32) + ((5 : Int32) * l3)) + (1 : Int32)) 8000 then (if (h.1 13 46 (((250 : Int32) + ((5 : Int32) * l3)) + (1 : Int32)).toNatClampNeg) = l2 then (some l3) else f_M_boatOf_b49 N k2 l1 l2 l3 h) else none) else f_M_boatOf_b49 N k2 l1 l2 l3 h) else none) else (some (-2 : Int32))) else none)
def f_M_boatOf_l2 (N : Nat)   (n : Nat) : Int32 → Int32 → Int32 → sh_H → Option Int32 := Nat.rec (motive := fun _ => Int32 → Int32 → Int32 → sh_H → Option Int32) (fun _ _ _ _ => none) (fun _ k2 => f_M_boatOf_c2 N k2) n
theorem x_M_boatOf_l2 (N : Nat) {d : Nat} (hd : 0 ≤ d) (h : sh_H) {Q : ai_Q} {R : Int32 → Prop} (hR : ∀ r, R r → Q (some (aI r)) (sh_E h))   (n : Nat) : ∀ (l1 : Int32) (l2 : Int32) (l3 : Int32), sh_ok (f_M_boatOf_l2 N n l1 l2 l3 h) R → wq_258 d Q 2 [oR 12 0, oI l1, oI l2, oI l3] [] (sh_E h) := by
  induction n with
  | zero => intro l1 l2 l3 H; exact H.elim
  | succ n ih =>
    intro l1 l2 l3 H
    have hk2 := @ih
    replace H : sh_ok (f_M_boatOf_c2 N (f_M_boatOf_l2 N n) l1 l2 l3 h) R := H
    revert hk2 H
    generalize f_M_boatOf_l2 N n = k2
    intro hk2 H
    have c := sh_okG H
    replace H := sh_okH H
    refine ai_WP_steps mc_258 (sh_CM d) 5 (And.intro c ?_)
    show wq_258 d Q 10 [oR 12 0, oI l1, oI l2, oI l3] [aI (h.1 13 46 (6 : Int32).toNatClampNeg), aI l3] (sh_E h)
    refine ai_WP_steps mc_258 (sh_CM d) 1 (And.intro (fun c => ?_) (fun c => ?_))
    · replace H := sh_okT c H
      show wq_258 d Q 13 [oR 12 0, oI l1, oI l2, oI l3] [] (sh_E h)
      have c := sh_okG H
      replace H := sh_okH H
      refine ai_WP_steps mc_258 (sh_CM d) 8 (And.intro c ?_)
      show wq_258 d Q 25 [oR 12 0, oI l1, oI l2, oI l3] [aI (h.1 13 46 ((250 : Int32) + ((5 : Int32) * l3)).toNatClampNeg)] (sh_E h)
      refine ai_WP_steps mc_258 (sh_CM d) 2 (And.intro (fun c => ?_) (fun c => ?_))
      · replace H := sh_okT c H
        show wq_258 d Q 29 [oR 12 0, oI l1, oI l2, oI l3] [] (sh_E h)
        have c := sh_okG H
        replace H := sh_okH H
        refine ai_WP_steps mc_258 (sh_CM d) 10 (And.intro c ?_)
        show wq_258 d Q 43 [oR 12 0, oI l1, oI l2, oI l3] [aI (h.1 13 46 (((250 : Int32) + ((5 : Int32) * l3)) + (1 : Int32)).toNatClampNeg)] (sh_E h)
        refine ai_WP_steps mc_258 (sh_CM d) 2 (And.intro (fun c => ?_) (fun c => ?_))
        · replace H := sh_okT c H
          show wq_258 d Q 47 [oR 12 0, oI l1, oI l2, oI l3] [] (sh_E h)
          exact ai_WP_steps mc_258 (sh_CM d) 2 (hR l3 H)
        · replace H := sh_okF c H
          exact x_M_boatOf_b49 N hd h hR k2 hk2 l1 l2 l3 H
      · replace H := sh_okF c H
        exact x_M_boatOf_b49 N hd h hR k2 hk2 l1 l2 l3 H
    · replace H := sh_okF c H
      show wq_258 d Q 55 [oR 12 0, oI l1, oI l2, oI l3] [] (sh_E h)
      exact ai_WP_steps mc_258 (sh_CM d) 2 (hR (-2 : Int32) H)
def f_M_boatOf (N : Nat)  (l1 : Int32) (l2 : Int32) (h : sh_H) : Option Int32 := f_M_boatOf_l2 N N l1 l2 (0 : Int32) h
theorem x_M_boatOf (N : Nat) {d : Nat} (hd : 1 ≤ d) (l1 : Int32) (l2 : Int32) (h : sh_H) {Q : ai_Q} {R : Int32 → Prop} (H : sh_ok (f_M_boatOf N l1 l2 h) R) (hR : ∀ r, R r → Q (some (aI r)) (sh_E h)) : ai_Ex sh_T d 258 [aR 12 0, aI l1, aI l2] (sh_E h) Q := by
  obtain ⟨d, rfl⟩ : ∃ e, d = e + 1 := ⟨d - 1, by omega⟩
  replace hd : 0 ≤ d := by omega
  refine And.intro (Nat.le_of_ble_eq_true rfl) ?_
  show wq_258 d Q 0 [oR 12 0, oI l1, oI l2, none] [] (sh_E h)
  refine ai_WP_steps mc_258 (sh_CM d) 2 ?_
  exact x_M_boatOf_l2 N hd h hR N l1 l2 (0 : Int32) H
def f_M_boat_b27 (N : Nat)    (h : sh_H) : Option Int32 := (some (-1 : Int32))
theorem x_M_boat_b27 (N : Nat) {d : Nat} (hd : 1 ≤ d) (h : sh_H) {Q : ai_Q} {R : Int32 → Prop} (hR : ∀ r, R r → Q (some (aI r)) (sh_E h))    {d0 d1 d2 : Option ai_V} (H : sh_ok (f_M_boat_b27 N h) R) : wq_259 d Q 27 [d0, d1, d2] [] (sh_E h) := by
  exact ai_WP_steps mc_259 (sh_CM d) 2 (hR (-1 : Int32) H)
def f_M_boat (N : Nat)  (l1 : Int32) (l2 : Int32) (h : sh_H) : Option Int32 := (Option.bind (f_M_isIsland l1 h) (fun v1 => (if v1 = 0 then f_M_boat_b27 N h else (Option.bind (f_M_isIn l2 (0 : Int32) (11 : Int32) h) (fun v2 => (if v2 = 0 then f_M_boat_b27 N h else (Option.bind (f_M_boatOf N l1 l2 h) (fun v3 => (some v3)))))))))
theorem x_M_boat (N : Nat) {d : Nat} (hd : 2 ≤ d) (l1 : Int32) (l2 : Int32) (h : sh_H) {Q : ai_Q} {R : Int32 → Prop} (H : sh_ok (f_M_boat N l1 l2 h) R) (hR : ∀ r, R r → Q (some (aI r)) (sh_E h)) : ai_Ex sh_T d 259 [aR 12 0, aI l1, aI l2] (sh_E h) Q := by
  obtain ⟨d, rfl⟩ : ∃ e, d = e + 1 := ⟨d - 1, by omega⟩
  replace hd : 1 ≤ d := by omega
  refine And.intro (Nat.le_of_ble_eq_true rfl) ?_
  show wq_259 d Q 0 [oR 12 0, oI l1, oI l2] [] (sh_E h)
  refine ai_WP_steps mc_259 (sh_CM d) 3 (And.intro (Nat.le_of_ble_eq_true rfl) (x_M_isIsland (Nat.le_trans (Nat.le_of_ble_eq_true rfl) hd) l1 h (sh_okB H) (fun v1 H => ?_)))
  show wq_259 d Q 5 [oR 12 0, oI l1, oI l2] [aI v1] (sh_E h)
  refine ai_WP_steps mc_259 (sh_CM d) 1 (And.intro (fun c => ?_) (fun c => ?_))
  · replace H := sh_okT c H
    exact x_M_boat_b27 N hd h hR H
  · replace H := sh_okF c H
    show wq_259 d Q 8 [oR 12 0, oI l1, oI l2] [] (sh_E h)
    refine ai_WP_steps mc_259 (sh_CM d) 4 (And.intro (Nat.le_of_ble_eq_true rfl) (x_M_isIn (Nat.le_trans (Nat.le_of_ble_eq_true rfl) hd) l2 (0 : Int32) (11 : Int32) h (sh_okB H) (fun v2 H => ?_)))
    show wq_259 d Q 15 [oR 12 0, oI l1, oI l2] [aI v2] (sh_E h)
    refine ai_WP_steps mc_259 (sh_CM d) 1 (And.intro (fun c => ?_) (fun c => ?_))
    · replace H := sh_okT c H
      exact x_M_boat_b27 N hd h hR H
    · replace H := sh_okF c H
      show wq_259 d Q 18 [oR 12 0, oI l1, oI l2] [] (sh_E h)
      refine ai_WP_steps mc_259 (sh_CM d) 4 (And.intro (Nat.le_of_ble_eq_true rfl) (x_M_boatOf N (Nat.le_trans (Nat.le_of_ble_eq_true rfl) hd) l1 l2 h (sh_okB H) (fun v3 H => ?_)))
      show wq_259 d Q 24 [oR 12 0, oI l1, oI l2] [aI v3] (sh_E h)
      exact ai_WP_steps mc_259 (sh_CM d) 2 (hR v3 H)
def f_M_ask  (l1 : Int32) (l2 : Int32) (l3 : Int32) (l4 : Int32) (h : sh_H) : Option sh_H := (if ai_in (0 : Int32) 4 then (sh_let (sh_pI h 13 50 (0 : Int32).toNatClampNeg l1) (fun h1 => (if ai_in (1 : Int32) 4 then (sh_let (sh_pI h1 13 50 (1 : Int32).toNatClampNeg l2) (fun h2 => (if ai_in (2 : Int32) 4 then (sh_let (sh_pI h2 13 50 (2 : Int32).toNatClampNeg l3) (fun h3 => (if ai_in (3 : Int32) 4 then (sh_let (sh_pI h3 13 50 (3 : Int32).toNatClampNeg l4) (fun h4 => (some h4))) else none))) else none))) else none))) else none)
theorem x_M_ask {d : Nat} (hd : 1 ≤ d) (l1 : Int32) (l2 : Int32) (l3 : Int32) (l4 : Int32) (h : sh_H) {Q : ai_Q} {R : sh_H → Prop} (H : sh_ok (f_M_ask l1 l2 l3 l4 h) R) (hR : ∀ h, R h → Q none (sh_E h)) : ai_Ex sh_T d 260 [aR 12 0, aI l1, aI l2, aI l3, aI l4] (sh_E h) Q := by
  obtain ⟨d, rfl⟩ : ∃ e, d = e + 1 := ⟨d - 1, by omega⟩
  replace hd : 0 ≤ d := by omega
  refine And.intro (Nat.le_of_ble_eq_true rfl) ?_
  show wq_260 d Q 0 [oR 12 0, oI l1, oI l2, oI l3, oI l4] [] (sh_E h)
  have c := sh_okG H
  replace H := sh_okH H
  refine ai_WP_steps mc_260 (sh_CM d) 5 (And.intro c ?_)
  show wq_260 d Q 7 [oR 12 0, oI l1, oI l2, oI l3, oI l4] [] (sh_E (sh_pI h 13 50 (0 : Int32).toNatClampNeg l1))
  replace H := sh_okL H
  generalize sh_pI h 13 50 (0 : Int32).toNatClampNeg l1 = h1 at H ⊢
  have c := sh_okG H
  replace H := sh_okH H
  refine ai_WP_steps mc_260 (sh_CM d) 5 (And.intro c ?_)
  show wq_260 d Q 14 [oR 12 0, oI l1, oI l2, oI l3, oI l4] [] (sh_E (sh_pI h1 13 50 (1 : Int32).toNatClampNeg l2))
  replace H := sh_okL H
  generalize sh_pI h1 13 50 (1 : Int32).toNatClampNeg l2 = h2 at H ⊢
  have c := sh_okG H
  replace H := sh_okH H
  refine ai_WP_steps mc_260 (sh_CM d) 5 (And.intro c ?_)
  show wq_260 d Q 21 [oR 12 0, oI l1, oI l2, oI l3, oI l4] [] (sh_E (sh_pI h2 13 50 (2 : Int32).toNatClampNeg l3))
  replace H := sh_okL H
  generalize sh_pI h2 13 50 (2 : Int32).toNatClampNeg l3 = h3 at H ⊢
  have c := sh_okG H
  replace H := sh_okH H
  refine ai_WP_steps mc_260 (sh_CM d) 5 (And.intro c ?_)
  show wq_260 d Q 29 [oR 12 0, oI l1, oI l2, oI l3, oI l4] [] (sh_E (sh_pI h3 13 50 (3 : Int32).toNatClampNeg l4))
  replace H := sh_okL H
  generalize sh_pI h3 13 50 (3 : Int32).toNatClampNeg l4 = h4 at H ⊢
  exact ai_WP_steps mc_260 (sh_CM d) 1 (hR h4 H)
def f_M_joined_b55    (h : sh_H) : Option Int32 := (some (1 : Int32))
theorem x_M_joined_b55 {d : Nat} (hd : 0 ≤ d) (h : sh_H) {Q : ai_Q} {R : Int32 → Prop} (hR : ∀ r, R r → Q (some (aI r)) (sh_E h))    {d0 d1 d2 : Option ai_V} (H : sh_ok (f_M_joined_b55 h) R) : wq_262 d Q 55 [d0, d1, d2] [] (sh_E h) := by
  exact ai_WP_steps mc_262 (sh_CM d) 3 (hR (1 : Int32) H)
def f_M_joined_b59    (h : sh_H) : Option Int32 := (some (0 : Int32))
theorem x_M_joined_b59 {d : Nat} (hd : 0 ≤ d) (h : sh_H) {Q : ai_Q} {R : Int32 → Prop} (hR : ∀ r, R r → Q (some (aI r)) (sh_E h))    {d0 d1 d2 : Option ai_V} (H : sh_ok (f_M_joined_b59 h) R) : wq_262 d Q 59 [d0, d1, d2] [] (sh_E h) := by
  exact ai_WP_steps mc_262 (sh_CM d) 2 (hR (0 : Int32) H)
def f_M_joined  (l0 : Int32) (l1 : Int32) (l2 : Int32) (h : sh_H) : Option Int32 := (if l0 = (2 : Int32) then (some (l1 + l2)) else (if l0 = (3 : Int32) then (some (l1 - l2)) else (if l0 = (4 : Int32) then (some (l1 * l2)) else (if l0 = (5 : Int32) then (if ¬ l2 = 0 then (some (l1 / l2)) else none) else (if l0 = (6 : Int32) then (if l1 < l2 then f_M_joined_b55 h else f_M_joined_b59 h) else (if l1 = l2 then f_M_joined_b55 h else f_M_joined_b59 h))))))
theorem x_M_joined {d : Nat} (hd : 1 ≤ d) (l0 : Int32) (l1 : Int32) (l2 : Int32) (h : sh_H) {Q : ai_Q} {R : Int32 → Prop} (H : sh_ok (f_M_joined l0 l1 l2 h) R) (hR : ∀ r, R r → Q (some (aI r)) (sh_E h)) : ai_Ex sh_T d 262 [aI l0, aI l1, aI l2] (sh_E h) Q := by
  obtain ⟨d, rfl⟩ : ∃ e, d = e + 1 := ⟨d - 1, by omega⟩
  replace hd : 0 ≤ d := by omega
  refine And.intro (Nat.le_of_ble_eq_true rfl) ?_
  show wq_262 d Q 0 [oI l0, oI l1, oI l2] [] (sh_E h)
  refine ai_WP_steps mc_262 (sh_CM d) 3 (And.intro (fun c => ?_) (fun c => ?_))
  · replace H := sh_okT c H
    show wq_262 d Q 5 [oI l0, oI l1, oI l2] [] (sh_E h)
    exact ai_WP_steps mc_262 (sh_CM d) 4 (hR (l1 + l2) H)
  · replace H := sh_okF c H
    show wq_262 d Q 9 [oI l0, oI l1, oI l2] [] (sh_E h)
    refine ai_WP_steps mc_262 (sh_CM d) 3 (And.intro (fun c => ?_) (fun c => ?_))
    · replace H := sh_okT c H
      show wq_262 d Q 14 [oI l0, oI l1, oI l2] [] (sh_E h)
      exact ai_WP_steps mc_262 (sh_CM d) 4 (hR (l1 - l2) H)
    · replace H := sh_okF c H
      show wq_262 d Q 18 [oI l0, oI l1, oI l2] [] (sh_E h)
      refine ai_WP_steps mc_262 (sh_CM d) 3 (And.intro (fun c => ?_) (fun c => ?_))
      · replace H := sh_okT c H
        show wq_262 d Q 23 [oI l0, oI l1, oI l2] [] (sh_E h)
        exact ai_WP_steps mc_262 (sh_CM d) 4 (hR (l1 * l2) H)
      · replace H := sh_okF c H
        show wq_262 d Q 27 [oI l0, oI l1, oI l2] [] (sh_E h)
        refine ai_WP_steps mc_262 (sh_CM d) 3 (And.intro (fun c => ?_) (fun c => ?_))
        · replace H := sh_okT c H
          show wq_262 d Q 32 [oI l0, oI l1, oI l2] [] (sh_E h)
          have c := sh_okG H
          replace H := sh_okH H
          refine ai_WP_steps mc_262 (sh_CM d) 3 (And.intro c ?_)
          show wq_262 d Q 35 [oI l0, oI l1, oI l2] [aI (l1 / l2)] (sh_E h)
          exact ai_WP_steps mc_262 (sh_CM d) 1 (hR (l1 / l2) H)
        · replace H := sh_okF c H
          show wq_262 d Q 36 [oI l0, oI l1, oI l2] [] (sh_E h)
          refine ai_WP_steps mc_262 (sh_CM d) 3 (And.intro (fun c => ?_) (fun c => ?_))
          · replace H := sh_okT c H
            show wq_262 d Q 42 [oI l0, oI l1, oI l2] [] (sh_E h)
            refine ai_WP_steps mc_262 (sh_CM d) 3 (And.intro (fun c => ?_) (fun c => ?_))
            · replace H := sh_okT c H
              show wq_262 d Q 47 [oI l0, oI l1, oI l2] [] (sh_E h)
              refine ai_WP_steps mc_262 (sh_CM d) 1 ?_
              exact x_M_joined_b55 hd h hR H
            · replace H := sh_okF c H
              exact x_M_joined_b59 hd h hR H
          · replace H := sh_okF c H
            show wq_262 d Q 50 [oI l0, oI l1, oI l2] [] (sh_E h)
            refine ai_WP_steps mc_262 (sh_CM d) 3 (And.intro (fun c => ?_) (fun c => ?_))
            · replace H := sh_okT c H
              exact x_M_joined_b55 hd h hR H
            · replace H := sh_okF c H
              exact x_M_joined_b59 hd h hR H
def f_M_sum_b137 (N : Nat)  (k9 : Int32 → Int32 → Int32 → sh_H → Option (Int32 × sh_H)) (l1 : Int32) (l2 : Int32) (l3 : Int32) (h : sh_H) : Option (Int32 × sh_H) := k9 l1 l2 (l3 + (1 : Int32)) h
theorem x_M_sum_b137 (N : Nat) {d : Nat} (hd : 1 ≤ d) {Q : ai_Q} {R : Int32 × sh_H → Prop} (hR : ∀ r h, R (r, h) → Q (some (aI r)) (sh_E h))  (k9 : Int32 → Int32 → Int32 → sh_H → Option (Int32 × sh_H)) (hk9 : ∀ (l1 : Int32) (l2 : Int32) (l3 : Int32) {d4 d5 d6 : Option ai_V} (h : sh_H), sh_ok (k9 l1 l2 l3 h) R → wq_261 d Q 9 [oR 12 0, oI l1, oI l2, oI l3, d4, d5, d6] [] (sh_E h)) (l1 : Int32) (l2 : Int32) (l3 : Int32) {d4 d5 d6 : Option ai_V} (h : sh_H) (H : sh_ok (f_M_sum_b137 N k9 l1 l2 l3 h) R) : wq_261 d Q 137 [oR 12 0, oI l1, oI l2, oI l3, d4, d5, d6] [] (sh_E h) := by
  refine ai_WP_steps mc_261 (sh_CM d) 2 ?_
  exact hk9 l1 l2 (l3 + (1 : Int32)) h H
def f_M_sum_b77 (N : Nat)  (k9 : Int32 → Int32 → Int32 → sh_H → Option (Int32 × sh_H)) (l1 : Int32) (l2 : Int32) (l3 : Int32) (s0 : Nat) (s1 : Int32) (s2 : Int32) (h : sh_H) : Option (Int32 × sh_H) := (if ai_in s1 (sh_l13 s0) then (sh_let (sh_pI h 13 s0 s1.toNatClampNeg s2) (fun h1 => f_M_sum_b137 N k9 l1 (l2 + (1 : Int32)) l3 h1)) else none)
theorem x_M_sum_b77 (N : Nat) {d : Nat} (hd : 1 ≤ d) {Q : ai_Q} {R : Int32 × sh_H → Prop} (hR : ∀ r h, R (r, h) → Q (some (aI r)) (sh_E h))  (k9 : Int32 → Int32 → Int32 → sh_H → Option (Int32 × sh_H)) (hk9 : ∀ (l1 : Int32) (l2 : Int32) (l3 : Int32) {d4 d5 d6 : Option ai_V} (h : sh_H), sh_ok (k9 l1 l2 l3 h) R → wq_261 d Q 9 [oR 12 0, oI l1, oI l2, oI l3, d4, d5, d6] [] (sh_E h)) (l1 : Int32) (l2 : Int32) (l3 : Int32) (s0 : Nat) (s1 : Int32) (s2 : Int32) {d4 d5 d6 : Option ai_V} (h : sh_H) (H : sh_ok (f_M_sum_b77 N k9 l1 l2 l3 s0 s1 s2 h) R) : wq_261 d Q 77 [oR 12 0, oI l1, oI l2, oI l3, d4, d5, d6] [aI s2, aI s1, aR 13 s0] (sh_E h) := by
  have c := sh_okG H
  replace H := sh_okH H
  refine ai_WP_steps mc_261 (sh_CM d) 1 (And.intro c ?_)
  show wq_261 d Q 78 [oR 12 0, oI l1, oI l2, oI l3, _, _, _] [] (sh_E (sh_pI h 13 s0 s1.toNatClampNeg s2))
  replace H := sh_okL H
  generalize sh_pI h 13 s0 s1.toNatClampNeg s2 = h1 at H ⊢
  refine ai_WP_steps mc_261 (sh_CM d) 2 ?_
  exact x_M_sum_b137 N hd hR k9 hk9 l1 (l2 + (1 : Int32)) l3 h1 H
def f_M_sum_b120 (N : Nat)  (k9 : Int32 → Int32 → Int32 → sh_H → Option (Int32 × sh_H)) (l1 : Int32) (l2 : Int32) (l3 : Int32) (l4 : Int32) (l5 : Int32) (l6 : Int32) (h : sh_H) : Option (Int32 × sh_H) := (Option.bind (f_M_joined l4 l6 l5 h) (fun v2 => (if ai_in (l2 - (1 : Int32)) 500 then (sh_let (sh_pI h 13 51 (l2 - (1 : Int32)).toNatClampNeg v2) (fun h3 => f_M_sum_b137 N k9 l1 l2 l3 h3)) else none)))
theorem x_M_sum_b120 (N : Nat) {d : Nat} (hd : 1 ≤ d) {Q : ai_Q} {R : Int32 × sh_H → Prop} (hR : ∀ r h, R (r, h) → Q (some (aI r)) (sh_E h))  (k9 : Int32 → Int32 → Int32 → sh_H → Option (Int32 × sh_H)) (hk9 : ∀ (l1 : Int32) (l2 : Int32) (l3 : Int32) {d4 d5 d6 : Option ai_V} (h : sh_H), sh_ok (k9 l1 l2 l3 h) R → wq_261 d Q 9 [oR 12 0, oI l1, oI l2, oI l3, d4, d5, d6] [] (sh_E h)) (l1 : Int32) (l2 : Int32) (l3 : Int32) (l4 : Int32) (l5 : Int32) (l6 : Int32) (h : sh_H) (H : sh_ok (f_M_sum_b120 N k9 l1 l2 l3 l4 l5 l6 h) R) : wq_261 d Q 120 [oR 12 0, oI l1, oI l2, oI l3, oI l4, oI l5, oI l6] [] (sh_E h) := by
  refine ai_WP_steps mc_261 (sh_CM d) 9 (And.intro (Nat.le_of_ble_eq_true rfl) (x_M_joined (Nat.le_trans (Nat.le_of_ble_eq_true rfl) hd) l4 l6 l5 h (sh_okB H) (fun v2 H => ?_)))
  show wq_261 d Q 136 [oR 12 0, oI l1, oI l2, oI l3, oI l4, oI l5, oI l6] [aI v2, aI (l2 - (1 : Int32)), aR 13 51] (sh_E h)
  have c := sh_okG H
  replace H := sh_okH H
  refine ai_WP_steps mc_261 (sh_CM d) 1 (And.intro c ?_)
  show wq_261 d Q 137 [oR 12 0, oI l1, oI l2, oI l3, oI l4, oI l5, oI l6] [] (sh_E (sh_pI h 13 51 (l2 - (1 : Int32)).toNatClampNeg v2))
  replace H := sh_okL H
  generalize sh_pI h 13 51 (l2 - (1 : Int32)).toNatClampNeg v2 = h3 at H ⊢
  exact x_M_sum_b137 N hd hR k9 hk9 l1 l2 l3 h3 H
def f_M_sum_c9 (N : Nat)  (k143 : sh_H → Option (Int32 × sh_H)) (k9 : Int32 → Int32 → Int32 → sh_H → Option (Int32 × sh_H)) (l1 : Int32) (l2 : Int32) (l3 : Int32) (h : sh_H) : Option (Int32 × sh_H) := (if ai_in (l1 + (1 : Int32)) 8000 then (if l3 < (h.1 13 46 (l1 + (1 : Int32)).toNatClampNeg) then (if ai_in ((1000 : Int32) + l3) 8000 then (if (h.1 13 46 ((1000 : Int32) + l3).toNatClampNeg) < (2 : Int32) then (if (h.1 13 46 ((1000 : Int32) + l3).toNatClampNeg) = 0 then (if ai_in ((1500 : Int32) + l3) 8000 then f_M_sum_b77 N k9 l1 l2 l3 51 l2 (h.1 13 46 ((1500 : Int32) + l3).toNatClampNeg) h else none) else (if ai_in ((1500 : Int32) + l3) 8000 then (if ai_in (h.1 13 46 ((1500 : Int32) + l3).toNatClampNeg) 4 then f_M_sum_b77 N k9 l1 l2 l3 51 l2 (h.1 13 50 (h.1 13 46 ((1500 : Int32) + l3).toNatClampNeg).toNatClampNeg) h else none) else none)) else (if ai_in (l2 - (1 : Int32)) 500 then (if ai_in (l2 - (2 : Int32)) 500 then (if (h.1 13 46 ((1000 : Int32) + l3).toNatClampNeg) = (5 : Int32) then (if (h.1 13 51 (l2 - (1 : Int32)).toNatClampNeg) = 0 then (some ((0 : Int32), h)) else f_M_sum_b120 N k9 l1 (l2 + (-1 : Int32)) l3 (h.1 13 46 ((1000 : Int32) + l3).toNatClampNeg) (h.1 13 51 (l2 - (1 : Int32)).toNatClampNeg) (h.1 13 51 (l2 - (2 : Int32)).toNatClampNeg) h) else f_M_sum_b120 N k9 l1 (l2 + (-1 : Int32)) l3 (h.1 13 46 ((1000 : Int32) + l3).toNatClampNeg) (h.1 13 51 (l2 - (1 : Int32)).toNatClampNeg) (h.1 13 51 (l2 - (2 : Int32)).toNatClampNeg) h) else none) else none)) else none) else k143 h) else none)
def f_M_sum_l9 (N : Nat)  (k143 : sh_H → Option (Int32 × sh_H)) (n : Nat) : Int32 → Int32 → Int32 → sh_H → Option (Int32 × sh_H) := Nat.rec (motive := fun _ => Int32 → Int32 → Int32 → sh_H → Option (Int32 × sh_H)) (fun _ _ _ _ => none) (fun _ k9 => f_M_sum_c9 N k143 k9) n
theorem x_M_sum_l9 (N : Nat) {d : Nat} (hd : 1 ≤ d) {Q : ai_Q} {R : Int32 × sh_H → Prop} (hR : ∀ r h, R (r, h) → Q (some (aI r)) (sh_E h))  (k143 : sh_H → Option (Int32 × sh_H)) (hk143 : ∀ {d1 d2 d3 d4 d5 d6 : Option ai_V} (h : sh_H), sh_ok (k143 h) R → wq_261 d Q 143 [oR 12 0, d1, d2, d3, d4, d5, d6] [] (sh_E h)) (n : Nat) : ∀ (l1 : Int32) (l2 : Int32) (l3 : Int32) {d4 d5 d6 : Option ai_V} (h : sh_H), sh_ok (f_M_sum_l9 N k143 n l1 l2 l3 h) R → wq_261 d Q 9 [oR 12 0, oI l1, oI l2, oI l3, d4, d5, d6] [] (sh_E h) := by
  induction n with
  | zero => intro l1 l2 l3 d4 d5 d6 h H; exact H.elim
  | succ n ih =>
    intro l1 l2 l3 d4 d5 d6 h H
    have hk9 := @ih
    replace H : sh_ok (f_M_sum_c9 N k143 (f_M_sum_l9 N k143 n) l1 l2 l3 h) R := H
    revert hk9 H
    generalize f_M_sum_l9 N k143 n = k9
    intro hk9 H
    have c := sh_okG H
    replace H := sh_okH H
    refine ai_WP_steps mc_261 (sh_CM d) 7 (And.intro c ?_)
    show wq_261 d Q 18 [oR 12 0, oI l1, oI l2, oI l3, _, _, _] [aI (h.1 13 46 (l1 + (1 : Int32)).toNatClampNeg), aI l3] (sh_E h)
    refine ai_WP_steps mc_261 (sh_CM d) 1 (And.intro (fun c => ?_) (fun c => ?_))
    · replace H := sh_okT c H
      show wq_261 d Q 21 [oR 12 0, oI l1, oI l2, oI l3, _, _, _] [] (sh_E h)
      have c := sh_okG H
      replace H := sh_okH H
      refine ai_WP_steps mc_261 (sh_CM d) 6 (And.intro c ?_)
      show wq_261 d Q 31 [oR 12 0, oI l1, oI l2, oI l3, _, _, _] [aI (h.1 13 46 ((1000 : Int32) + l3).toNatClampNeg)] (sh_E h)
      refine ai_WP_steps mc_261 (sh_CM d) 4 (And.intro (fun c => ?_) (fun c => ?_))
      · replace H := sh_okT c H
        show wq_261 d Q 39 [oR 12 0, oI l1, oI l2, oI l3, oI (h.1 13 46 ((1000 : Int32) + l3).toNatClampNeg), _, _] [] (sh_E h)
        refine ai_WP_steps mc_261 (sh_CM d) 5 (And.intro (fun c => ?_) (fun c => ?_))
        · replace H := sh_okT c H
          show wq_261 d Q 49 [oR 12 0, oI l1, oI l2, oI l3, oI (h.1 13 46 ((1000 : Int32) + l3).toNatClampNeg), _, _] [aI l2, aR 13 51] (sh_E h)
          have c := sh_okG H
          replace H := sh_okH H
          refine ai_WP_steps mc_261 (sh_CM d) 6 (And.intro c ?_)
          show wq_261 d Q 59 [oR 12 0, oI l1, oI l2, oI l3, oI (h.1 13 46 ((1000 : Int32) + l3).toNatClampNeg), _, _] [aI (h.1 13 46 ((1500 : Int32) + l3).toNatClampNeg), aI l2, aR 13 51] (sh_E h)
          refine ai_WP_steps mc_261 (sh_CM d) 1 ?_
          exact x_M_sum_b77 N hd hR k9 hk9 l1 l2 l3 51 l2 (h.1 13 46 ((1500 : Int32) + l3).toNatClampNeg) h H
        · replace H := sh_okF c H
          show wq_261 d Q 62 [oR 12 0, oI l1, oI l2, oI l3, oI (h.1 13 46 ((1000 : Int32) + l3).toNatClampNeg), _, _] [aI l2, aR 13 51] (sh_E h)
          have c := sh_okG H
          replace H := sh_okH H
          refine ai_WP_steps mc_261 (sh_CM d) 8 (And.intro c ?_)
          show wq_261 d Q 76 [oR 12 0, oI l1, oI l2, oI l3, oI (h.1 13 46 ((1000 : Int32) + l3).toNatClampNeg), _, _] [aI (h.1 13 46 ((1500 : Int32) + l3).toNatClampNeg), aR 13 50, aI l2, aR 13 51] (sh_E h)
          have c := sh_okG H
          replace H := sh_okH H
          refine ai_WP_steps mc_261 (sh_CM d) 1 (And.intro c ?_)
          show wq_261 d Q 77 [oR 12 0, oI l1, oI l2, oI l3, oI (h.1 13 46 ((1000 : Int32) + l3).toNatClampNeg), _, _] [aI (h.1 13 50 (h.1 13 46 ((1500 : Int32) + l3).toNatClampNeg).toNatClampNeg), aI l2, aR 13 51] (sh_E h)
          exact x_M_sum_b77 N hd hR k9 hk9 l1 l2 l3 51 l2 (h.1 13 50 (h.1 13 46 ((1500 : Int32) + l3).toNatClampNeg).toNatClampNeg) h H
      · replace H := sh_okF c H
        show wq_261 d Q 84 [oR 12 0, oI l1, oI l2, oI l3, oI (h.1 13 46 ((1000 : Int32) + l3).toNatClampNeg), _, _] [] (sh_E h)
        have c := sh_okG H
        replace H := sh_okH H
        refine ai_WP_steps mc_261 (sh_CM d) 6 (And.intro c ?_)
        show wq_261 d Q 92 [oR 12 0, oI l1, oI l2, oI l3, oI (h.1 13 46 ((1000 : Int32) + l3).toNatClampNeg), _, _] [aI (h.1 13 51 (l2 - (1 : Int32)).toNatClampNeg)] (sh_E h)
        have c := sh_okG H
        replace H := sh_okH H
        refine ai_WP_steps mc_261 (sh_CM d) 7 (And.intro c ?_)
        show wq_261 d Q 102 [oR 12 0, oI l1, oI l2, oI l3, oI (h.1 13 46 ((1000 : Int32) + l3).toNatClampNeg), oI (h.1 13 51 (l2 - (1 : Int32)).toNatClampNeg), _] [aI (h.1 13 51 (l2 - (2 : Int32)).toNatClampNeg)] (sh_E h)
        refine ai_WP_steps mc_261 (sh_CM d) 5 (And.intro (fun c => ?_) (fun c => ?_))
        · replace H := sh_okT c H
          show wq_261 d Q 113 [oR 12 0, oI l1, oI (l2 + (-1 : Int32)), oI l3, oI (h.1 13 46 ((1000 : Int32) + l3).toNatClampNeg), oI (h.1 13 51 (l2 - (1 : Int32)).toNatClampNeg), oI (h.1 13 51 (l2 - (2 : Int32)).toNatClampNeg)] [] (sh_E h)
          refine ai_WP_steps mc_261 (sh_CM d) 2 (And.intro (fun c => ?_) (fun c => ?_))
          · replace H := sh_okT c H
            show wq_261 d Q 118 [oR 12 0, oI l1, oI (l2 + (-1 : Int32)), oI l3, oI (h.1 13 46 ((1000 : Int32) + l3).toNatClampNeg), oI (h.1 13 51 (l2 - (1 : Int32)).toNatClampNeg), oI (h.1 13 51 (l2 - (2 : Int32)).toNatClampNeg)] [] (sh_E h)
            exact ai_WP_steps mc_261 (sh_CM d) 2 (hR (0 : Int32) h H)
          · replace H := sh_okF c H
            exact x_M_sum_b120 N hd hR k9 hk9 l1 (l2 + (-1 : Int32)) l3 (h.1 13 46 ((1000 : Int32) + l3).toNatClampNeg) (h.1 13 51 (l2 - (1 : Int32)).toNatClampNeg) (h.1 13 51 (l2 - (2 : Int32)).toNatClampNeg) h H
        · replace H := sh_okF c H
          exact x_M_sum_b120 N hd hR k9 hk9 l1 (l2 + (-1 : Int32)) l3 (h.1 13 46 ((1000 : Int32) + l3).toNatClampNeg) (h.1 13 51 (l2 - (1 : Int32)).toNatClampNeg) (h.1 13 51 (l2 - (2 : Int32)).toNatClampNeg) h H
    · replace H := sh_okF c H
      exact hk143 h H
def f_M_sum_b143 (N : Nat)    (h : sh_H) : Option (Int32 × sh_H) := (if ai_in (0 : Int32) 500 then (some ((h.1 13 51 (0 : Int32).toNatClampNeg), h)) else none)
theorem x_M_sum_b143 (N : Nat) {d : Nat} (hd : 1 ≤ d) {Q : ai_Q} {R : Int32 × sh_H → Prop} (hR : ∀ r h, R (r, h) → Q (some (aI r)) (sh_E h))    {d1 d2 d3 d4 d5 d6 : Option ai_V} (h : sh_H) (H : sh_ok (f_M_sum_b143 N h) R) : wq_261 d Q 143 [oR 12 0, d1, d2, d3, d4, d5, d6] [] (sh_E h) := by
  have c := sh_okG H
  replace H := sh_okH H
  refine ai_WP_steps mc_261 (sh_CM d) 4 (And.intro c ?_)
  show wq_261 d Q 149 [oR 12 0, _, _, _, _, _, _] [aI (h.1 13 51 (0 : Int32).toNatClampNeg)] (sh_E h)
  exact ai_WP_steps mc_261 (sh_CM d) 1 (hR (h.1 13 51 (0 : Int32).toNatClampNeg) h H)
def f_M_sum (N : Nat)  (l1 : Int32) (h : sh_H) : Option (Int32 × sh_H) := (if ai_in l1 8000 then f_M_sum_l9 N (f_M_sum_b143 N) N l1 (0 : Int32) (h.1 13 46 l1.toNatClampNeg) h else none)
theorem x_M_sum (N : Nat) {d : Nat} (hd : 2 ≤ d) (l1 : Int32) (h : sh_H) {Q : ai_Q} {R : Int32 × sh_H → Prop} (H : sh_ok (f_M_sum N l1 h) R) (hR : ∀ r h, R (r, h) → Q (some (aI r)) (sh_E h)) : ai_Ex sh_T d 261 [aR 12 0, aI l1] (sh_E h) Q := by
  obtain ⟨d, rfl⟩ : ∃ e, d = e + 1 := ⟨d - 1, by omega⟩
  replace hd : 1 ≤ d := by omega
  refine And.intro (Nat.le_of_ble_eq_true rfl) ?_
  show wq_261 d Q 0 [oR 12 0, oI l1, none, none, none, none, none] [] (sh_E h)
  have c := sh_okG H
  replace H := sh_okH H
  refine ai_WP_steps mc_261 (sh_CM d) 6 (And.intro c ?_)
  show wq_261 d Q 8 [oR 12 0, oI l1, oI (0 : Int32), _, _, _, _] [aI (h.1 13 46 l1.toNatClampNeg)] (sh_E h)
  refine ai_WP_steps mc_261 (sh_CM d) 1 ?_
  exact x_M_sum_l9 N hd hR (f_M_sum_b143 N) (fun {e1} {e2} {e3} {e4} {e5} {e6} h H => x_M_sum_b143 N hd hR  h H) N l1 (0 : Int32) (h.1 13 46 l1.toNatClampNeg) h H
def f_M_isLast_b70 (N : Nat)  (k5 : Int32 → Int32 → Int32 → Int32 → sh_H → Option Int32) (l1 : Int32) (l2 : Int32) (l3 : Int32) (l4 : Int32) (h : sh_H) : Option Int32 := k5 l1 l2 l3 (l4 + (1 : Int32)) h
theorem x_M_isLast_b70 (N : Nat) {d : Nat} (hd : 0 ≤ d) (h : sh_H) {Q : ai_Q} {R : Int32 → Prop} (hR : ∀ r, R r → Q (some (aI r)) (sh_E h))  (k5 : Int32 → Int32 → Int32 → Int32 → sh_H → Option Int32) (hk5 : ∀ (l1 : Int32) (l2 : Int32) (l3 : Int32) (l4 : Int32), sh_ok (k5 l1 l2 l3 l4 h) R → wq_263 d Q 5 [oR 12 0, oI l1, oI l2, oI l3, oI l4] [] (sh_E h)) (l1 : Int32) (l2 : Int32) (l3 : Int32) (l4 : Int32) (H : sh_ok (f_M_isLast_b70 N k5 l1 l2 l3 l4 h) R) : wq_263 d Q 70 [oR 12 0, oI l1, oI l2, oI l3, oI l4] [] (sh_E h) := by
  refine ai_WP_steps mc_263 (sh_CM d) 2 ?_
  exact hk5 l1 l2 l3 (l4 + (1 : Int32)) H
def f_M_isLast_c5 (N : Nat)   (k5 : Int32 → Int32 → Int32 → Int32 → sh_H → Option Int32) (l1 : Int32) (l2 : Int32) (l3 : Int32) (l4 : Int32) (h : sh_H) : Option Int32 := (if ai_in l1 8000 then (if l4 < (h.1 13 46 l1.toNatClampNeg) then (if ai_in (l2 + ((4 : Int32) * l4)) 8000 then (if ai_in (l2 + ((4 : Int32) * l3)) 8000 then (if (h.1 13 46 (l2 + ((4 : Int32) * l4)).toNatClampNeg) = (h.1 13 46 (l2 + ((4 : Int32) * l3)).toNatClampNeg) then (if ai_in ((l2 + ((4 : Int32) * l4)) + (1 : Int32)) 8000 then (if ai_in ((l2 + ((4 : Int32) * l3)) + (1 : Int32)) 8000 then (if (h.1 13 46 ((l2 + ((4 : Int32) * l4)) + (1 : Int32)).toNatClampNeg) = (h.1 13 46 ((l2 + ((4 : Int32) * l3)) + (1 : Int32)).toNatClampNeg) then (some (ai_nar 1 (0 : Int32))) else f_M_isLast_b70 N k5 l1 l2 l3 l4 h) else none) else none) else f_M_isLast_b70 N k5 l1 l2 l3 l4 h) else none) else none) else (some (ai_nar 1 (1 : Int32)))) else none)
def f_M_isLast_l5 (N : Nat)   (n : Nat) : Int32 → Int32 → Int32 → Int32 → sh_H → Option Int32 := Nat.rec (motive := fun _ => Int32 → Int32 → Int32 → Int32 → sh_H → Option Int32) (fun _ _ _ _ _ => none) (fun _ k5 => f_M_isLast_c5 N k5) n
theorem x_M_isLast_l5 (N : Nat) {d : Nat} (hd : 0 ≤ d) (h : sh_H) {Q : ai_Q} {R : Int32 → Prop} (hR : ∀ r, R r → Q (some (aI r)) (sh_E h))   (n : Nat) : ∀ (l1 : Int32) (l2 : Int32) (l3 : Int32) (l4 : Int32), sh_ok (f_M_isLast_l5 N n l1 l2 l3 l4 h) R → wq_263 d Q 5 [oR 12 0, oI l1, oI l2, oI l3, oI l4] [] (sh_E h) := by
  induction n with
  | zero => intro l1 l2 l3 l4 H; exact H.elim
  | succ n ih =>
    intro l1 l2 l3 l4 H
    have hk5 := @ih
    replace H : sh_ok (f_M_isLast_c5 N (f_M_isLast_l5 N n) l1 l2 l3 l4 h) R := H
    revert hk5 H
    generalize f_M_isLast_l5 N n = k5
    intro hk5 H
    have c := sh_okG H
    replace H := sh_okH H
    refine ai_WP_steps mc_263 (sh_CM d) 5 (And.intro c ?_)
    show wq_263 d Q 13 [oR 12 0, oI l1, oI l2, oI l3, oI l4] [aI (h.1 13 46 l1.toNatClampNeg), aI l4] (sh_E h)
    refine ai_WP_steps mc_263 (sh_CM d) 1 (And.intro (fun c => ?_) (fun c => ?_))
    · replace H := sh_okT c H
      show wq_263 d Q 16 [oR 12 0, oI l1, oI l2, oI l3, oI l4] [] (sh_E h)
      have c := sh_okG H
      replace H := sh_okH H
      refine ai_WP_steps mc_263 (sh_CM d) 8 (And.intro c ?_)
      show wq_263 d Q 27 [oR 12 0, oI l1, oI l2, oI l3, oI l4] [aI (h.1 13 46 (l2 + ((4 : Int32) * l4)).toNatClampNeg)] (sh_E h)
      have c := sh_okG H
      replace H := sh_okH H
      refine ai_WP_steps mc_263 (sh_CM d) 8 (And.intro c ?_)
      show wq_263 d Q 37 [oR 12 0, oI l1, oI l2, oI l3, oI l4] [aI (h.1 13 46 (l2 + ((4 : Int32) * l3)).toNatClampNeg), aI (h.1 13 46 (l2 + ((4 : Int32) * l4)).toNatClampNeg)] (sh_E h)
      refine ai_WP_steps mc_263 (sh_CM d) 1 (And.intro (fun c => ?_) (fun c => ?_))
      · replace H := sh_okT c H
        show wq_263 d Q 40 [oR 12 0, oI l1, oI l2, oI l3, oI l4] [] (sh_E h)
        have c := sh_okG H
        replace H := sh_okH H
        refine ai_WP_steps mc_263 (sh_CM d) 10 (And.intro c ?_)
        show wq_263 d Q 53 [oR 12 0, oI l1, oI l2, oI l3, oI l4] [aI (h.1 13 46 ((l2 + ((4 : Int32) * l4)) + (1 : Int32)).toNatClampNeg)] (sh_E h)
        have c := sh_okG H
        replace H := sh_okH H
        refine ai_WP_steps mc_263 (sh_CM d) 10 (And.intro c ?_)
        show wq_263 d Q 65 [oR 12 0, oI l1, oI l2, oI l3, oI l4] [aI (h.1 13 46 ((l2 + ((4 : Int32) * l3)) + (1 : Int32)).toNatClampNeg), aI (h.1 13 46 ((l2 + ((4 : Int32) * l4)) + (1 : Int32)).toNatClampNeg)] (sh_E h)
        refine ai_WP_steps mc_263 (sh_CM d) 1 (And.intro (fun c => ?_) (fun c => ?_))
        · replace H := sh_okT c H
          show wq_263 d Q 68 [oR 12 0, oI l1, oI l2, oI l3, oI l4] [] (sh_E h)
          exact ai_WP_steps mc_263 (sh_CM d) 2 (hR (ai_nar 1 (0 : Int32)) H)
        · replace H := sh_okF c H
          exact x_M_isLast_b70 N hd h hR k5 hk5 l1 l2 l3 l4 H
      · replace H := sh_okF c H
        exact x_M_isLast_b70 N hd h hR k5 hk5 l1 l2 l3 l4 H
    · replace H := sh_okF c H
      show wq_263 d Q 76 [oR 12 0, oI l1, oI l2, oI l3, oI l4] [] (sh_E h)
      exact ai_WP_steps mc_263 (sh_CM d) 2 (hR (ai_nar 1 (1 : Int32)) H)
def f_M_isLast (N : Nat)  (l1 : Int32) (l2 : Int32) (l3 : Int32) (h : sh_H) : Option Int32 := f_M_isLast_l5 N N l1 l2 l3 (l3 + (1 : Int32)) h
theorem x_M_isLast (N : Nat) {d : Nat} (hd : 1 ≤ d) (l1 : Int32) (l2 : Int32) (l3 : Int32) (h : sh_H) {Q : ai_Q} {R : Int32 → Prop} (H : sh_ok (f_M_isLast N l1 l2 l3 h) R) (hR : ∀ r, R r → Q (some (aI r)) (sh_E h)) : ai_Ex sh_T d 263 [aR 12 0, aI l1, aI l2, aI l3] (sh_E h) Q := by
  obtain ⟨d, rfl⟩ : ∃ e, d = e + 1 := ⟨d - 1, by omega⟩
  replace hd : 0 ≤ d := by omega
  refine And.intro (Nat.le_of_ble_eq_true rfl) ?_
  show wq_263 d Q 0 [oR 12 0, oI l1, oI l2, oI l3, none] [] (sh_E h)
  refine ai_WP_steps mc_263 (sh_CM d) 4 ?_
  exact x_M_isLast_l5 N hd h hR N l1 l2 l3 (l3 + (1 : Int32)) H
def f_M_within  (l0 : Int32) (l1 : Int32) (l2 : Int32) (h : sh_H) : Option Int32 := (if l0 < l1 then (some l1) else (if l2 < l0 then (some l2) else (some l0)))
theorem x_M_within {d : Nat} (hd : 1 ≤ d) (l0 : Int32) (l1 : Int32) (l2 : Int32) (h : sh_H) {Q : ai_Q} {R : Int32 → Prop} (H : sh_ok (f_M_within l0 l1 l2 h) R) (hR : ∀ r, R r → Q (some (aI r)) (sh_E h)) : ai_Ex sh_T d 264 [aI l0, aI l1, aI l2] (sh_E h) Q := by
  obtain ⟨d, rfl⟩ : ∃ e, d = e + 1 := ⟨d - 1, by omega⟩
  replace hd : 0 ≤ d := by omega
  refine And.intro (Nat.le_of_ble_eq_true rfl) ?_
  show wq_264 d Q 0 [oI l0, oI l1, oI l2] [] (sh_E h)
  refine ai_WP_steps mc_264 (sh_CM d) 3 (And.intro (fun c => ?_) (fun c => ?_))
  · replace H := sh_okT c H
    show wq_264 d Q 5 [oI l0, oI l1, oI l2] [] (sh_E h)
    exact ai_WP_steps mc_264 (sh_CM d) 3 (hR l1 H)
  · replace H := sh_okF c H
    show wq_264 d Q 9 [oI l0, oI l1, oI l2] [] (sh_E h)
    refine ai_WP_steps mc_264 (sh_CM d) 3 (And.intro (fun c => ?_) (fun c => ?_))
    · replace H := sh_okT c H
      show wq_264 d Q 14 [oI l0, oI l1, oI l2] [] (sh_E h)
      exact ai_WP_steps mc_264 (sh_CM d) 3 (hR l2 H)
    · replace H := sh_okF c H
      show wq_264 d Q 18 [oI l0, oI l1, oI l2] [] (sh_E h)
      exact ai_WP_steps mc_264 (sh_CM d) 2 (hR l0 H)
def f_M_wanted_b81 (N : Nat)  (k10 : Int32 → Int32 → Int32 → Int32 → sh_H → Option (Int32 × sh_H)) (l1 : Int32) (l2 : Int32) (l3 : Int32) (l4 : Int32) (h : sh_H) : Option (Int32 × sh_H) := k10 l1 l2 l3 (l4 + (-1 : Int32)) h
theorem x_M_wanted_b81 (N : Nat) {d : Nat} (hd : 2 ≤ d) {Q : ai_Q} {R : Int32 × sh_H → Prop} (hR : ∀ r h, R (r, h) → Q (some (aI r)) (sh_E h))  (k10 : Int32 → Int32 → Int32 → Int32 → sh_H → Option (Int32 × sh_H)) (hk10 : ∀ (l1 : Int32) (l2 : Int32) (l3 : Int32) (l4 : Int32) (h : sh_H), sh_ok (k10 l1 l2 l3 l4 h) R → wq_265 d Q 10 [oR 12 0, oI l1, oI l2, oI l3, oI l4] [] (sh_E h)) (l1 : Int32) (l2 : Int32) (l3 : Int32) (l4 : Int32) (h : sh_H) (H : sh_ok (f_M_wanted_b81 N k10 l1 l2 l3 l4 h) R) : wq_265 d Q 81 [oR 12 0, oI l1, oI l2, oI l3, oI l4] [] (sh_E h) := by
  refine ai_WP_steps mc_265 (sh_CM d) 2 ?_
  exact hk10 l1 l2 l3 (l4 + (-1 : Int32)) h H
def f_M_wanted_c10 (N : Nat)  (k52 : Int32 → Int32 → sh_H → Option (Int32 × sh_H)) (k10 : Int32 → Int32 → Int32 → Int32 → sh_H → Option (Int32 × sh_H)) (l1 : Int32) (l2 : Int32) (l3 : Int32) (l4 : Int32) (h : sh_H) : Option (Int32 × sh_H) := (if l4 < 0 then (some ((0 : Int32), h)) else (if ai_in ((50 : Int32) + ((4 : Int32) * l4)) 8000 then (if (h.1 13 46 ((50 : Int32) + ((4 : Int32) * l4)).toNatClampNeg) = l1 then (if ai_in (((50 : Int32) + ((4 : Int32) * l4)) + (1 : Int32)) 8000 then (if (h.1 13 46 (((50 : Int32) + ((4 : Int32) * l4)) + (1 : Int32)).toNatClampNeg) = l2 then k52 l3 l4 h else f_M_wanted_b81 N k10 l1 l2 l3 l4 h) else none) else f_M_wanted_b81 N k10 l1 l2 l3 l4 h) else none))
def f_M_wanted_l10 (N : Nat)  (k52 : Int32 → Int32 → sh_H → Option (Int32 × sh_H)) (n : Nat) : Int32 → Int32 → Int32 → Int32 → sh_H → Option (Int32 × sh_H) := Nat.rec (motive := fun _ => Int32 → Int32 → Int32 → Int32 → sh_H → Option (Int32 × sh_H)) (fun _ _ _ _ _ => none) (fun _ k10 => f_M_wanted_c10 N k52 k10) n
theorem x_M_wanted_l10 (N : Nat) {d : Nat} (hd : 2 ≤ d) {Q : ai_Q} {R : Int32 × sh_H → Prop} (hR : ∀ r h, R (r, h) → Q (some (aI r)) (sh_E h))  (k52 : Int32 → Int32 → sh_H → Option (Int32 × sh_H)) (hk52 : ∀ (l3 : Int32) (l4 : Int32) {d1 d2 : Option ai_V} (h : sh_H), sh_ok (k52 l3 l4 h) R → wq_265 d Q 52 [oR 12 0, d1, d2, oI l3, oI l4] [] (sh_E h)) (n : Nat) : ∀ (l1 : Int32) (l2 : Int32) (l3 : Int32) (l4 : Int32) (h : sh_H), sh_ok (f_M_wanted_l10 N k52 n l1 l2 l3 l4 h) R → wq_265 d Q 10 [oR 12 0, oI l1, oI l2, oI l3, oI l4] [] (sh_E h) := by
  induction n with
  | zero => intro l1 l2 l3 l4 h H; exact H.elim
  | succ n ih =>
    intro l1 l2 l3 l4 h H
    have hk10 := @ih
    replace H : sh_ok (f_M_wanted_c10 N k52 (f_M_wanted_l10 N k52 n) l1 l2 l3 l4 h) R := H
    revert hk10 H
    generalize f_M_wanted_l10 N k52 n = k10
    intro hk10 H
    refine ai_WP_steps mc_265 (sh_CM d) 2 (And.intro (fun c => ?_) (fun c => ?_))
    · replace H := sh_okT c H
      show wq_265 d Q 87 [oR 12 0, oI l1, oI l2, oI l3, oI l4] [] (sh_E h)
      exact ai_WP_steps mc_265 (sh_CM d) 2 (hR (0 : Int32) h H)
    · replace H := sh_okF c H
      show wq_265 d Q 15 [oR 12 0, oI l1, oI l2, oI l3, oI l4] [] (sh_E h)
      have c := sh_okG H
      replace H := sh_okH H
      refine ai_WP_steps mc_265 (sh_CM d) 8 (And.intro c ?_)
      show wq_265 d Q 27 [oR 12 0, oI l1, oI l2, oI l3, oI l4] [aI (h.1 13 46 ((50 : Int32) + ((4 : Int32) * l4)).toNatClampNeg)] (sh_E h)
      refine ai_WP_steps mc_265 (sh_CM d) 2 (And.intro (fun c => ?_) (fun c => ?_))
      · replace H := sh_okT c H
        show wq_265 d Q 31 [oR 12 0, oI l1, oI l2, oI l3, oI l4] [] (sh_E h)
        have c := sh_okG H
        replace H := sh_okH H
        refine ai_WP_steps mc_265 (sh_CM d) 10 (And.intro c ?_)
        show wq_265 d Q 45 [oR 12 0, oI l1, oI l2, oI l3, oI l4] [aI (h.1 13 46 (((50 : Int32) + ((4 : Int32) * l4)) + (1 : Int32)).toNatClampNeg)] (sh_E h)
        refine ai_WP_steps mc_265 (sh_CM d) 2 (And.intro (fun c => ?_) (fun c => ?_))
        · replace H := sh_okT c H
          exact hk52 l3 l4 h H
        · replace H := sh_okF c H
          show wq_265 d Q 49 [oR 12 0, oI l1, oI l2, oI l3, oI l4] [] (sh_E h)
          refine ai_WP_steps mc_265 (sh_CM d) 1 ?_
          exact x_M_wanted_b81 N hd hR k10 hk10 l1 l2 l3 l4 h H
      · replace H := sh_okF c H
        exact x_M_wanted_b81 N hd hR k10 hk10 l1 l2 l3 l4 h H
def f_M_wanted_b52 (N : Nat)   (l3 : Int32) (l4 : Int32) (h : sh_H) : Option (Int32 × sh_H) := (Option.bind (f_M_ask l3 (0 : Int32) (0 : Int32) (0 : Int32) h) (fun h1 => (sh_b2 (f_M_sum N (((50 : Int32) + ((4 : Int32) * l4)) + (2 : Int32)) h1) (fun v2 h3 => (Option.bind (f_M_within v2 (0 : Int32) (9999 : Int32) h3) (fun v4 => (some (v4, h3))))))))
theorem x_M_wanted_b52 (N : Nat) {d : Nat} (hd : 2 ≤ d) {Q : ai_Q} {R : Int32 × sh_H → Prop} (hR : ∀ r h, R (r, h) → Q (some (aI r)) (sh_E h))   (l3 : Int32) (l4 : Int32) {d1 d2 : Option ai_V} (h : sh_H) (H : sh_ok (f_M_wanted_b52 N l3 l4 h) R) : wq_265 d Q 52 [oR 12 0, d1, d2, oI l3, oI l4] [] (sh_E h) := by
  refine ai_WP_steps mc_265 (sh_CM d) 6 (And.intro (Nat.le_of_ble_eq_true rfl) (x_M_ask (Nat.le_trans (Nat.le_of_ble_eq_true rfl) hd) l3 (0 : Int32) (0 : Int32) (0 : Int32) h (sh_okB H) (fun h1 H => ?_)))
  show wq_265 d Q 60 [oR 12 0, _, _, oI l3, oI l4] [] (sh_E h1)
  refine ai_WP_steps mc_265 (sh_CM d) 9 (And.intro (Nat.le_of_ble_eq_true rfl) (x_M_sum N (Nat.le_trans (Nat.le_of_ble_eq_true rfl) hd) (((50 : Int32) + ((4 : Int32) * l4)) + (2 : Int32)) h1 (sh_okB H) (fun v2 h3 H => ?_)))
  show wq_265 d Q 73 [oR 12 0, _, _, oI l3, oI l4] [aI v2] (sh_E h3)
  refine ai_WP_steps mc_265 (sh_CM d) 3 (And.intro (Nat.le_of_ble_eq_true rfl) (x_M_within (Nat.le_trans (Nat.le_of_ble_eq_true rfl) hd) v2 (0 : Int32) (9999 : Int32) h3 (sh_okB H) (fun v4 H => ?_)))
  show wq_265 d Q 80 [oR 12 0, _, _, oI l3, oI l4] [aI v4] (sh_E h3)
  exact ai_WP_steps mc_265 (sh_CM d) 1 (hR v4 h3 H)
def f_M_wanted (N : Nat)  (l1 : Int32) (l2 : Int32) (l3 : Int32) (h : sh_H) : Option (Int32 × sh_H) := (if ai_in (2 : Int32) 8000 then f_M_wanted_l10 N (f_M_wanted_b52 N) N l1 l2 l3 ((h.1 13 46 (2 : Int32).toNatClampNeg) - (1 : Int32)) h else none)
theorem x_M_wanted (N : Nat) {d : Nat} (hd : 3 ≤ d) (l1 : Int32) (l2 : Int32) (l3 : Int32) (h : sh_H) {Q : ai_Q} {R : Int32 × sh_H → Prop} (H : sh_ok (f_M_wanted N l1 l2 l3 h) R) (hR : ∀ r h, R (r, h) → Q (some (aI r)) (sh_E h)) : ai_Ex sh_T d 265 [aR 12 0, aI l1, aI l2, aI l3] (sh_E h) Q := by
  obtain ⟨d, rfl⟩ : ∃ e, d = e + 1 := ⟨d - 1, by omega⟩
  replace hd : 2 ≤ d := by omega
  refine And.intro (Nat.le_of_ble_eq_true rfl) ?_
  show wq_265 d Q 0 [oR 12 0, oI l1, oI l2, oI l3, none] [] (sh_E h)
  have c := sh_okG H
  replace H := sh_okH H
  refine ai_WP_steps mc_265 (sh_CM d) 4 (And.intro c ?_)
  show wq_265 d Q 6 [oR 12 0, oI l1, oI l2, oI l3, _] [aI (h.1 13 46 (2 : Int32).toNatClampNeg)] (sh_E h)
  refine ai_WP_steps mc_265 (sh_CM d) 3 ?_
  exact x_M_wanted_l10 N hd hR (f_M_wanted_b52 N) (fun z0 z1 {e1} {e2} h H => x_M_wanted_b52 N hd hR z0 z1 h H) N l1 l2 l3 ((h.1 13 46 (2 : Int32).toNatClampNeg) - (1 : Int32)) h H
def f_M_want_b36 (N : Nat)    (h : sh_H) : Option (Int32 × sh_H) := (some ((-1 : Int32), h))
theorem x_M_want_b36 (N : Nat) {d : Nat} (hd : 3 ≤ d) {Q : ai_Q} {R : Int32 × sh_H → Prop} (hR : ∀ r h, R (r, h) → Q (some (aI r)) (sh_E h))    {d0 d1 d2 d3 : Option ai_V} (h : sh_H) (H : sh_ok (f_M_want_b36 N h) R) : wq_266 d Q 36 [d0, d1, d2, d3] [] (sh_E h) := by
  exact ai_WP_steps mc_266 (sh_CM d) 2 (hR (-1 : Int32) h H)
def f_M_want (N : Nat)  (l1 : Int32) (l2 : Int32) (l3 : Int32) (h : sh_H) : Option (Int32 × sh_H) := (Option.bind (f_M_isIsland l1 h) (fun v1 => (if v1 = 0 then f_M_want_b36 N h else (Option.bind (f_M_isKind l2 h) (fun v2 => (if v2 = 0 then f_M_want_b36 N h else (Option.bind (f_M_isIn l3 (0 : Int32) (11 : Int32) h) (fun v3 => (if v3 = 0 then f_M_want_b36 N h else (sh_b2 (f_M_wanted N l1 l2 l3 h) (fun v4 h5 => (some (v4, h5)))))))))))))
theorem x_M_want (N : Nat) {d : Nat} (hd : 4 ≤ d) (l1 : Int32) (l2 : Int32) (l3 : Int32) (h : sh_H) {Q : ai_Q} {R : Int32 × sh_H → Prop} (H : sh_ok (f_M_want N l1 l2 l3 h) R) (hR : ∀ r h, R (r, h) → Q (some (aI r)) (sh_E h)) : ai_Ex sh_T d 266 [aR 12 0, aI l1, aI l2, aI l3] (sh_E h) Q := by
  obtain ⟨d, rfl⟩ : ∃ e, d = e + 1 := ⟨d - 1, by omega⟩
  replace hd : 3 ≤ d := by omega
  refine And.intro (Nat.le_of_ble_eq_true rfl) ?_
  show wq_266 d Q 0 [oR 12 0, oI l1, oI l2, oI l3] [] (sh_E h)
  refine ai_WP_steps mc_266 (sh_CM d) 3 (And.intro (Nat.le_of_ble_eq_true rfl) (x_M_isIsland (Nat.le_trans (Nat.le_of_ble_eq_true rfl) hd) l1 h (sh_okB H) (fun v1 H => ?_)))
  show wq_266 d Q 5 [oR 12 0, oI l1, oI l2, oI l3] [aI v1] (sh_E h)
  refine ai_WP_steps mc_266 (sh_CM d) 1 (And.intro (fun c => ?_) (fun c => ?_))
  · replace H := sh_okT c H
    exact x_M_want_b36 N hd hR h H
  · replace H := sh_okF c H
    show wq_266 d Q 8 [oR 12 0, oI l1, oI l2, oI l3] [] (sh_E h)
    refine ai_WP_steps mc_266 (sh_CM d) 3 (And.intro (Nat.le_of_ble_eq_true rfl) (x_M_isKind (Nat.le_trans (Nat.le_of_ble_eq_true rfl) hd) l2 h (sh_okB H) (fun v2 H => ?_)))
    show wq_266 d Q 13 [oR 12 0, oI l1, oI l2, oI l3] [aI v2] (sh_E h)
    refine ai_WP_steps mc_266 (sh_CM d) 1 (And.intro (fun c => ?_) (fun c => ?_))
    · replace H := sh_okT c H
      exact x_M_want_b36 N hd hR h H
    · replace H := sh_okF c H
      show wq_266 d Q 16 [oR 12 0, oI l1, oI l2, oI l3] [] (sh_E h)
      refine ai_WP_steps mc_266 (sh_CM d) 4 (And.intro (Nat.le_of_ble_eq_true rfl) (x_M_isIn (Nat.le_trans (Nat.le_of_ble_eq_true rfl) hd) l3 (0 : Int32) (11 : Int32) h (sh_okB H) (fun v3 H => ?_)))
      show wq_266 d Q 23 [oR 12 0, oI l1, oI l2, oI l3] [aI v3] (sh_E h)
      refine ai_WP_steps mc_266 (sh_CM d) 1 (And.intro (fun c => ?_) (fun c => ?_))
      · replace H := sh_okT c H
        exact x_M_want_b36 N hd hR h H
      · replace H := sh_okF c H
        show wq_266 d Q 26 [oR 12 0, oI l1, oI l2, oI l3] [] (sh_E h)
        refine ai_WP_steps mc_266 (sh_CM d) 5 (And.intro (Nat.le_of_ble_eq_true rfl) (x_M_wanted N (Nat.le_trans (Nat.le_of_ble_eq_true rfl) hd) l1 l2 l3 h (sh_okB H) (fun v4 h5 H => ?_)))
        show wq_266 d Q 33 [oR 12 0, oI l1, oI l2, oI l3] [aI v4] (sh_E h5)
        exact ai_WP_steps mc_266 (sh_CM d) 2 (hR v4 h5 H)
def f_M_cell  (l0 : Int32) (l1 : Int32) (l2 : Int32) (h : sh_H) : Option Int32 := (some (((800 : Int32) + ((((6 : Int32) * l0) + l1) * (4 : Int32))) + l2))
theorem x_M_cell {d : Nat} (hd : 1 ≤ d) (l0 : Int32) (l1 : Int32) (l2 : Int32) (h : sh_H) {Q : ai_Q} {R : Int32 → Prop} (H : sh_ok (f_M_cell l0 l1 l2 h) R) (hR : ∀ r, R r → Q (some (aI r)) (sh_E h)) : ai_Ex sh_T d 267 [aI l0, aI l1, aI l2] (sh_E h) Q := by
  obtain ⟨d, rfl⟩ : ∃ e, d = e + 1 := ⟨d - 1, by omega⟩
  replace hd : 0 ≤ d := by omega
  refine And.intro (Nat.le_of_ble_eq_true rfl) ?_
  show wq_267 d Q 0 [oI l0, oI l1, oI l2] [] (sh_E h)
  exact ai_WP_steps mc_267 (sh_CM d) 12 (hR (((800 : Int32) + ((((6 : Int32) * l0) + l1) * (4 : Int32))) + l2) H)
def f_M_all_c5 (N : Nat)   (k5 : Int32 → Int32 → Int32 → Int32 → sh_H → Option Int32) (l1 : Int32) (l2 : Int32) (l3 : Int32) (l4 : Int32) (h : sh_H) : Option Int32 := (if l4 < (4 : Int32) then (Option.bind (f_M_cell l1 l2 l4 h) (fun v1 => (if ai_in v1 8000 then k5 l1 l2 (l3 + (h.1 13 46 v1.toNatClampNeg)) (l4 + (1 : Int32)) h else none))) else (some l3))
def f_M_all_l5 (N : Nat)   (n : Nat) : Int32 → Int32 → Int32 → Int32 → sh_H → Option Int32 := Nat.rec (motive := fun _ => Int32 → Int32 → Int32 → Int32 → sh_H → Option Int32) (fun _ _ _ _ _ => none) (fun _ k5 => f_M_all_c5 N k5) n
theorem x_M_all_l5 (N : Nat) {d : Nat} (hd : 1 ≤ d) (h : sh_H) {Q : ai_Q} {R : Int32 → Prop} (hR : ∀ r, R r → Q (some (aI r)) (sh_E h))   (n : Nat) : ∀ (l1 : Int32) (l2 : Int32) (l3 : Int32) (l4 : Int32), sh_ok (f_M_all_l5 N n l1 l2 l3 l4 h) R → wq_268 d Q 5 [oR 12 0, oI l1, oI l2, oI l3, oI l4] [] (sh_E h) := by
  induction n with
  | zero => intro l1 l2 l3 l4 H; exact H.elim
  | succ n ih =>
    intro l1 l2 l3 l4 H
    have hk5 := @ih
    replace H : sh_ok (f_M_all_c5 N (f_M_all_l5 N n) l1 l2 l3 l4 h) R := H
    revert hk5 H
    generalize f_M_all_l5 N n = k5
    intro hk5 H
    refine ai_WP_steps mc_268 (sh_CM d) 3 (And.intro (fun c => ?_) (fun c => ?_))
    · replace H := sh_okT c H
      show wq_268 d Q 11 [oR 12 0, oI l1, oI l2, oI l3, oI l4] [] (sh_E h)
      refine ai_WP_steps mc_268 (sh_CM d) 7 (And.intro (Nat.le_of_ble_eq_true rfl) (x_M_cell (Nat.le_trans (Nat.le_of_ble_eq_true rfl) hd) l1 l2 l4 h (sh_okB H) (fun v1 H => ?_)))
      show wq_268 d Q 23 [oR 12 0, oI l1, oI l2, oI l3, oI l4] [aI v1, aR 13 46, aI l3] (sh_E h)
      have c := sh_okG H
      replace H := sh_okH H
      refine ai_WP_steps mc_268 (sh_CM d) 1 (And.intro c ?_)
      show wq_268 d Q 24 [oR 12 0, oI l1, oI l2, oI l3, oI l4] [aI (h.1 13 46 v1.toNatClampNeg), aI l3] (sh_E h)
      refine ai_WP_steps mc_268 (sh_CM d) 4 ?_
      exact hk5 l1 l2 (l3 + (h.1 13 46 v1.toNatClampNeg)) (l4 + (1 : Int32)) H
    · replace H := sh_okF c H
      show wq_268 d Q 32 [oR 12 0, oI l1, oI l2, oI l3, oI l4] [] (sh_E h)
      exact ai_WP_steps mc_268 (sh_CM d) 2 (hR l3 H)
def f_M_all (N : Nat)  (l1 : Int32) (l2 : Int32) (h : sh_H) : Option Int32 := f_M_all_l5 N N l1 l2 (0 : Int32) (0 : Int32) h
theorem x_M_all (N : Nat) {d : Nat} (hd : 2 ≤ d) (l1 : Int32) (l2 : Int32) (h : sh_H) {Q : ai_Q} {R : Int32 → Prop} (H : sh_ok (f_M_all N l1 l2 h) R) (hR : ∀ r, R r → Q (some (aI r)) (sh_E h)) : ai_Ex sh_T d 268 [aR 12 0, aI l1, aI l2] (sh_E h) Q := by
  obtain ⟨d, rfl⟩ : ∃ e, d = e + 1 := ⟨d - 1, by omega⟩
  replace hd : 1 ≤ d := by omega
  refine And.intro (Nat.le_of_ble_eq_true rfl) ?_
  show wq_268 d Q 0 [oR 12 0, oI l1, oI l2, none, none] [] (sh_E h)
  refine ai_WP_steps mc_268 (sh_CM d) 4 ?_
  exact x_M_all_l5 N hd h hR N l1 l2 (0 : Int32) (0 : Int32) H
def f_M_strike (N : Nat)  (l1 : Int32) (l2 : Int32) (h : sh_H) : Option (Int32 × sh_H) := (Option.bind (f_M_isKind l1 h) (fun v1 => (if v1 = 0 then (some ((-1 : Int32), h)) else (Option.bind (f_M_isIn l2 (1 : Int32) (9999 : Int32) h) (fun v2 => (if v2 = 0 then (some ((-1 : Int32), h)) else (Option.bind (f_M_cell (0 : Int32) l1 (0 : Int32) h) (fun v3 => (if ai_in v3 8000 then (if (999999 : Int32) < ((h.1 13 46 v3.toNatClampNeg) + l2) then (some ((-1 : Int32), h)) else (Option.bind (f_M_cell (0 : Int32) l1 (0 : Int32) h) (fun v4 => (if ai_in v4 8000 then (if ai_in v4 8000 then (sh_let (sh_pI h 13 46 v4.toNatClampNeg ((h.1 13 46 v4.toNatClampNeg) + l2)) (fun h5 => (if ai_in (2 : Int32) 12 then (if ai_in (((20 : Int32) + ((3 : Int32) * l1)) + (2 : Int32)) 8000 then (if ai_in (2 : Int32) 12 then (sh_let (sh_pJ h5 14 6 (2 : Int32).toNatClampNeg ((h5.2.1 14 6 (2 : Int32).toNatClampNeg) + (l2.toInt64 * (h5.1 13 46 (((20 : Int32) + ((3 : Int32) * l1)) + (2 : Int32)).toNatClampNeg).toInt64))) (fun h6 => (Option.bind (f_M_all N (0 : Int32) l1 h6) (fun v7 => (some (v7, h6)))))) else none) else none) else none))) else none) else none)))) else none)))))))))
theorem x_M_strike (N : Nat) {d : Nat} (hd : 3 ≤ d) (l1 : Int32) (l2 : Int32) (h : sh_H) {Q : ai_Q} {R : Int32 × sh_H → Prop} (H : sh_ok (f_M_strike N l1 l2 h) R) (hR : ∀ r h, R (r, h) → Q (some (aI r)) (sh_E h)) : ai_Ex sh_T d 269 [aR 12 0, aI l1, aI l2] (sh_E h) Q := by
  obtain ⟨d, rfl⟩ : ∃ e, d = e + 1 := ⟨d - 1, by omega⟩
  replace hd : 2 ≤ d := by omega
  refine And.intro (Nat.le_of_ble_eq_true rfl) ?_
  show wq_269 d Q 0 [oR 12 0, oI l1, oI l2] [] (sh_E h)
  refine ai_WP_steps mc_269 (sh_CM d) 3 (And.intro (Nat.le_of_ble_eq_true rfl) (x_M_isKind (Nat.le_trans (Nat.le_of_ble_eq_true rfl) hd) l1 h (sh_okB H) (fun v1 H => ?_)))
  show wq_269 d Q 5 [oR 12 0, oI l1, oI l2] [aI v1] (sh_E h)
  refine ai_WP_steps mc_269 (sh_CM d) 1 (And.intro (fun c => ?_) (fun c => ?_))
  · replace H := sh_okT c H
    show wq_269 d Q 38 [oR 12 0, oI l1, oI l2] [] (sh_E h)
    exact ai_WP_steps mc_269 (sh_CM d) 2 (hR (-1 : Int32) h H)
  · replace H := sh_okF c H
    show wq_269 d Q 8 [oR 12 0, oI l1, oI l2] [] (sh_E h)
    refine ai_WP_steps mc_269 (sh_CM d) 4 (And.intro (Nat.le_of_ble_eq_true rfl) (x_M_isIn (Nat.le_trans (Nat.le_of_ble_eq_true rfl) hd) l2 (1 : Int32) (9999 : Int32) h (sh_okB H) (fun v2 H => ?_)))
    show wq_269 d Q 16 [oR 12 0, oI l1, oI l2] [aI v2] (sh_E h)
    refine ai_WP_steps mc_269 (sh_CM d) 1 (And.intro (fun c => ?_) (fun c => ?_))
    · replace H := sh_okT c H
      show wq_269 d Q 38 [oR 12 0, oI l1, oI l2] [] (sh_E h)
      exact ai_WP_steps mc_269 (sh_CM d) 2 (hR (-1 : Int32) h H)
    · replace H := sh_okF c H
      show wq_269 d Q 19 [oR 12 0, oI l1, oI l2] [] (sh_E h)
      refine ai_WP_steps mc_269 (sh_CM d) 6 (And.intro (Nat.le_of_ble_eq_true rfl) (x_M_cell (Nat.le_trans (Nat.le_of_ble_eq_true rfl) hd) (0 : Int32) l1 (0 : Int32) h (sh_okB H) (fun v3 H => ?_)))
      show wq_269 d Q 29 [oR 12 0, oI l1, oI l2] [aI v3, aR 13 46] (sh_E h)
      have c := sh_okG H
      replace H := sh_okH H
      refine ai_WP_steps mc_269 (sh_CM d) 1 (And.intro c ?_)
      show wq_269 d Q 30 [oR 12 0, oI l1, oI l2] [aI (h.1 13 46 v3.toNatClampNeg)] (sh_E h)
      refine ai_WP_steps mc_269 (sh_CM d) 4 (And.intro (fun c => ?_) (fun c => ?_))
      · replace H := sh_okT c H
        show wq_269 d Q 38 [oR 12 0, oI l1, oI l2] [] (sh_E h)
        exact ai_WP_steps mc_269 (sh_CM d) 2 (hR (-1 : Int32) h H)
      · replace H := sh_okF c H
        show wq_269 d Q 40 [oR 12 0, oI l1, oI l2] [] (sh_E h)
        refine ai_WP_steps mc_269 (sh_CM d) 6 (And.intro (Nat.le_of_ble_eq_true rfl) (x_M_cell (Nat.le_trans (Nat.le_of_ble_eq_true rfl) hd) (0 : Int32) l1 (0 : Int32) h (sh_okB H) (fun v4 H => ?_)))
        show wq_269 d Q 50 [oR 12 0, oI l1, oI l2] [aI v4, aR 13 46] (sh_E h)
        have c := sh_okG H
        replace H := sh_okH H
        refine ai_WP_steps mc_269 (sh_CM d) 2 (And.intro c ?_)
        show wq_269 d Q 52 [oR 12 0, oI l1, oI l2] [aI (h.1 13 46 v4.toNatClampNeg), aI v4, aR 13 46] (sh_E h)
        have c := sh_okG H
        replace H := sh_okH H
        refine ai_WP_steps mc_269 (sh_CM d) 3 (And.intro c ?_)
        show wq_269 d Q 55 [oR 12 0, oI l1, oI l2] [] (sh_E (sh_pI h 13 46 v4.toNatClampNeg ((h.1 13 46 v4.toNatClampNeg) + l2)))
        replace H := sh_okL H
        generalize sh_pI h 13 46 v4.toNatClampNeg ((h.1 13 46 v4.toNatClampNeg) + l2) = h5 at H ⊢
        have c := sh_okG H
        replace H := sh_okH H
        refine ai_WP_steps mc_269 (sh_CM d) 5 (And.intro c ?_)
        show wq_269 d Q 62 [oR 12 0, oI l1, oI l2] [aL (h5.2.1 14 6 (2 : Int32).toNatClampNeg), aI (2 : Int32), aR 14 6] (sh_E h5)
        have c := sh_okG H
        replace H := sh_okH H
        refine ai_WP_steps mc_269 (sh_CM d) 12 (And.intro c ?_)
        show wq_269 d Q 77 [oR 12 0, oI l1, oI l2] [aI (h5.1 13 46 (((20 : Int32) + ((3 : Int32) * l1)) + (2 : Int32)).toNatClampNeg), aL l2.toInt64, aL (h5.2.1 14 6 (2 : Int32).toNatClampNeg), aI (2 : Int32), aR 14 6] (sh_E h5)
        have c := sh_okG H
        replace H := sh_okH H
        refine ai_WP_steps mc_269 (sh_CM d) 4 (And.intro c ?_)
        show wq_269 d Q 81 [oR 12 0, oI l1, oI l2] [] (sh_E (sh_pJ h5 14 6 (2 : Int32).toNatClampNeg ((h5.2.1 14 6 (2 : Int32).toNatClampNeg) + (l2.toInt64 * (h5.1 13 46 (((20 : Int32) + ((3 : Int32) * l1)) + (2 : Int32)).toNatClampNeg).toInt64))))
        replace H := sh_okL H
        generalize sh_pJ h5 14 6 (2 : Int32).toNatClampNeg ((h5.2.1 14 6 (2 : Int32).toNatClampNeg) + (l2.toInt64 * (h5.1 13 46 (((20 : Int32) + ((3 : Int32) * l1)) + (2 : Int32)).toNatClampNeg).toInt64)) = h6 at H ⊢
        refine ai_WP_steps mc_269 (sh_CM d) 4 (And.intro (Nat.le_of_ble_eq_true rfl) (x_M_all N (Nat.le_trans (Nat.le_of_ble_eq_true rfl) hd) (0 : Int32) l1 h6 (sh_okB H) (fun v7 H => ?_)))
        show wq_269 d Q 87 [oR 12 0, oI l1, oI l2] [aI v7] (sh_E h6)
        exact ai_WP_steps mc_269 (sh_CM d) 1 (hR v7 h6 H)
def f_M_burn_c24 (N : Nat)   (k24 : Int32 → Int32 → Int32 → sh_H → Option (Int32 × sh_H)) (l1 : Int32) (l3 : Int32) (l4 : Int32) (h : sh_H) : Option (Int32 × sh_H) := (if l4 < (4 : Int32) then (Option.bind (f_M_cell (0 : Int32) l1 l4 h) (fun v1 => (if ai_in v1 8000 then (Option.bind (f_M_cell (0 : Int32) l1 l4 h) (fun v2 => (if ai_in v2 8000 then (sh_let (sh_pI h 13 46 v2.toNatClampNeg (0 : Int32)) (fun h3 => k24 l1 (l3 + (h.1 13 46 v1.toNatClampNeg)) (l4 + (1 : Int32)) h3)) else none))) else none))) else (some (l3, h)))
def f_M_burn_l24 (N : Nat)   (n : Nat) : Int32 → Int32 → Int32 → sh_H → Option (Int32 × sh_H) := Nat.rec (motive := fun _ => Int32 → Int32 → Int32 → sh_H → Option (Int32 × sh_H)) (fun _ _ _ _ => none) (fun _ k24 => f_M_burn_c24 N k24) n
theorem x_M_burn_l24 (N : Nat) {d : Nat} (hd : 1 ≤ d) {Q : ai_Q} {R : Int32 × sh_H → Prop} (hR : ∀ r h, R (r, h) → Q (some (aI r)) (sh_E h))   (n : Nat) : ∀ (l1 : Int32) (l3 : Int32) (l4 : Int32) {d2 : Option ai_V} (h : sh_H), sh_ok (f_M_burn_l24 N n l1 l3 l4 h) R → wq_270 d Q 24 [oR 12 0, oI l1, d2, oI l3, oI l4] [] (sh_E h) := by
  induction n with
  | zero => intro l1 l3 l4 d2 h H; exact H.elim
  | succ n ih =>
    intro l1 l3 l4 d2 h H
    have hk24 := @ih
    replace H : sh_ok (f_M_burn_c24 N (f_M_burn_l24 N n) l1 l3 l4 h) R := H
    revert hk24 H
    generalize f_M_burn_l24 N n = k24
    intro hk24 H
    refine ai_WP_steps mc_270 (sh_CM d) 3 (And.intro (fun c => ?_) (fun c => ?_))
    · replace H := sh_okT c H
      show wq_270 d Q 30 [oR 12 0, oI l1, _, oI l3, oI l4] [] (sh_E h)
      refine ai_WP_steps mc_270 (sh_CM d) 7 (And.intro (Nat.le_of_ble_eq_true rfl) (x_M_cell (Nat.le_trans (Nat.le_of_ble_eq_true rfl) hd) (0 : Int32) l1 l4 h (sh_okB H) (fun v1 H => ?_)))
      show wq_270 d Q 42 [oR 12 0, oI l1, _, oI l3, oI l4] [aI v1, aR 13 46, aI l3] (sh_E h)
      have c := sh_okG H
      replace H := sh_okH H
      refine ai_WP_steps mc_270 (sh_CM d) 1 (And.intro c ?_)
      show wq_270 d Q 43 [oR 12 0, oI l1, _, oI l3, oI l4] [aI (h.1 13 46 v1.toNatClampNeg), aI l3] (sh_E h)
      refine ai_WP_steps mc_270 (sh_CM d) 8 (And.intro (Nat.le_of_ble_eq_true rfl) (x_M_cell (Nat.le_trans (Nat.le_of_ble_eq_true rfl) hd) (0 : Int32) l1 l4 h (sh_okB H) (fun v2 H => ?_)))
      show wq_270 d Q 56 [oR 12 0, oI l1, _, oI (l3 + (h.1 13 46 v1.toNatClampNeg)), oI l4] [aI v2, aR 13 46] (sh_E h)
      have c := sh_okG H
      replace H := sh_okH H
      refine ai_WP_steps mc_270 (sh_CM d) 2 (And.intro c ?_)
      show wq_270 d Q 58 [oR 12 0, oI l1, _, oI (l3 + (h.1 13 46 v1.toNatClampNeg)), oI l4] [] (sh_E (sh_pI h 13 46 v2.toNatClampNeg (0 : Int32)))
      replace H := sh_okL H
      generalize sh_pI h 13 46 v2.toNatClampNeg (0 : Int32) = h3 at H ⊢
      refine ai_WP_steps mc_270 (sh_CM d) 2 ?_
      exact hk24 l1 (l3 + (h.1 13 46 v1.toNatClampNeg)) (l4 + (1 : Int32)) h3 H
    · replace H := sh_okF c H
      show wq_270 d Q 64 [oR 12 0, oI l1, _, oI l3, oI l4] [] (sh_E h)
      exact ai_WP_steps mc_270 (sh_CM d) 2 (hR l3 h H)
def f_M_burn (N : Nat)  (l1 : Int32) (l2 : Int32) (h : sh_H) : Option (Int32 × sh_H) := (Option.bind (f_M_isKind l1 h) (fun v4 => (if v4 = 0 then (some ((-1 : Int32), h)) else (Option.bind (f_M_isIn l2 (0 : Int32) (3 : Int32) h) (fun v5 => (if v5 = 0 then (some ((-1 : Int32), h)) else f_M_burn_l24 N N l1 (0 : Int32) l2 h))))))
theorem x_M_burn (N : Nat) {d : Nat} (hd : 2 ≤ d) (l1 : Int32) (l2 : Int32) (h : sh_H) {Q : ai_Q} {R : Int32 × sh_H → Prop} (H : sh_ok (f_M_burn N l1 l2 h) R) (hR : ∀ r h, R (r, h) → Q (some (aI r)) (sh_E h)) : ai_Ex sh_T d 270 [aR 12 0, aI l1, aI l2] (sh_E h) Q := by
  obtain ⟨d, rfl⟩ : ∃ e, d = e + 1 := ⟨d - 1, by omega⟩
  replace hd : 1 ≤ d := by omega
  refine And.intro (Nat.le_of_ble_eq_true rfl) ?_
  show wq_270 d Q 0 [oR 12 0, oI l1, oI l2, none, none] [] (sh_E h)
  refine ai_WP_steps mc_270 (sh_CM d) 3 (And.intro (Nat.le_of_ble_eq_true rfl) (x_M_isKind (Nat.le_trans (Nat.le_of_ble_eq_true rfl) hd) l1 h (sh_okB H) (fun v4 H => ?_)))
  show wq_270 d Q 5 [oR 12 0, oI l1, oI l2, _, _] [aI v4] (sh_E h)
  refine ai_WP_steps mc_270 (sh_CM d) 1 (And.intro (fun c => ?_) (fun c => ?_))
  · replace H := sh_okT c H
    show wq_270 d Q 17 [oR 12 0, oI l1, oI l2, _, _] [] (sh_E h)
    exact ai_WP_steps mc_270 (sh_CM d) 2 (hR (-1 : Int32) h H)
  · replace H := sh_okF c H
    show wq_270 d Q 8 [oR 12 0, oI l1, oI l2, _, _] [] (sh_E h)
    refine ai_WP_steps mc_270 (sh_CM d) 4 (And.intro (Nat.le_of_ble_eq_true rfl) (x_M_isIn (Nat.le_trans (Nat.le_of_ble_eq_true rfl) hd) l2 (0 : Int32) (3 : Int32) h (sh_okB H) (fun v5 H => ?_)))
    show wq_270 d Q 14 [oR 12 0, oI l1, oI l2, _, _] [aI v5] (sh_E h)
    refine ai_WP_steps mc_270 (sh_CM d) 1 (And.intro (fun c => ?_) (fun c => ?_))
    · replace H := sh_okT c H
      show wq_270 d Q 17 [oR 12 0, oI l1, oI l2, _, _] [] (sh_E h)
      exact ai_WP_steps mc_270 (sh_CM d) 2 (hR (-1 : Int32) h H)
    · replace H := sh_okF c H
      show wq_270 d Q 19 [oR 12 0, oI l1, oI l2, _, _] [] (sh_E h)
      refine ai_WP_steps mc_270 (sh_CM d) 4 ?_
      exact x_M_burn_l24 N hd hR N l1 (0 : Int32) l2 h H
def f_M_lay  (l1 : Int32) (l2 : Int32) (l3 : Int32) (l4 : Int32) (h : sh_H) : Option (Int32 × sh_H) := (Option.bind (f_M_isPlace l1 h) (fun v1 => (if v1 = 0 then (some ((-1 : Int32), h)) else (Option.bind (f_M_isKind l2 h) (fun v2 => (if v2 = 0 then (some ((-1 : Int32), h)) else (Option.bind (f_M_isIn l3 (0 : Int32) (3 : Int32) h) (fun v3 => (if v3 = 0 then (some ((-1 : Int32), h)) else (Option.bind (f_M_isIn l4 (0 : Int32) (9999 : Int32) h) (fun v4 => (if v4 = 0 then (some ((-1 : Int32), h)) else (Option.bind (f_M_cell l1 l2 l3 h) (fun v5 => (if ai_in v5 8000 then (if (999999 : Int32) < ((h.1 13 46 v5.toNatClampNeg) + l4) then (some ((-1 : Int32), h)) else (Option.bind (f_M_cell l1 l2 l3 h) (fun v6 => (if ai_in v6 8000 then (if ai_in v6 8000 then (sh_let (sh_pI h 13 46 v6.toNatClampNeg ((h.1 13 46 v6.toNatClampNeg) + l4)) (fun h7 => (Option.bind (f_M_cell l1 l2 l3 h7) (fun v8 => (if ai_in v8 8000 then (some ((h7.1 13 46 v8.toNatClampNeg), h7)) else none))))) else none) else none)))) else none)))))))))))))))
theorem x_M_lay {d : Nat} (hd : 2 ≤ d) (l1 : Int32) (l2 : Int32) (l3 : Int32) (l4 : Int32) (h : sh_H) {Q : ai_Q} {R : Int32 × sh_H → Prop} (H : sh_ok (f_M_lay l1 l2 l3 l4 h) R) (hR : ∀ r h, R (r, h) → Q (some (aI r)) (sh_E h)) : ai_Ex sh_T d 271 [aR 12 0, aI l1, aI l2, aI l3, aI l4] (sh_E h) Q := by
  obtain ⟨d, rfl⟩ : ∃ e, d = e + 1 := ⟨d - 1, by omega⟩
  replace hd : 1 ≤ d := by omega
  refine And.intro (Nat.le_of_ble_eq_true rfl) ?_
  show wq_271 d Q 0 [oR 12 0, oI l1, oI l2, oI l3, oI l4] [] (sh_E h)
  refine ai_WP_steps mc_271 (sh_CM d) 3 (And.intro (Nat.le_of_ble_eq_true rfl) (x_M_isPlace (Nat.le_trans (Nat.le_of_ble_eq_true rfl) hd) l1 h (sh_okB H) (fun v1 H => ?_)))
  show wq_271 d Q 5 [oR 12 0, oI l1, oI l2, oI l3, oI l4] [aI v1] (sh_E h)
  refine ai_WP_steps mc_271 (sh_CM d) 1 (And.intro (fun c => ?_) (fun c => ?_))
  · replace H := sh_okT c H
    show wq_271 d Q 57 [oR 12 0, oI l1, oI l2, oI l3, oI l4] [] (sh_E h)
    exact ai_WP_steps mc_271 (sh_CM d) 2 (hR (-1 : Int32) h H)
  · replace H := sh_okF c H
    show wq_271 d Q 8 [oR 12 0, oI l1, oI l2, oI l3, oI l4] [] (sh_E h)
    refine ai_WP_steps mc_271 (sh_CM d) 3 (And.intro (Nat.le_of_ble_eq_true rfl) (x_M_isKind (Nat.le_trans (Nat.le_of_ble_eq_true rfl) hd) l2 h (sh_okB H) (fun v2 H => ?_)))
    show wq_271 d Q 13 [oR 12 0, oI l1, oI l2, oI l3, oI l4] [aI v2] (sh_E h)
    refine ai_WP_steps mc_271 (sh_CM d) 1 (And.intro (fun c => ?_) (fun c => ?_))
    · replace H := sh_okT c H
      show wq_271 d Q 57 [oR 12 0, oI l1, oI l2, oI l3, oI l4] [] (sh_E h)
      exact ai_WP_steps mc_271 (sh_CM d) 2 (hR (-1 : Int32) h H)
    · replace H := sh_okF c H
      show wq_271 d Q 16 [oR 12 0, oI l1, oI l2, oI l3, oI l4] [] (sh_E h)
      refine ai_WP_steps mc_271 (sh_CM d) 4 (And.intro (Nat.le_of_ble_eq_true rfl) (x_M_isIn (Nat.le_trans (Nat.le_of_ble_eq_true rfl) hd) l3 (0 : Int32) (3 : Int32) h (sh_okB H) (fun v3 H => ?_)))
      show wq_271 d Q 22 [oR 12 0, oI l1, oI l2, oI l3, oI l4] [aI v3] (sh_E h)
      refine ai_WP_steps mc_271 (sh_CM d) 1 (And.intro (fun c => ?_) (fun c => ?_))
      · replace H := sh_okT c H
        show wq_271 d Q 57 [oR 12 0, oI l1, oI l2, oI l3, oI l4] [] (sh_E h)
        exact ai_WP_steps mc_271 (sh_CM d) 2 (hR (-1 : Int32) h H)
      · replace H := sh_okF c H
        show wq_271 d Q 25 [oR 12 0, oI l1, oI l2, oI l3, oI l4] [] (sh_E h)
        refine ai_WP_steps mc_271 (sh_CM d) 4 (And.intro (Nat.le_of_ble_eq_true rfl) (x_M_isIn (Nat.le_trans (Nat.le_of_ble_eq_true rfl) hd) l4 (0 : Int32) (9999 : Int32) h (sh_okB H) (fun v4 H => ?_)))
        show wq_271 d Q 34 [oR 12 0, oI l1, oI l2, oI l3, oI l4] [aI v4] (sh_E h)
        refine ai_WP_steps mc_271 (sh_CM d) 1 (And.intro (fun c => ?_) (fun c => ?_))
        · replace H := sh_okT c H
          show wq_271 d Q 57 [oR 12 0, oI l1, oI l2, oI l3, oI l4] [] (sh_E h)
          exact ai_WP_steps mc_271 (sh_CM d) 2 (hR (-1 : Int32) h H)
        · replace H := sh_okF c H
          show wq_271 d Q 37 [oR 12 0, oI l1, oI l2, oI l3, oI l4] [] (sh_E h)
          refine ai_WP_steps mc_271 (sh_CM d) 6 (And.intro (Nat.le_of_ble_eq_true rfl) (x_M_cell (Nat.le_trans (Nat.le_of_ble_eq_true rfl) hd) l1 l2 l3 h (sh_okB H) (fun v5 H => ?_)))
          show wq_271 d Q 47 [oR 12 0, oI l1, oI l2, oI l3, oI l4] [aI v5, aR 13 46] (sh_E h)
          have c := sh_okG H
          replace H := sh_okH H
          refine ai_WP_steps mc_271 (sh_CM d) 1 (And.intro c ?_)
          show wq_271 d Q 48 [oR 12 0, oI l1, oI l2, oI l3, oI l4] [aI (h.1 13 46 v5.toNatClampNeg)] (sh_E h)
          refine ai_WP_steps mc_271 (sh_CM d) 4 (And.intro (fun c => ?_) (fun c => ?_))
          · replace H := sh_okT c H
            show wq_271 d Q 57 [oR 12 0, oI l1, oI l2, oI l3, oI l4] [] (sh_E h)
            exact ai_WP_steps mc_271 (sh_CM d) 2 (hR (-1 : Int32) h H)
          · replace H := sh_okF c H
            show wq_271 d Q 59 [oR 12 0, oI l1, oI l2, oI l3, oI l4] [] (sh_E h)
            refine ai_WP_steps mc_271 (sh_CM d) 6 (And.intro (Nat.le_of_ble_eq_true rfl) (x_M_cell (Nat.le_trans (Nat.le_of_ble_eq_true rfl) hd) l1 l2 l3 h (sh_okB H) (fun v6 H => ?_)))
            show wq_271 d Q 69 [oR 12 0, oI l1, oI l2, oI l3, oI l4] [aI v6, aR 13 46] (sh_E h)
            have c := sh_okG H
            replace H := sh_okH H
            refine ai_WP_steps mc_271 (sh_CM d) 2 (And.intro c ?_)
            show wq_271 d Q 71 [oR 12 0, oI l1, oI l2, oI l3, oI l4] [aI (h.1 13 46 v6.toNatClampNeg), aI v6, aR 13 46] (sh_E h)
            have c := sh_okG H
            replace H := sh_okH H
            refine ai_WP_steps mc_271 (sh_CM d) 3 (And.intro c ?_)
            show wq_271 d Q 75 [oR 12 0, oI l1, oI l2, oI l3, oI l4] [] (sh_E (sh_pI h 13 46 v6.toNatClampNeg ((h.1 13 46 v6.toNatClampNeg) + l4)))
            replace H := sh_okL H
            generalize sh_pI h 13 46 v6.toNatClampNeg ((h.1 13 46 v6.toNatClampNeg) + l4) = h7 at H ⊢
            refine ai_WP_steps mc_271 (sh_CM d) 6 (And.intro (Nat.le_of_ble_eq_true rfl) (x_M_cell (Nat.le_trans (Nat.le_of_ble_eq_true rfl) hd) l1 l2 l3 h7 (sh_okB H) (fun v8 H => ?_)))
            show wq_271 d Q 85 [oR 12 0, oI l1, oI l2, oI l3, oI l4] [aI v8, aR 13 46] (sh_E h7)
            have c := sh_okG H
            replace H := sh_okH H
            refine ai_WP_steps mc_271 (sh_CM d) 1 (And.intro c ?_)
            show wq_271 d Q 86 [oR 12 0, oI l1, oI l2, oI l3, oI l4] [aI (h7.1 13 46 v8.toNatClampNeg)] (sh_E h7)
            exact ai_WP_steps mc_271 (sh_CM d) 1 (hR (h7.1 13 46 v8.toNatClampNeg) h7 H)
