/-! shallow functions, written by program -/
def f_law_b2107 (N : Nat)  (k18 : Int32 → sh_H → Option (Int32 × sh_H)) (l3 : Int32) (h : sh_H) : Option (Int32 × sh_H) := k18 (l3 + (8 : Int32)) h
theorem x_law_b2107 (N : Nat) {d : Nat} (hd : 67 ≤ d) {Q : ai_Q} {R : Int32 × sh_H → Prop} (hR : ∀ r h, R (r, h) → Q (some (aI r)) (sh_E h))  (k18 : Int32 → sh_H → Option (Int32 × sh_H)) (hk18 : ∀ (l3 : Int32) (h : sh_H), sh_ok (k18 l3 h) R → wq_L d Q 18 [oR 17 0, oR 11 0, oR 12 0, oI l3] [] (sh_E h)) (l3 : Int32) (h : sh_H) (H : sh_ok (f_law_b2107 N k18 l3 h) R) : wq_L d Q 2107 [oR 17 0, oR 11 0, oR 12 0, oI l3] [] (sh_E h) := by
  refine ai_WP_steps mc_L (sh_CM d) 2 ?_
  exact hk18 (l3 + (8 : Int32)) h H
def f_law_b715 (N : Nat)  (k18 : Int32 → sh_H → Option (Int32 × sh_H)) (l3 : Int32) (s0 : Int32) (s2 : Int32) (s3 : Int32) (s4 : Int32) (s5 : Int32) (s6 : Int32) (h : sh_H) : Option (Int32 × sh_H) := (sh_b2 (f_M_send s2 s3 s4 s5 s6 h) (fun v1 h2 => (if s0 = v1 then f_law_b2107 N k18 l3 h2 else (some ((ai_nar 1 (0 : Int32)), h2)))))
theorem x_law_b715 (N : Nat) {d : Nat} (hd : 67 ≤ d) {Q : ai_Q} {R : Int32 × sh_H → Prop} (hR : ∀ r h, R (r, h) → Q (some (aI r)) (sh_E h))  (k18 : Int32 → sh_H → Option (Int32 × sh_H)) (hk18 : ∀ (l3 : Int32) (h : sh_H), sh_ok (k18 l3 h) R → wq_L d Q 18 [oR 17 0, oR 11 0, oR 12 0, oI l3] [] (sh_E h)) (l3 : Int32) (s0 : Int32) (s2 : Int32) (s3 : Int32) (s4 : Int32) (s5 : Int32) (s6 : Int32) (h : sh_H) (H : sh_ok (f_law_b715 N k18 l3 s0 s2 s3 s4 s5 s6 h) R) : wq_L d Q 715 [oR 17 0, oR 11 0, oR 12 0, oI l3] [aI s6, aI s5, aI s4, aI s3, aI s2, aR 12 0, aI s0] (sh_E h) := by
  refine ai_WP_steps mc_L (sh_CM d) 1 (And.intro (Nat.le_of_ble_eq_true rfl) (x_M_send (Nat.le_trans (Nat.le_of_ble_eq_true rfl) hd) s2 s3 s4 s5 s6 h (sh_okB H) (fun v1 h2 H => ?_)))
  show wq_L d Q 718 [oR 17 0, oR 11 0, oR 12 0, oI l3] [aI v1, aI s0] (sh_E h2)
  refine ai_WP_steps mc_L (sh_CM d) 1 (And.intro (fun c => ?_) (fun c => ?_))
  · replace H := sh_okT c H
    exact x_law_b2107 N hd hR k18 hk18 l3 h2 H
  · replace H := sh_okF c H
    show wq_L d Q 721 [oR 17 0, oR 11 0, oR 12 0, oI l3] [] (sh_E h2)
    exact ai_WP_steps mc_L (sh_CM d) 2 (hR (ai_nar 1 (0 : Int32)) h2 H)
def f_law_b678 (N : Nat)  (k18 : Int32 → sh_H → Option (Int32 × sh_H)) (l3 : Int32) (s1 : Int32) (s2 : Int32) (s3 : Int32) (s4 : Int32) (s5 : Int32) (h : sh_H) : Option (Int32 × sh_H) := (sh_b2 (f_CB_send N s1 s2 s3 s4 s5 h) (fun v3 h4 => (if ai_in (l3 + (1 : Int32)) h4.2.2.2.2 then (if ai_in (l3 + (2 : Int32)) h4.2.2.2.2 then (if ai_in (l3 + (3 : Int32)) h4.2.2.2.2 then (if ai_in (l3 + (4 : Int32)) h4.2.2.2.2 then (if ai_in (l3 + (5 : Int32)) h4.2.2.2.2 then (if (h4.1 17 0 (l3 + (5 : Int32)).toNatClampNeg) = 0 then f_law_b715 N k18 l3 v3 (h4.1 17 0 (l3 + (1 : Int32)).toNatClampNeg) (h4.1 17 0 (l3 + (2 : Int32)).toNatClampNeg) (h4.1 17 0 (l3 + (3 : Int32)).toNatClampNeg) (h4.1 17 0 (l3 + (4 : Int32)).toNatClampNeg) (0 : Int32) h4 else f_law_b715 N k18 l3 v3 (h4.1 17 0 (l3 + (1 : Int32)).toNatClampNeg) (h4.1 17 0 (l3 + (2 : Int32)).toNatClampNeg) (h4.1 17 0 (l3 + (3 : Int32)).toNatClampNeg) (h4.1 17 0 (l3 + (4 : Int32)).toNatClampNeg) (1 : Int32) h4) else none) else none) else none) else none) else none)))
theorem x_law_b678 (N : Nat) {d : Nat} (hd : 67 ≤ d) {Q : ai_Q} {R : Int32 × sh_H → Prop} (hR : ∀ r h, R (r, h) → Q (some (aI r)) (sh_E h))  (k18 : Int32 → sh_H → Option (Int32 × sh_H)) (hk18 : ∀ (l3 : Int32) (h : sh_H), sh_ok (k18 l3 h) R → wq_L d Q 18 [oR 17 0, oR 11 0, oR 12 0, oI l3] [] (sh_E h)) (l3 : Int32) (s1 : Int32) (s2 : Int32) (s3 : Int32) (s4 : Int32) (s5 : Int32) (h : sh_H) (H : sh_ok (f_law_b678 N k18 l3 s1 s2 s3 s4 s5 h) R) : wq_L d Q 678 [oR 17 0, oR 11 0, oR 12 0, oI l3] [aI s5, aI s4, aI s3, aI s2, aI s1, aR 11 0] (sh_E h) := by
  refine ai_WP_steps mc_L (sh_CM d) 1 (And.intro (Nat.le_of_ble_eq_true rfl) (x_CB_send N (Nat.le_trans (Nat.le_of_ble_eq_true rfl) hd) s1 s2 s3 s4 s5 h (sh_okB H) (fun v3 h4 H => ?_)))
  show wq_L d Q 681 [oR 17 0, oR 11 0, oR 12 0, oI l3] [aI v3] (sh_E h4)
  have c := sh_okG H
  replace H := sh_okH H
  refine ai_WP_steps mc_L (sh_CM d) 6 (And.intro c ?_)
  show wq_L d Q 687 [oR 17 0, oR 11 0, oR 12 0, oI l3] [aI (h4.1 17 0 (l3 + (1 : Int32)).toNatClampNeg), aR 12 0, aI v3] (sh_E h4)
  have c := sh_okG H
  replace H := sh_okH H
  refine ai_WP_steps mc_L (sh_CM d) 5 (And.intro c ?_)
  show wq_L d Q 692 [oR 17 0, oR 11 0, oR 12 0, oI l3] [aI (h4.1 17 0 (l3 + (2 : Int32)).toNatClampNeg), aI (h4.1 17 0 (l3 + (1 : Int32)).toNatClampNeg), aR 12 0, aI v3] (sh_E h4)
  have c := sh_okG H
  replace H := sh_okH H
  refine ai_WP_steps mc_L (sh_CM d) 5 (And.intro c ?_)
  show wq_L d Q 697 [oR 17 0, oR 11 0, oR 12 0, oI l3] [aI (h4.1 17 0 (l3 + (3 : Int32)).toNatClampNeg), aI (h4.1 17 0 (l3 + (2 : Int32)).toNatClampNeg), aI (h4.1 17 0 (l3 + (1 : Int32)).toNatClampNeg), aR 12 0, aI v3] (sh_E h4)
  have c := sh_okG H
  replace H := sh_okH H
  refine ai_WP_steps mc_L (sh_CM d) 5 (And.intro c ?_)
  show wq_L d Q 702 [oR 17 0, oR 11 0, oR 12 0, oI l3] [aI (h4.1 17 0 (l3 + (4 : Int32)).toNatClampNeg), aI (h4.1 17 0 (l3 + (3 : Int32)).toNatClampNeg), aI (h4.1 17 0 (l3 + (2 : Int32)).toNatClampNeg), aI (h4.1 17 0 (l3 + (1 : Int32)).toNatClampNeg), aR 12 0, aI v3] (sh_E h4)
  have c := sh_okG H
  replace H := sh_okH H
  refine ai_WP_steps mc_L (sh_CM d) 5 (And.intro c ?_)
  show wq_L d Q 707 [oR 17 0, oR 11 0, oR 12 0, oI l3] [aI (h4.1 17 0 (l3 + (5 : Int32)).toNatClampNeg), aI (h4.1 17 0 (l3 + (4 : Int32)).toNatClampNeg), aI (h4.1 17 0 (l3 + (3 : Int32)).toNatClampNeg), aI (h4.1 17 0 (l3 + (2 : Int32)).toNatClampNeg), aI (h4.1 17 0 (l3 + (1 : Int32)).toNatClampNeg), aR 12 0, aI v3] (sh_E h4)
  refine ai_WP_steps mc_L (sh_CM d) 1 (And.intro (fun c => ?_) (fun c => ?_))
  · replace H := sh_okT c H
    show wq_L d Q 714 [oR 17 0, oR 11 0, oR 12 0, oI l3] [aI (h4.1 17 0 (l3 + (4 : Int32)).toNatClampNeg), aI (h4.1 17 0 (l3 + (3 : Int32)).toNatClampNeg), aI (h4.1 17 0 (l3 + (2 : Int32)).toNatClampNeg), aI (h4.1 17 0 (l3 + (1 : Int32)).toNatClampNeg), aR 12 0, aI v3] (sh_E h4)
    refine ai_WP_steps mc_L (sh_CM d) 1 ?_
    exact x_law_b715 N hd hR k18 hk18 l3 v3 (h4.1 17 0 (l3 + (1 : Int32)).toNatClampNeg) (h4.1 17 0 (l3 + (2 : Int32)).toNatClampNeg) (h4.1 17 0 (l3 + (3 : Int32)).toNatClampNeg) (h4.1 17 0 (l3 + (4 : Int32)).toNatClampNeg) (0 : Int32) h4 H
  · replace H := sh_okF c H
    show wq_L d Q 710 [oR 17 0, oR 11 0, oR 12 0, oI l3] [aI (h4.1 17 0 (l3 + (4 : Int32)).toNatClampNeg), aI (h4.1 17 0 (l3 + (3 : Int32)).toNatClampNeg), aI (h4.1 17 0 (l3 + (2 : Int32)).toNatClampNeg), aI (h4.1 17 0 (l3 + (1 : Int32)).toNatClampNeg), aR 12 0, aI v3] (sh_E h4)
    refine ai_WP_steps mc_L (sh_CM d) 2 ?_
    exact x_law_b715 N hd hR k18 hk18 l3 v3 (h4.1 17 0 (l3 + (1 : Int32)).toNatClampNeg) (h4.1 17 0 (l3 + (2 : Int32)).toNatClampNeg) (h4.1 17 0 (l3 + (3 : Int32)).toNatClampNeg) (h4.1 17 0 (l3 + (4 : Int32)).toNatClampNeg) (1 : Int32) h4 H
def f_law_b1473 (N : Nat)  (k18 : Int32 → sh_H → Option (Int32 × sh_H)) (l3 : Int32) (s0 : Int32) (s2 : Int32) (s3 : Int32) (s4 : Int32) (s5 : Int32) (h : sh_H) : Option (Int32 × sh_H) := (sh_b2 (f_M_book s2 s3 s4 s5 h) (fun v5 h6 => (if s0 = v5 then f_law_b2107 N k18 l3 h6 else (some ((ai_nar 1 (0 : Int32)), h6)))))
theorem x_law_b1473 (N : Nat) {d : Nat} (hd : 67 ≤ d) {Q : ai_Q} {R : Int32 × sh_H → Prop} (hR : ∀ r h, R (r, h) → Q (some (aI r)) (sh_E h))  (k18 : Int32 → sh_H → Option (Int32 × sh_H)) (hk18 : ∀ (l3 : Int32) (h : sh_H), sh_ok (k18 l3 h) R → wq_L d Q 18 [oR 17 0, oR 11 0, oR 12 0, oI l3] [] (sh_E h)) (l3 : Int32) (s0 : Int32) (s2 : Int32) (s3 : Int32) (s4 : Int32) (s5 : Int32) (h : sh_H) (H : sh_ok (f_law_b1473 N k18 l3 s0 s2 s3 s4 s5 h) R) : wq_L d Q 1473 [oR 17 0, oR 11 0, oR 12 0, oI l3] [aI s5, aI s4, aI s3, aI s2, aR 12 0, aI s0] (sh_E h) := by
  refine ai_WP_steps mc_L (sh_CM d) 1 (And.intro (Nat.le_of_ble_eq_true rfl) (x_M_book (Nat.le_trans (Nat.le_of_ble_eq_true rfl) hd) s2 s3 s4 s5 h (sh_okB H) (fun v5 h6 H => ?_)))
  show wq_L d Q 1476 [oR 17 0, oR 11 0, oR 12 0, oI l3] [aI v5, aI s0] (sh_E h6)
  refine ai_WP_steps mc_L (sh_CM d) 1 (And.intro (fun c => ?_) (fun c => ?_))
  · replace H := sh_okT c H
    exact x_law_b2107 N hd hR k18 hk18 l3 h6 H
  · replace H := sh_okF c H
    show wq_L d Q 1479 [oR 17 0, oR 11 0, oR 12 0, oI l3] [] (sh_E h6)
    exact ai_WP_steps mc_L (sh_CM d) 2 (hR (ai_nar 1 (0 : Int32)) h6 H)
def f_law_b1441 (N : Nat)  (k18 : Int32 → sh_H → Option (Int32 × sh_H)) (l3 : Int32) (s1 : Int32) (s2 : Int32) (s3 : Int32) (s4 : Int32) (h : sh_H) : Option (Int32 × sh_H) := (sh_b2 (f_CB_book N s1 s2 s3 s4 h) (fun v7 h8 => (if ai_in (l3 + (1 : Int32)) h8.2.2.2.2 then (if ai_in (l3 + (2 : Int32)) h8.2.2.2.2 then (if ai_in (l3 + (3 : Int32)) h8.2.2.2.2 then (if ai_in (l3 + (4 : Int32)) h8.2.2.2.2 then (if (h8.1 17 0 (l3 + (4 : Int32)).toNatClampNeg) = 0 then f_law_b1473 N k18 l3 v7 (h8.1 17 0 (l3 + (1 : Int32)).toNatClampNeg) (h8.1 17 0 (l3 + (2 : Int32)).toNatClampNeg) (h8.1 17 0 (l3 + (3 : Int32)).toNatClampNeg) (0 : Int32) h8 else f_law_b1473 N k18 l3 v7 (h8.1 17 0 (l3 + (1 : Int32)).toNatClampNeg) (h8.1 17 0 (l3 + (2 : Int32)).toNatClampNeg) (h8.1 17 0 (l3 + (3 : Int32)).toNatClampNeg) (1 : Int32) h8) else none) else none) else none) else none)))
theorem x_law_b1441 (N : Nat) {d : Nat} (hd : 67 ≤ d) {Q : ai_Q} {R : Int32 × sh_H → Prop} (hR : ∀ r h, R (r, h) → Q (some (aI r)) (sh_E h))  (k18 : Int32 → sh_H → Option (Int32 × sh_H)) (hk18 : ∀ (l3 : Int32) (h : sh_H), sh_ok (k18 l3 h) R → wq_L d Q 18 [oR 17 0, oR 11 0, oR 12 0, oI l3] [] (sh_E h)) (l3 : Int32) (s1 : Int32) (s2 : Int32) (s3 : Int32) (s4 : Int32) (h : sh_H) (H : sh_ok (f_law_b1441 N k18 l3 s1 s2 s3 s4 h) R) : wq_L d Q 1441 [oR 17 0, oR 11 0, oR 12 0, oI l3] [aI s4, aI s3, aI s2, aI s1, aR 11 0] (sh_E h) := by
  refine ai_WP_steps mc_L (sh_CM d) 1 (And.intro (Nat.le_of_ble_eq_true rfl) (x_CB_book N (Nat.le_trans (Nat.le_of_ble_eq_true rfl) hd) s1 s2 s3 s4 h (sh_okB H) (fun v7 h8 H => ?_)))
  show wq_L d Q 1444 [oR 17 0, oR 11 0, oR 12 0, oI l3] [aI v7] (sh_E h8)
  have c := sh_okG H
  replace H := sh_okH H
  refine ai_WP_steps mc_L (sh_CM d) 6 (And.intro c ?_)
  show wq_L d Q 1450 [oR 17 0, oR 11 0, oR 12 0, oI l3] [aI (h8.1 17 0 (l3 + (1 : Int32)).toNatClampNeg), aR 12 0, aI v7] (sh_E h8)
  have c := sh_okG H
  replace H := sh_okH H
  refine ai_WP_steps mc_L (sh_CM d) 5 (And.intro c ?_)
  show wq_L d Q 1455 [oR 17 0, oR 11 0, oR 12 0, oI l3] [aI (h8.1 17 0 (l3 + (2 : Int32)).toNatClampNeg), aI (h8.1 17 0 (l3 + (1 : Int32)).toNatClampNeg), aR 12 0, aI v7] (sh_E h8)
  have c := sh_okG H
  replace H := sh_okH H
  refine ai_WP_steps mc_L (sh_CM d) 5 (And.intro c ?_)
  show wq_L d Q 1460 [oR 17 0, oR 11 0, oR 12 0, oI l3] [aI (h8.1 17 0 (l3 + (3 : Int32)).toNatClampNeg), aI (h8.1 17 0 (l3 + (2 : Int32)).toNatClampNeg), aI (h8.1 17 0 (l3 + (1 : Int32)).toNatClampNeg), aR 12 0, aI v7] (sh_E h8)
  have c := sh_okG H
  replace H := sh_okH H
  refine ai_WP_steps mc_L (sh_CM d) 5 (And.intro c ?_)
  show wq_L d Q 1465 [oR 17 0, oR 11 0, oR 12 0, oI l3] [aI (h8.1 17 0 (l3 + (4 : Int32)).toNatClampNeg), aI (h8.1 17 0 (l3 + (3 : Int32)).toNatClampNeg), aI (h8.1 17 0 (l3 + (2 : Int32)).toNatClampNeg), aI (h8.1 17 0 (l3 + (1 : Int32)).toNatClampNeg), aR 12 0, aI v7] (sh_E h8)
  refine ai_WP_steps mc_L (sh_CM d) 1 (And.intro (fun c => ?_) (fun c => ?_))
  · replace H := sh_okT c H
    show wq_L d Q 1472 [oR 17 0, oR 11 0, oR 12 0, oI l3] [aI (h8.1 17 0 (l3 + (3 : Int32)).toNatClampNeg), aI (h8.1 17 0 (l3 + (2 : Int32)).toNatClampNeg), aI (h8.1 17 0 (l3 + (1 : Int32)).toNatClampNeg), aR 12 0, aI v7] (sh_E h8)
    refine ai_WP_steps mc_L (sh_CM d) 1 ?_
    exact x_law_b1473 N hd hR k18 hk18 l3 v7 (h8.1 17 0 (l3 + (1 : Int32)).toNatClampNeg) (h8.1 17 0 (l3 + (2 : Int32)).toNatClampNeg) (h8.1 17 0 (l3 + (3 : Int32)).toNatClampNeg) (0 : Int32) h8 H
  · replace H := sh_okF c H
    show wq_L d Q 1468 [oR 17 0, oR 11 0, oR 12 0, oI l3] [aI (h8.1 17 0 (l3 + (3 : Int32)).toNatClampNeg), aI (h8.1 17 0 (l3 + (2 : Int32)).toNatClampNeg), aI (h8.1 17 0 (l3 + (1 : Int32)).toNatClampNeg), aR 12 0, aI v7] (sh_E h8)
    refine ai_WP_steps mc_L (sh_CM d) 2 ?_
    exact x_law_b1473 N hd hR k18 hk18 l3 v7 (h8.1 17 0 (l3 + (1 : Int32)).toNatClampNeg) (h8.1 17 0 (l3 + (2 : Int32)).toNatClampNeg) (h8.1 17 0 (l3 + (3 : Int32)).toNatClampNeg) (1 : Int32) h8 H
def f_law_b1793 (N : Nat)  (k18 : Int32 → sh_H → Option (Int32 × sh_H)) (l3 : Int32) (s0 : Int64) (s2 : Int32) (s3 : Int32) (s4 : Int32) (h : sh_H) : Option (Int32 × sh_H) := (sh_b2 (f_M_whoseWays N s2 s3 s4 h) (fun v9 h10 => (if (lg_cmp s0 v9) = 0 then f_law_b2107 N k18 l3 h10 else (some ((ai_nar 1 (0 : Int32)), h10)))))
theorem x_law_b1793 (N : Nat) {d : Nat} (hd : 67 ≤ d) {Q : ai_Q} {R : Int32 × sh_H → Prop} (hR : ∀ r h, R (r, h) → Q (some (aI r)) (sh_E h))  (k18 : Int32 → sh_H → Option (Int32 × sh_H)) (hk18 : ∀ (l3 : Int32) (h : sh_H), sh_ok (k18 l3 h) R → wq_L d Q 18 [oR 17 0, oR 11 0, oR 12 0, oI l3] [] (sh_E h)) (l3 : Int32) (s0 : Int64) (s2 : Int32) (s3 : Int32) (s4 : Int32) (h : sh_H) (H : sh_ok (f_law_b1793 N k18 l3 s0 s2 s3 s4 h) R) : wq_L d Q 1793 [oR 17 0, oR 11 0, oR 12 0, oI l3] [aI s4, aI s3, aI s2, aR 12 0, aL s0] (sh_E h) := by
  refine ai_WP_steps mc_L (sh_CM d) 1 (And.intro (Nat.le_of_ble_eq_true rfl) (x_M_whoseWays N (Nat.le_trans (Nat.le_of_ble_eq_true rfl) hd) s2 s3 s4 h (sh_okB H) (fun v9 h10 H => ?_)))
  show wq_L d Q 1796 [oR 17 0, oR 11 0, oR 12 0, oI l3] [aL v9, aL s0] (sh_E h10)
  refine ai_WP_steps mc_L (sh_CM d) 2 (And.intro (fun c => ?_) (fun c => ?_))
  · replace H := sh_okT c H
    exact x_law_b2107 N hd hR k18 hk18 l3 h10 H
  · replace H := sh_okF c H
    show wq_L d Q 1800 [oR 17 0, oR 11 0, oR 12 0, oI l3] [] (sh_E h10)
    exact ai_WP_steps mc_L (sh_CM d) 2 (hR (ai_nar 1 (0 : Int32)) h10 H)
def f_law_b1766 (N : Nat)  (k18 : Int32 → sh_H → Option (Int32 × sh_H)) (l3 : Int32) (s1 : Int32) (s2 : Int32) (s3 : Int32) (h : sh_H) : Option (Int32 × sh_H) := (sh_b2 (f_CB_whoseWays N s1 s2 s3 h) (fun v11 h12 => (if ai_in (l3 + (1 : Int32)) h12.2.2.2.2 then (if ai_in (l3 + (2 : Int32)) h12.2.2.2.2 then (if ai_in (l3 + (3 : Int32)) h12.2.2.2.2 then (if (h12.1 17 0 (l3 + (3 : Int32)).toNatClampNeg) = 0 then f_law_b1793 N k18 l3 v11 (h12.1 17 0 (l3 + (1 : Int32)).toNatClampNeg) (h12.1 17 0 (l3 + (2 : Int32)).toNatClampNeg) (0 : Int32) h12 else f_law_b1793 N k18 l3 v11 (h12.1 17 0 (l3 + (1 : Int32)).toNatClampNeg) (h12.1 17 0 (l3 + (2 : Int32)).toNatClampNeg) (1 : Int32) h12) else none) else none) else none)))
theorem x_law_b1766 (N : Nat) {d : Nat} (hd : 67 ≤ d) {Q : ai_Q} {R : Int32 × sh_H → Prop} (hR : ∀ r h, R (r, h) → Q (some (aI r)) (sh_E h))  (k18 : Int32 → sh_H → Option (Int32 × sh_H)) (hk18 : ∀ (l3 : Int32) (h : sh_H), sh_ok (k18 l3 h) R → wq_L d Q 18 [oR 17 0, oR 11 0, oR 12 0, oI l3] [] (sh_E h)) (l3 : Int32) (s1 : Int32) (s2 : Int32) (s3 : Int32) (h : sh_H) (H : sh_ok (f_law_b1766 N k18 l3 s1 s2 s3 h) R) : wq_L d Q 1766 [oR 17 0, oR 11 0, oR 12 0, oI l3] [aI s3, aI s2, aI s1, aR 11 0] (sh_E h) := by
  refine ai_WP_steps mc_L (sh_CM d) 1 (And.intro (Nat.le_of_ble_eq_true rfl) (x_CB_whoseWays N (Nat.le_trans (Nat.le_of_ble_eq_true rfl) hd) s1 s2 s3 h (sh_okB H) (fun v11 h12 H => ?_)))
  show wq_L d Q 1769 [oR 17 0, oR 11 0, oR 12 0, oI l3] [aL v11] (sh_E h12)
  have c := sh_okG H
  replace H := sh_okH H
  refine ai_WP_steps mc_L (sh_CM d) 6 (And.intro c ?_)
  show wq_L d Q 1775 [oR 17 0, oR 11 0, oR 12 0, oI l3] [aI (h12.1 17 0 (l3 + (1 : Int32)).toNatClampNeg), aR 12 0, aL v11] (sh_E h12)
  have c := sh_okG H
  replace H := sh_okH H
  refine ai_WP_steps mc_L (sh_CM d) 5 (And.intro c ?_)
  show wq_L d Q 1780 [oR 17 0, oR 11 0, oR 12 0, oI l3] [aI (h12.1 17 0 (l3 + (2 : Int32)).toNatClampNeg), aI (h12.1 17 0 (l3 + (1 : Int32)).toNatClampNeg), aR 12 0, aL v11] (sh_E h12)
  have c := sh_okG H
  replace H := sh_okH H
  refine ai_WP_steps mc_L (sh_CM d) 5 (And.intro c ?_)
  show wq_L d Q 1785 [oR 17 0, oR 11 0, oR 12 0, oI l3] [aI (h12.1 17 0 (l3 + (3 : Int32)).toNatClampNeg), aI (h12.1 17 0 (l3 + (2 : Int32)).toNatClampNeg), aI (h12.1 17 0 (l3 + (1 : Int32)).toNatClampNeg), aR 12 0, aL v11] (sh_E h12)
  refine ai_WP_steps mc_L (sh_CM d) 1 (And.intro (fun c => ?_) (fun c => ?_))
  · replace H := sh_okT c H
    show wq_L d Q 1792 [oR 17 0, oR 11 0, oR 12 0, oI l3] [aI (h12.1 17 0 (l3 + (2 : Int32)).toNatClampNeg), aI (h12.1 17 0 (l3 + (1 : Int32)).toNatClampNeg), aR 12 0, aL v11] (sh_E h12)
    refine ai_WP_steps mc_L (sh_CM d) 1 ?_
    exact x_law_b1793 N hd hR k18 hk18 l3 v11 (h12.1 17 0 (l3 + (1 : Int32)).toNatClampNeg) (h12.1 17 0 (l3 + (2 : Int32)).toNatClampNeg) (0 : Int32) h12 H
  · replace H := sh_okF c H
    show wq_L d Q 1788 [oR 17 0, oR 11 0, oR 12 0, oI l3] [aI (h12.1 17 0 (l3 + (2 : Int32)).toNatClampNeg), aI (h12.1 17 0 (l3 + (1 : Int32)).toNatClampNeg), aR 12 0, aL v11] (sh_E h12)
    refine ai_WP_steps mc_L (sh_CM d) 2 ?_
    exact x_law_b1793 N hd hR k18 hk18 l3 v11 (h12.1 17 0 (l3 + (1 : Int32)).toNatClampNeg) (h12.1 17 0 (l3 + (2 : Int32)).toNatClampNeg) (1 : Int32) h12 H
def f_law_c18 (N : Nat)   (k18 : Int32 → sh_H → Option (Int32 × sh_H)) (l3 : Int32) (h : sh_H) : Option (Int32 × sh_H) := (if ((Int32.ofNat h.2.2.2.2) - (8 : Int32)) < l3 then (some ((ai_nar 1 (1 : Int32)), h)) else (if ai_in l3 h.2.2.2.2 then (if ((h.1 17 0 l3.toNatClampNeg) &&& (63 : Int32)) = (0 : Int32) then (if ai_in (l3 + (1 : Int32)) h.2.2.2.2 then (if ai_in (l3 + (2 : Int32)) h.2.2.2.2 then (if ai_in (l3 + (3 : Int32)) h.2.2.2.2 then (if ai_in (l3 + (4 : Int32)) h.2.2.2.2 then (if ai_in (l3 + (5 : Int32)) h.2.2.2.2 then (sh_b2 (f_CB_feed N (h.1 17 0 (l3 + (1 : Int32)).toNatClampNeg) (h.1 17 0 (l3 + (2 : Int32)).toNatClampNeg) (h.1 17 0 (l3 + (3 : Int32)).toNatClampNeg) (h.1 17 0 (l3 + (4 : Int32)).toNatClampNeg) (h.1 17 0 (l3 + (5 : Int32)).toNatClampNeg) h) (fun v13 h14 => (if ai_in (l3 + (1 : Int32)) h14.2.2.2.2 then (if ai_in (l3 + (2 : Int32)) h14.2.2.2.2 then (if ai_in (l3 + (3 : Int32)) h14.2.2.2.2 then (if ai_in (l3 + (4 : Int32)) h14.2.2.2.2 then (if ai_in (l3 + (5 : Int32)) h14.2.2.2.2 then (sh_b2 (f_M_feed N (h14.1 17 0 (l3 + (1 : Int32)).toNatClampNeg) (h14.1 17 0 (l3 + (2 : Int32)).toNatClampNeg) (h14.1 17 0 (l3 + (3 : Int32)).toNatClampNeg) (h14.1 17 0 (l3 + (4 : Int32)).toNatClampNeg) (h14.1 17 0 (l3 + (5 : Int32)).toNatClampNeg) h14) (fun v15 h16 => (if v13 = v15 then f_law_b2107 N k18 l3 h16 else (some ((ai_nar 1 (0 : Int32)), h16))))) else none) else none) else none) else none) else none))) else none) else none) else none) else none) else none) else (if ((h.1 17 0 l3.toNatClampNeg) &&& (63 : Int32)) = (1 : Int32) then (if ai_in (l3 + (1 : Int32)) h.2.2.2.2 then (sh_b2 (f_CB_back (h.1 17 0 (l3 + (1 : Int32)).toNatClampNeg) h) (fun v17 h18 => (if ai_in (l3 + (1 : Int32)) h18.2.2.2.2 then (sh_b2 (f_M_back (h18.1 17 0 (l3 + (1 : Int32)).toNatClampNeg) h18) (fun v19 h20 => (if v17 = v19 then f_law_b2107 N k18 l3 h20 else (some ((ai_nar 1 (0 : Int32)), h20))))) else none))) else none) else (if ((h.1 17 0 l3.toNatClampNeg) &&& (63 : Int32)) = (2 : Int32) then (sh_b2 (f_CB_read N h) (fun v21 h22 => (sh_b2 (f_M_read N h22) (fun v23 h24 => (if v21 = v23 then f_law_b2107 N k18 l3 h24 else (some ((ai_nar 1 (0 : Int32)), h24))))))) else (if ((h.1 17 0 l3.toNatClampNeg) &&& (63 : Int32)) = (3 : Int32) then (Option.bind (f_CB_place h) (fun v25 => (Option.bind (f_M_place h) (fun v26 => (if v25 = v26 then f_law_b2107 N k18 l3 h else (some ((ai_nar 1 (0 : Int32)), h))))))) else (if ((h.1 17 0 l3.toNatClampNeg) &&& (63 : Int32)) = (4 : Int32) then (if ai_in (l3 + (1 : Int32)) h.2.2.2.2 then (if ai_in (l3 + (2 : Int32)) h.2.2.2.2 then (Option.bind (f_CB_kind (h.1 17 0 (l3 + (1 : Int32)).toNatClampNeg) (h.1 17 0 (l3 + (2 : Int32)).toNatClampNeg) h) (fun v27 => (if ai_in (l3 + (1 : Int32)) h.2.2.2.2 then (if ai_in (l3 + (2 : Int32)) h.2.2.2.2 then (Option.bind (f_M_kind (h.1 17 0 (l3 + (1 : Int32)).toNatClampNeg) (h.1 17 0 (l3 + (2 : Int32)).toNatClampNeg) h) (fun v28 => (if v27 = v28 then f_law_b2107 N k18 l3 h else (some ((ai_nar 1 (0 : Int32)), h))))) else none) else none))) else none) else none) else (if ((h.1 17 0 l3.toNatClampNeg) &&& (63 : Int32)) = (5 : Int32) then (if ai_in (l3 + (1 : Int32)) h.2.2.2.2 then (if ai_in (l3 + (2 : Int32)) h.2.2.2.2 then (Option.bind (f_CB_island (h.1 17 0 (l3 + (1 : Int32)).toNatClampNeg) (h.1 17 0 (l3 + (2 : Int32)).toNatClampNeg) h) (fun v29 => (if ai_in (l3 + (1 : Int32)) h.2.2.2.2 then (if ai_in (l3 + (2 : Int32)) h.2.2.2.2 then (Option.bind (f_M_island (h.1 17 0 (l3 + (1 : Int32)).toNatClampNeg) (h.1 17 0 (l3 + (2 : Int32)).toNatClampNeg) h) (fun v30 => (if v29 = v30 then f_law_b2107 N k18 l3 h else (some ((ai_nar 1 (0 : Int32)), h))))) else none) else none))) else none) else none) else (if ((h.1 17 0 l3.toNatClampNeg) &&& (63 : Int32)) = (6 : Int32) then (if ai_in (l3 + (1 : Int32)) h.2.2.2.2 then (if ai_in (l3 + (2 : Int32)) h.2.2.2.2 then (Option.bind (f_CB_boat N (h.1 17 0 (l3 + (1 : Int32)).toNatClampNeg) (h.1 17 0 (l3 + (2 : Int32)).toNatClampNeg) h) (fun v31 => (if ai_in (l3 + (1 : Int32)) h.2.2.2.2 then (if ai_in (l3 + (2 : Int32)) h.2.2.2.2 then (Option.bind (f_M_boat N (h.1 17 0 (l3 + (1 : Int32)).toNatClampNeg) (h.1 17 0 (l3 + (2 : Int32)).toNatClampNeg) h) (fun v32 => (if v31 = v32 then f_law_b2107 N k18 l3 h else (some ((ai_nar 1 (0 : Int32)), h))))) else none) else none))) else none) else none) else (if ((h.1 17 0 l3.toNatClampNeg) &&& (63 : Int32)) = (7 : Int32) then (if ai_in (l3 + (1 : Int32)) h.2.2.2.2 then (if ai_in (l3 + (2 : Int32)) h.2.2.2.2 then (if ai_in (l3 + (3 : Int32)) h.2.2.2.2 then (sh_b2 (f_CB_want N (h.1 17 0 (l3 + (1 : Int32)).toNatClampNeg) (h.1 17 0 (l3 + (2 : Int32)).toNatClampNeg) (h.1 17 0 (l3 + (3 : Int32)).toNatClampNeg) h) (fun v33 h34 => (if ai_in (l3 + (1 : Int32)) h34.2.2.2.2 then (if ai_in (l3 + (2 : Int32)) h34.2.2.2.2 then (if ai_in (l3 + (3 : Int32)) h34.2.2.2.2 then (sh_b2 (f_M_want N (h34.1 17 0 (l3 + (1 : Int32)).toNatClampNeg) (h34.1 17 0 (l3 + (2 : Int32)).toNatClampNeg) (h34.1 17 0 (l3 + (3 : Int32)).toNatClampNeg) h34) (fun v35 h36 => (if v33 = v35 then f_law_b2107 N k18 l3 h36 else (some ((ai_nar 1 (0 : Int32)), h36))))) else none) else none) else none))) else none) else none) else none) else (if ((h.1 17 0 l3.toNatClampNeg) &&& (63 : Int32)) = (8 : Int32) then (if ai_in (l3 + (1 : Int32)) h.2.2.2.2 then (if ai_in (l3 + (2 : Int32)) h.2.2.2.2 then (sh_b2 (f_CB_strike N (h.1 17 0 (l3 + (1 : Int32)).toNatClampNeg) (h.1 17 0 (l3 + (2 : Int32)).toNatClampNeg) h) (fun v37 h38 => (if ai_in (l3 + (1 : Int32)) h38.2.2.2.2 then (if ai_in (l3 + (2 : Int32)) h38.2.2.2.2 then (sh_b2 (f_M_strike N (h38.1 17 0 (l3 + (1 : Int32)).toNatClampNeg) (h38.1 17 0 (l3 + (2 : Int32)).toNatClampNeg) h38) (fun v39 h40 => (if v37 = v39 then f_law_b2107 N k18 l3 h40 else (some ((ai_nar 1 (0 : Int32)), h40))))) else none) else none))) else none) else none) else (if ((h.1 17 0 l3.toNatClampNeg) &&& (63 : Int32)) = (9 : Int32) then (if ai_in (l3 + (1 : Int32)) h.2.2.2.2 then (if ai_in (l3 + (2 : Int32)) h.2.2.2.2 then (sh_b2 (f_CB_burn N (h.1 17 0 (l3 + (1 : Int32)).toNatClampNeg) (h.1 17 0 (l3 + (2 : Int32)).toNatClampNeg) h) (fun v41 h42 => (if ai_in (l3 + (1 : Int32)) h42.2.2.2.2 then (if ai_in (l3 + (2 : Int32)) h42.2.2.2.2 then (sh_b2 (f_M_burn N (h42.1 17 0 (l3 + (1 : Int32)).toNatClampNeg) (h42.1 17 0 (l3 + (2 : Int32)).toNatClampNeg) h42) (fun v43 h44 => (if v41 = v43 then f_law_b2107 N k18 l3 h44 else (some ((ai_nar 1 (0 : Int32)), h44))))) else none) else none))) else none) else none) else (if ((h.1 17 0 l3.toNatClampNeg) &&& (63 : Int32)) = (10 : Int32) then (if ai_in (l3 + (1 : Int32)) h.2.2.2.2 then (if ai_in (l3 + (2 : Int32)) h.2.2.2.2 then (if ai_in (l3 + (3 : Int32)) h.2.2.2.2 then (if ai_in (l3 + (4 : Int32)) h.2.2.2.2 then (sh_b2 (f_CB_lay (h.1 17 0 (l3 + (1 : Int32)).toNatClampNeg) (h.1 17 0 (l3 + (2 : Int32)).toNatClampNeg) (h.1 17 0 (l3 + (3 : Int32)).toNatClampNeg) (h.1 17 0 (l3 + (4 : Int32)).toNatClampNeg) h) (fun v45 h46 => (if ai_in (l3 + (1 : Int32)) h46.2.2.2.2 then (if ai_in (l3 + (2 : Int32)) h46.2.2.2.2 then (if ai_in (l3 + (3 : Int32)) h46.2.2.2.2 then (if ai_in (l3 + (4 : Int32)) h46.2.2.2.2 then (sh_b2 (f_M_lay (h46.1 17 0 (l3 + (1 : Int32)).toNatClampNeg) (h46.1 17 0 (l3 + (2 : Int32)).toNatClampNeg) (h46.1 17 0 (l3 + (3 : Int32)).toNatClampNeg) (h46.1 17 0 (l3 + (4 : Int32)).toNatClampNeg) h46) (fun v47 h48 => (if v45 = v47 then f_law_b2107 N k18 l3 h48 else (some ((ai_nar 1 (0 : Int32)), h48))))) else none) else none) else none) else none))) else none) else none) else none) else none) else (if ((h.1 17 0 l3.toNatClampNeg) &&& (63 : Int32)) = (11 : Int32) then (if ai_in (l3 + (1 : Int32)) h.2.2.2.2 then (if ai_in (l3 + (2 : Int32)) h.2.2.2.2 then (if ai_in (l3 + (3 : Int32)) h.2.2.2.2 then (Option.bind (f_CB_has N (h.1 17 0 (l3 + (1 : Int32)).toNatClampNeg) (h.1 17 0 (l3 + (2 : Int32)).toNatClampNeg) (h.1 17 0 (l3 + (3 : Int32)).toNatClampNeg) h) (fun v49 => (if ai_in (l3 + (1 : Int32)) h.2.2.2.2 then (if ai_in (l3 + (2 : Int32)) h.2.2.2.2 then (if ai_in (l3 + (3 : Int32)) h.2.2.2.2 then (Option.bind (f_M_has N (h.1 17 0 (l3 + (1 : Int32)).toNatClampNeg) (h.1 17 0 (l3 + (2 : Int32)).toNatClampNeg) (h.1 17 0 (l3 + (3 : Int32)).toNatClampNeg) h) (fun v50 => (if v49 = v50 then f_law_b2107 N k18 l3 h else (some ((ai_nar 1 (0 : Int32)), h))))) else none) else none) else none))) else none) else none) else none) else (if ((h.1 17 0 l3.toNatClampNeg) &&& (63 : Int32)) = (12 : Int32) then (if ai_in (l3 + (1 : Int32)) h.2.2.2.2 then (if ai_in (l3 + (2 : Int32)) h.2.2.2.2 then (if ai_in (l3 + (3 : Int32)) h.2.2.2.2 then (if ai_in (l3 + (4 : Int32)) h.2.2.2.2 then (if ai_in (l3 + (5 : Int32)) h.2.2.2.2 then (if (h.1 17 0 (l3 + (5 : Int32)).toNatClampNeg) = 0 then f_law_b678 N k18 l3 (h.1 17 0 (l3 + (1 : Int32)).toNatClampNeg) (h.1 17 0 (l3 + (2 : Int32)).toNatClampNeg) (h.1 17 0 (l3 + (3 : Int32)).toNatClampNeg) (h.1 17 0 (l3 + (4 : Int32)).toNatClampNeg) (0 : Int32) h else f_law_b678 N k18 l3 (h.1 17 0 (l3 + (1 : Int32)).toNatClampNeg) (h.1 17 0 (l3 + (2 : Int32)).toNatClampNeg) (h.1 17 0 (l3 + (3 : Int32)).toNatClampNeg) (h.1 17 0 (l3 + (4 : Int32)).toNatClampNeg) (1 : Int32) h) else none) else none) else none) else none) else none) else (if ((h.1 17 0 l3.toNatClampNeg) &&& (63 : Int32)) = (13 : Int32) then (if ai_in (l3 + (1 : Int32)) h.2.2.2.2 then (Option.bind (f_CB_done (h.1 17 0 (l3 + (1 : Int32)).toNatClampNeg) h) (fun v51 => (if ai_in (l3 + (1 : Int32)) h.2.2.2.2 then (Option.bind (f_M_done (h.1 17 0 (l3 + (1 : Int32)).toNatClampNeg) h) (fun v52 => (if v51 = v52 then f_law_b2107 N k18 l3 h else (some ((ai_nar 1 (0 : Int32)), h))))) else none))) else none) else (if ((h.1 17 0 l3.toNatClampNeg) &&& (63 : Int32)) = (14 : Int32) then (sh_b2 (f_CB_judge N h) (fun v53 h54 => (sh_b2 (f_M_judge N h54) (fun v55 h56 => (if v53 = v55 then f_law_b2107 N k18 l3 h56 else (some ((ai_nar 1 (0 : Int32)), h56))))))) else (if ((h.1 17 0 l3.toNatClampNeg) &&& (63 : Int32)) = (15 : Int32) then (sh_b2 (f_CB_why N h) (fun v57 h58 => (sh_b2 (f_M_why N h58) (fun v59 h60 => (if v57 = v59 then f_law_b2107 N k18 l3 h60 else (some ((ai_nar 1 (0 : Int32)), h60))))))) else (if ((h.1 17 0 l3.toNatClampNeg) &&& (63 : Int32)) = (16 : Int32) then (if ai_in (l3 + (1 : Int32)) h.2.2.2.2 then (if ai_in (l3 + (2 : Int32)) h.2.2.2.2 then (sh_b2 (f_CB_months N (h.1 17 0 (l3 + (1 : Int32)).toNatClampNeg) (h.1 17 0 (l3 + (2 : Int32)).toNatClampNeg) h) (fun v61 h62 => (if ai_in (l3 + (1 : Int32)) h62.2.2.2.2 then (if ai_in (l3 + (2 : Int32)) h62.2.2.2.2 then (sh_b2 (f_M_months N (h62.1 17 0 (l3 + (1 : Int32)).toNatClampNeg) (h62.1 17 0 (l3 + (2 : Int32)).toNatClampNeg) h62) (fun v63 h64 => (if v61 = v63 then f_law_b2107 N k18 l3 h64 else (some ((ai_nar 1 (0 : Int32)), h64))))) else none) else none))) else none) else none) else (if ((h.1 17 0 l3.toNatClampNeg) &&& (63 : Int32)) = (17 : Int32) then (if ai_in (l3 + (1 : Int32)) h.2.2.2.2 then (if ai_in (l3 + (2 : Int32)) h.2.2.2.2 then (Option.bind (f_CB_lacks (h.1 17 0 (l3 + (1 : Int32)).toNatClampNeg) (h.1 17 0 (l3 + (2 : Int32)).toNatClampNeg) h) (fun v65 => (if ai_in (l3 + (1 : Int32)) h.2.2.2.2 then (if ai_in (l3 + (2 : Int32)) h.2.2.2.2 then (Option.bind (f_M_lacks (h.1 17 0 (l3 + (1 : Int32)).toNatClampNeg) (h.1 17 0 (l3 + (2 : Int32)).toNatClampNeg) h) (fun v66 => (if v65 = v66 then f_law_b2107 N k18 l3 h else (some ((ai_nar 1 (0 : Int32)), h))))) else none) else none))) else none) else none) else (if ((h.1 17 0 l3.toNatClampNeg) &&& (63 : Int32)) = (18 : Int32) then (if ai_in (l3 + (1 : Int32)) h.2.2.2.2 then (Option.bind (f_CB_spent (h.1 17 0 (l3 + (1 : Int32)).toNatClampNeg) h) (fun v67 => (if ai_in (l3 + (1 : Int32)) h.2.2.2.2 then (Option.bind (f_M_spent (h.1 17 0 (l3 + (1 : Int32)).toNatClampNeg) h) (fun v68 => (if (lg_cmp v67 v68) = 0 then f_law_b2107 N k18 l3 h else (some ((ai_nar 1 (0 : Int32)), h))))) else none))) else none) else (if ((h.1 17 0 l3.toNatClampNeg) &&& (63 : Int32)) = (19 : Int32) then (if ai_in (l3 + (1 : Int32)) h.2.2.2.2 then (if ai_in (l3 + (2 : Int32)) h.2.2.2.2 then (if ai_in (l3 + (3 : Int32)) h.2.2.2.2 then (sh_b2 (f_CB_pay N (h.1 17 0 (l3 + (1 : Int32)).toNatClampNeg) (h.1 17 0 (l3 + (2 : Int32)).toNatClampNeg) (h.1 17 0 (l3 + (3 : Int32)).toNatClampNeg) h) (fun v69 h70 => (if ai_in (l3 + (1 : Int32)) h70.2.2.2.2 then (if ai_in (l3 + (2 : Int32)) h70.2.2.2.2 then (if ai_in (l3 + (3 : Int32)) h70.2.2.2.2 then (sh_b2 (f_M_pay N (h70.1 17 0 (l3 + (1 : Int32)).toNatClampNeg) (h70.1 17 0 (l3 + (2 : Int32)).toNatClampNeg) (h70.1 17 0 (l3 + (3 : Int32)).toNatClampNeg) h70) (fun v71 h72 => (if v69 = v71 then f_law_b2107 N k18 l3 h72 else (some ((ai_nar 1 (0 : Int32)), h72))))) else none) else none) else none))) else none) else none) else none) else (if ((h.1 17 0 l3.toNatClampNeg) &&& (63 : Int32)) = (20 : Int32) then (if ai_in (l3 + (1 : Int32)) h.2.2.2.2 then (if ai_in (l3 + (2 : Int32)) h.2.2.2.2 then (if ai_in (l3 + (3 : Int32)) h.2.2.2.2 then (if ai_in (l3 + (4 : Int32)) h.2.2.2.2 then (sh_b2 (f_CB_change N (h.1 17 0 (l3 + (1 : Int32)).toNatClampNeg) (h.1 17 0 (l3 + (2 : Int32)).toNatClampNeg) (h.1 17 0 (l3 + (3 : Int32)).toNatClampNeg) (h.1 17 0 (l3 + (4 : Int32)).toNatClampNeg) h) (fun v73 h74 => (if ai_in (l3 + (1 : Int32)) h74.2.2.2.2 then (if ai_in (l3 + (2 : Int32)) h74.2.2.2.2 then (if ai_in (l3 + (3 : Int32)) h74.2.2.2.2 then (if ai_in (l3 + (4 : Int32)) h74.2.2.2.2 then (sh_b2 (f_M_change N (h74.1 17 0 (l3 + (1 : Int32)).toNatClampNeg) (h74.1 17 0 (l3 + (2 : Int32)).toNatClampNeg) (h74.1 17 0 (l3 + (3 : Int32)).toNatClampNeg) (h74.1 17 0 (l3 + (4 : Int32)).toNatClampNeg) h74) (fun v75 h76 => (if v73 = v75 then f_law_b2107 N k18 l3 h76 else (some ((ai_nar 1 (0 : Int32)), h76))))) else none) else none) else none) else none))) else none) else none) else none) else none) else (if ((h.1 17 0 l3.toNatClampNeg) &&& (63 : Int32)) = (21 : Int32) then (if ai_in (l3 + (1 : Int32)) h.2.2.2.2 then (if ai_in (l3 + (2 : Int32)) h.2.2.2.2 then (sh_b2 (f_CB_which N (h.1 17 0 (l3 + (1 : Int32)).toNatClampNeg) (h.1 17 0 (l3 + (2 : Int32)).toNatClampNeg) h) (fun v77 h78 => (if ai_in (l3 + (1 : Int32)) h78.2.2.2.2 then (if ai_in (l3 + (2 : Int32)) h78.2.2.2.2 then (sh_b2 (f_M_which N (h78.1 17 0 (l3 + (1 : Int32)).toNatClampNeg) (h78.1 17 0 (l3 + (2 : Int32)).toNatClampNeg) h78) (fun v79 h80 => (if v77 = v79 then f_law_b2107 N k18 l3 h80 else (some ((ai_nar 1 (0 : Int32)), h80))))) else none) else none))) else none) else none) else (if ((h.1 17 0 l3.toNatClampNeg) &&& (63 : Int32)) = (22 : Int32) then (if ai_in (l3 + (1 : Int32)) h.2.2.2.2 then (if ai_in (l3 + (2 : Int32)) h.2.2.2.2 then (sh_b2 (f_CB_whichSum N (h.1 17 0 (l3 + (1 : Int32)).toNatClampNeg) (h.1 17 0 (l3 + (2 : Int32)).toNatClampNeg) h) (fun v81 h82 => (if ai_in (l3 + (1 : Int32)) h82.2.2.2.2 then (if ai_in (l3 + (2 : Int32)) h82.2.2.2.2 then (sh_b2 (f_M_whichSum N (h82.1 17 0 (l3 + (1 : Int32)).toNatClampNeg) (h82.1 17 0 (l3 + (2 : Int32)).toNatClampNeg) h82) (fun v83 h84 => (if v81 = v83 then f_law_b2107 N k18 l3 h84 else (some ((ai_nar 1 (0 : Int32)), h84))))) else none) else none))) else none) else none) else (if ((h.1 17 0 l3.toNatClampNeg) &&& (63 : Int32)) = (23 : Int32) then (if ai_in (l3 + (1 : Int32)) h.2.2.2.2 then (if ai_in (l3 + (2 : Int32)) h.2.2.2.2 then (if ai_in (l3 + (3 : Int32)) h.2.2.2.2 then (if ai_in (l3 + (4 : Int32)) h.2.2.2.2 then (if ai_in (l3 + (5 : Int32)) h.2.2.2.2 then (if ai_in (l3 + (6 : Int32)) h.2.2.2.2 then (sh_b2 (f_CB_least N (h.1 17 0 (l3 + (1 : Int32)).toNatClampNeg) (h.1 17 0 (l3 + (2 : Int32)).toNatClampNeg) (h.1 17 0 (l3 + (3 : Int32)).toNatClampNeg) (h.1 17 0 (l3 + (4 : Int32)).toNatClampNeg) (h.1 17 0 (l3 + (5 : Int32)).toNatClampNeg) (h.1 17 0 (l3 + (6 : Int32)).toNatClampNeg) h) (fun v85 h86 => (if ai_in (l3 + (1 : Int32)) h86.2.2.2.2 then (if ai_in (l3 + (2 : Int32)) h86.2.2.2.2 then (if ai_in (l3 + (3 : Int32)) h86.2.2.2.2 then (if ai_in (l3 + (4 : Int32)) h86.2.2.2.2 then (if ai_in (l3 + (5 : Int32)) h86.2.2.2.2 then (if ai_in (l3 + (6 : Int32)) h86.2.2.2.2 then (sh_b2 (f_M_least N (h86.1 17 0 (l3 + (1 : Int32)).toNatClampNeg) (h86.1 17 0 (l3 + (2 : Int32)).toNatClampNeg) (h86.1 17 0 (l3 + (3 : Int32)).toNatClampNeg) (h86.1 17 0 (l3 + (4 : Int32)).toNatClampNeg) (h86.1 17 0 (l3 + (5 : Int32)).toNatClampNeg) (h86.1 17 0 (l3 + (6 : Int32)).toNatClampNeg) h86) (fun v87 h88 => (if (lg_cmp v85 v87) = 0 then f_law_b2107 N k18 l3 h88 else (some ((ai_nar 1 (0 : Int32)), h88))))) else none) else none) else none) else none) else none) else none))) else none) else none) else none) else none) else none) else none) else (if ((h.1 17 0 l3.toNatClampNeg) &&& (63 : Int32)) = (24 : Int32) then (if ai_in (l3 + (1 : Int32)) h.2.2.2.2 then (if ai_in (l3 + (2 : Int32)) h.2.2.2.2 then (if ai_in (l3 + (3 : Int32)) h.2.2.2.2 then (if ai_in (l3 + (4 : Int32)) h.2.2.2.2 then (if ai_in (l3 + (5 : Int32)) h.2.2.2.2 then (if ai_in (l3 + (6 : Int32)) h.2.2.2.2 then (sh_b2 (f_CB_order N (h.1 17 0 (l3 + (1 : Int32)).toNatClampNeg) (h.1 17 0 (l3 + (2 : Int32)).toNatClampNeg) (h.1 17 0 (l3 + (3 : Int32)).toNatClampNeg) (h.1 17 0 (l3 + (4 : Int32)).toNatClampNeg) (h.1 17 0 (l3 + (5 : Int32)).toNatClampNeg) (h.1 17 0 (l3 + (6 : Int32)).toNatClampNeg) h) (fun v89 h90 => (if ai_in (l3 + (1 : Int32)) h90.2.2.2.2 then (if ai_in (l3 + (2 : Int32)) h90.2.2.2.2 then (if ai_in (l3 + (3 : Int32)) h90.2.2.2.2 then (if ai_in (l3 + (4 : Int32)) h90.2.2.2.2 then (if ai_in (l3 + (5 : Int32)) h90.2.2.2.2 then (if ai_in (l3 + (6 : Int32)) h90.2.2.2.2 then (sh_b2 (f_M_order N (h90.1 17 0 (l3 + (1 : Int32)).toNatClampNeg) (h90.1 17 0 (l3 + (2 : Int32)).toNatClampNeg) (h90.1 17 0 (l3 + (3 : Int32)).toNatClampNeg) (h90.1 17 0 (l3 + (4 : Int32)).toNatClampNeg) (h90.1 17 0 (l3 + (5 : Int32)).toNatClampNeg) (h90.1 17 0 (l3 + (6 : Int32)).toNatClampNeg) h90) (fun v91 h92 => (if v89 = v91 then f_law_b2107 N k18 l3 h92 else (some ((ai_nar 1 (0 : Int32)), h92))))) else none) else none) else none) else none) else none) else none))) else none) else none) else none) else none) else none) else none) else (if ((h.1 17 0 l3.toNatClampNeg) &&& (63 : Int32)) = (25 : Int32) then (if ai_in (l3 + (1 : Int32)) h.2.2.2.2 then (if ai_in (l3 + (2 : Int32)) h.2.2.2.2 then (if ai_in (l3 + (3 : Int32)) h.2.2.2.2 then (if ai_in (l3 + (4 : Int32)) h.2.2.2.2 then (if ai_in (l3 + (5 : Int32)) h.2.2.2.2 then (if ai_in (l3 + (6 : Int32)) h.2.2.2.2 then (sh_b2 (f_CB_price N (h.1 17 0 (l3 + (1 : Int32)).toNatClampNeg) (h.1 17 0 (l3 + (2 : Int32)).toNatClampNeg) (h.1 17 0 (l3 + (3 : Int32)).toNatClampNeg) (h.1 17 0 (l3 + (4 : Int32)).toNatClampNeg) (h.1 17 0 (l3 + (5 : Int32)).toNatClampNeg) (h.1 17 0 (l3 + (6 : Int32)).toNatClampNeg) h) (fun v93 h94 => (if ai_in (l3 + (1 : Int32)) h94.2.2.2.2 then (if ai_in (l3 + (2 : Int32)) h94.2.2.2.2 then (if ai_in (l3 + (3 : Int32)) h94.2.2.2.2 then (if ai_in (l3 + (4 : Int32)) h94.2.2.2.2 then (if ai_in (l3 + (5 : Int32)) h94.2.2.2.2 then (if ai_in (l3 + (6 : Int32)) h94.2.2.2.2 then (sh_b2 (f_M_price N (h94.1 17 0 (l3 + (1 : Int32)).toNatClampNeg) (h94.1 17 0 (l3 + (2 : Int32)).toNatClampNeg) (h94.1 17 0 (l3 + (3 : Int32)).toNatClampNeg) (h94.1 17 0 (l3 + (4 : Int32)).toNatClampNeg) (h94.1 17 0 (l3 + (5 : Int32)).toNatClampNeg) (h94.1 17 0 (l3 + (6 : Int32)).toNatClampNeg) h94) (fun v95 h96 => (if (lg_cmp v93 v95) = 0 then f_law_b2107 N k18 l3 h96 else (some ((ai_nar 1 (0 : Int32)), h96))))) else none) else none) else none) else none) else none) else none))) else none) else none) else none) else none) else none) else none) else (if ((h.1 17 0 l3.toNatClampNeg) &&& (63 : Int32)) = (26 : Int32) then (if ai_in (l3 + (1 : Int32)) h.2.2.2.2 then (if ai_in (l3 + (2 : Int32)) h.2.2.2.2 then (if ai_in (l3 + (3 : Int32)) h.2.2.2.2 then (sh_b2 (f_CB_pool N (h.1 17 0 (l3 + (1 : Int32)).toNatClampNeg) (h.1 17 0 (l3 + (2 : Int32)).toNatClampNeg) (h.1 17 0 (l3 + (3 : Int32)).toNatClampNeg) h) (fun v97 h98 => (if ai_in (l3 + (1 : Int32)) h98.2.2.2.2 then (if ai_in (l3 + (2 : Int32)) h98.2.2.2.2 then (if ai_in (l3 + (3 : Int32)) h98.2.2.2.2 then (sh_b2 (f_M_pool N (h98.1 17 0 (l3 + (1 : Int32)).toNatClampNeg) (h98.1 17 0 (l3 + (2 : Int32)).toNatClampNeg) (h98.1 17 0 (l3 + (3 : Int32)).toNatClampNeg) h98) (fun v99 h100 => (if v97 = v99 then f_law_b2107 N k18 l3 h100 else (some ((ai_nar 1 (0 : Int32)), h100))))) else none) else none) else none))) else none) else none) else none) else (if ((h.1 17 0 l3.toNatClampNeg) &&& (63 : Int32)) = (27 : Int32) then (if ai_in (l3 + (1 : Int32)) h.2.2.2.2 then (if ai_in (l3 + (2 : Int32)) h.2.2.2.2 then (if ai_in (l3 + (3 : Int32)) h.2.2.2.2 then (sh_b2 (f_CB_saved N (h.1 17 0 (l3 + (1 : Int32)).toNatClampNeg) (h.1 17 0 (l3 + (2 : Int32)).toNatClampNeg) (h.1 17 0 (l3 + (3 : Int32)).toNatClampNeg) h) (fun v101 h102 => (if ai_in (l3 + (1 : Int32)) h102.2.2.2.2 then (if ai_in (l3 + (2 : Int32)) h102.2.2.2.2 then (if ai_in (l3 + (3 : Int32)) h102.2.2.2.2 then (sh_b2 (f_M_saved N (h102.1 17 0 (l3 + (1 : Int32)).toNatClampNeg) (h102.1 17 0 (l3 + (2 : Int32)).toNatClampNeg) (h102.1 17 0 (l3 + (3 : Int32)).toNatClampNeg) h102) (fun v103 h104 => (if v101 = v103 then f_law_b2107 N k18 l3 h104 else (some ((ai_nar 1 (0 : Int32)), h104))))) else none) else none) else none))) else none) else none) else none) else (if ((h.1 17 0 l3.toNatClampNeg) &&& (63 : Int32)) = (28 : Int32) then (if ai_in (l3 + (1 : Int32)) h.2.2.2.2 then (if ai_in (l3 + (2 : Int32)) h.2.2.2.2 then (if ai_in (l3 + (3 : Int32)) h.2.2.2.2 then (if ai_in (l3 + (4 : Int32)) h.2.2.2.2 then (if ai_in (l3 + (5 : Int32)) h.2.2.2.2 then (if ai_in (l3 + (6 : Int32)) h.2.2.2.2 then (sh_b2 (f_CB_holds N (h.1 17 0 (l3 + (1 : Int32)).toNatClampNeg) (h.1 17 0 (l3 + (2 : Int32)).toNatClampNeg) (h.1 17 0 (l3 + (3 : Int32)).toNatClampNeg) (h.1 17 0 (l3 + (4 : Int32)).toNatClampNeg) (h.1 17 0 (l3 + (5 : Int32)).toNatClampNeg) (h.1 17 0 (l3 + (6 : Int32)).toNatClampNeg) h) (fun v105 h106 => (if ai_in (l3 + (1 : Int32)) h106.2.2.2.2 then (if ai_in (l3 + (2 : Int32)) h106.2.2.2.2 then (if ai_in (l3 + (3 : Int32)) h106.2.2.2.2 then (if ai_in (l3 + (4 : Int32)) h106.2.2.2.2 then (if ai_in (l3 + (5 : Int32)) h106.2.2.2.2 then (if ai_in (l3 + (6 : Int32)) h106.2.2.2.2 then (sh_b2 (f_M_holds N (h106.1 17 0 (l3 + (1 : Int32)).toNatClampNeg) (h106.1 17 0 (l3 + (2 : Int32)).toNatClampNeg) (h106.1 17 0 (l3 + (3 : Int32)).toNatClampNeg) (h106.1 17 0 (l3 + (4 : Int32)).toNatClampNeg) (h106.1 17 0 (l3 + (5 : Int32)).toNatClampNeg) (h106.1 17 0 (l3 + (6 : Int32)).toNatClampNeg) h106) (fun v107 h108 => (if v105 = v107 then f_law_b2107 N k18 l3 h108 else (some ((ai_nar 1 (0 : Int32)), h108))))) else none) else none) else none) else none) else none) else none))) else none) else none) else none) else none) else none) else none) else (if ((h.1 17 0 l3.toNatClampNeg) &&& (63 : Int32)) = (29 : Int32) then (if ai_in (l3 + (1 : Int32)) h.2.2.2.2 then (if ai_in (l3 + (2 : Int32)) h.2.2.2.2 then (if ai_in (l3 + (3 : Int32)) h.2.2.2.2 then (if ai_in (l3 + (4 : Int32)) h.2.2.2.2 then (if (h.1 17 0 (l3 + (4 : Int32)).toNatClampNeg) = 0 then f_law_b1441 N k18 l3 (h.1 17 0 (l3 + (1 : Int32)).toNatClampNeg) (h.1 17 0 (l3 + (2 : Int32)).toNatClampNeg) (h.1 17 0 (l3 + (3 : Int32)).toNatClampNeg) (0 : Int32) h else f_law_b1441 N k18 l3 (h.1 17 0 (l3 + (1 : Int32)).toNatClampNeg) (h.1 17 0 (l3 + (2 : Int32)).toNatClampNeg) (h.1 17 0 (l3 + (3 : Int32)).toNatClampNeg) (1 : Int32) h) else none) else none) else none) else none) else (if ((h.1 17 0 l3.toNatClampNeg) &&& (63 : Int32)) = (30 : Int32) then (if ai_in (l3 + (1 : Int32)) h.2.2.2.2 then (if ai_in (l3 + (2 : Int32)) h.2.2.2.2 then (if ai_in (l3 + (3 : Int32)) h.2.2.2.2 then (sh_b2 (f_CB_looked N (h.1 17 0 (l3 + (1 : Int32)).toNatClampNeg) (h.1 17 0 (l3 + (2 : Int32)).toNatClampNeg) (h.1 17 0 (l3 + (3 : Int32)).toNatClampNeg) h) (fun v109 h110 => (if ai_in (l3 + (1 : Int32)) h110.2.2.2.2 then (if ai_in (l3 + (2 : Int32)) h110.2.2.2.2 then (if ai_in (l3 + (3 : Int32)) h110.2.2.2.2 then (sh_b2 (f_M_looked (h110.1 17 0 (l3 + (1 : Int32)).toNatClampNeg) (h110.1 17 0 (l3 + (2 : Int32)).toNatClampNeg) (h110.1 17 0 (l3 + (3 : Int32)).toNatClampNeg) h110) (fun v111 h112 => (if v109 = v111 then f_law_b2107 N k18 l3 h112 else (some ((ai_nar 1 (0 : Int32)), h112))))) else none) else none) else none))) else none) else none) else none) else (if ((h.1 17 0 l3.toNatClampNeg) &&& (63 : Int32)) = (31 : Int32) then (if ai_in (l3 + (1 : Int32)) h.2.2.2.2 then (sh_b2 (f_CB_annul N (h.1 17 0 (l3 + (1 : Int32)).toNatClampNeg) h) (fun v113 h114 => (if ai_in (l3 + (1 : Int32)) h114.2.2.2.2 then (sh_b2 (f_M_annul (h114.1 17 0 (l3 + (1 : Int32)).toNatClampNeg) h114) (fun v115 h116 => (if v113 = v115 then f_law_b2107 N k18 l3 h116 else (some ((ai_nar 1 (0 : Int32)), h116))))) else none))) else none) else (if ((h.1 17 0 l3.toNatClampNeg) &&& (63 : Int32)) = (32 : Int32) then (if ai_in (l3 + (1 : Int32)) h.2.2.2.2 then (if ai_in (l3 + (2 : Int32)) h.2.2.2.2 then (if ai_in (l3 + (3 : Int32)) h.2.2.2.2 then (sh_b2 (f_CB_balance N (h.1 17 0 (l3 + (1 : Int32)).toNatClampNeg) (h.1 17 0 (l3 + (2 : Int32)).toNatClampNeg) (h.1 17 0 (l3 + (3 : Int32)).toNatClampNeg) h) (fun v117 h118 => (if ai_in (l3 + (1 : Int32)) h118.2.2.2.2 then (if ai_in (l3 + (2 : Int32)) h118.2.2.2.2 then (if ai_in (l3 + (3 : Int32)) h118.2.2.2.2 then (Option.bind (f_M_balance N (h118.1 17 0 (l3 + (1 : Int32)).toNatClampNeg) (h118.1 17 0 (l3 + (2 : Int32)).toNatClampNeg) (h118.1 17 0 (l3 + (3 : Int32)).toNatClampNeg) h118) (fun v119 => (if v117 = v119 then f_law_b2107 N k18 l3 h118 else (some ((ai_nar 1 (0 : Int32)), h118))))) else none) else none) else none))) else none) else none) else none) else (if ((h.1 17 0 l3.toNatClampNeg) &&& (63 : Int32)) = (33 : Int32) then (if ai_in (l3 + (1 : Int32)) h.2.2.2.2 then (sh_b2 (f_CB_richest N (h.1 17 0 (l3 + (1 : Int32)).toNatClampNeg) h) (fun v120 h121 => (if ai_in (l3 + (1 : Int32)) h121.2.2.2.2 then (Option.bind (f_M_richest N (h121.1 17 0 (l3 + (1 : Int32)).toNatClampNeg) h121) (fun v122 => (if v120 = v122 then f_law_b2107 N k18 l3 h121 else (some ((ai_nar 1 (0 : Int32)), h121))))) else none))) else none) else (if ((h.1 17 0 l3.toNatClampNeg) &&& (63 : Int32)) = (34 : Int32) then (if ai_in (l3 + (1 : Int32)) h.2.2.2.2 then (if ai_in (l3 + (2 : Int32)) h.2.2.2.2 then (if ai_in (l3 + (3 : Int32)) h.2.2.2.2 then (if ai_in (l3 + (4 : Int32)) h.2.2.2.2 then (sh_b2 (f_CB_jars N (h.1 17 0 (l3 + (1 : Int32)).toNatClampNeg) (h.1 17 0 (l3 + (2 : Int32)).toNatClampNeg) (h.1 17 0 (l3 + (3 : Int32)).toNatClampNeg) (h.1 17 0 (l3 + (4 : Int32)).toNatClampNeg) h) (fun v123 h124 => (if ai_in (l3 + (1 : Int32)) h124.2.2.2.2 then (if ai_in (l3 + (2 : Int32)) h124.2.2.2.2 then (if ai_in (l3 + (3 : Int32)) h124.2.2.2.2 then (if ai_in (l3 + (4 : Int32)) h124.2.2.2.2 then (sh_b2 (f_M_jars N (h124.1 17 0 (l3 + (1 : Int32)).toNatClampNeg) (h124.1 17 0 (l3 + (2 : Int32)).toNatClampNeg) (h124.1 17 0 (l3 + (3 : Int32)).toNatClampNeg) (h124.1 17 0 (l3 + (4 : Int32)).toNatClampNeg) h124) (fun v125 h126 => (if v123 = v125 then f_law_b2107 N k18 l3 h126 else (some ((ai_nar 1 (0 : Int32)), h126))))) else none) else none) else none) else none))) else none) else none) else none) else none) else (if ((h.1 17 0 l3.toNatClampNeg) &&& (63 : Int32)) = (35 : Int32) then (if ai_in (l3 + (1 : Int32)) h.2.2.2.2 then (if ai_in (l3 + (2 : Int32)) h.2.2.2.2 then (if ai_in (l3 + (3 : Int32)) h.2.2.2.2 then (if ai_in (l3 + (4 : Int32)) h.2.2.2.2 then (sh_b2 (f_CB_ends N (h.1 17 0 (l3 + (1 : Int32)).toNatClampNeg) (h.1 17 0 (l3 + (2 : Int32)).toNatClampNeg) (h.1 17 0 (l3 + (3 : Int32)).toNatClampNeg) (h.1 17 0 (l3 + (4 : Int32)).toNatClampNeg) h) (fun v127 h128 => (if ai_in (l3 + (1 : Int32)) h128.2.2.2.2 then (if ai_in (l3 + (2 : Int32)) h128.2.2.2.2 then (if ai_in (l3 + (3 : Int32)) h128.2.2.2.2 then (if ai_in (l3 + (4 : Int32)) h128.2.2.2.2 then (sh_b2 (f_M_ends N (h128.1 17 0 (l3 + (1 : Int32)).toNatClampNeg) (h128.1 17 0 (l3 + (2 : Int32)).toNatClampNeg) (h128.1 17 0 (l3 + (3 : Int32)).toNatClampNeg) (h128.1 17 0 (l3 + (4 : Int32)).toNatClampNeg) h128) (fun v129 h130 => (if v127 = v129 then f_law_b2107 N k18 l3 h130 else (some ((ai_nar 1 (0 : Int32)), h130))))) else none) else none) else none) else none))) else none) else none) else none) else none) else (if ((h.1 17 0 l3.toNatClampNeg) &&& (63 : Int32)) = (36 : Int32) then (if ai_in (l3 + (1 : Int32)) h.2.2.2.2 then (sh_b2 (f_CB_whose N (h.1 17 0 (l3 + (1 : Int32)).toNatClampNeg) h) (fun v131 h132 => (if ai_in (l3 + (1 : Int32)) h132.2.2.2.2 then (sh_b2 (f_M_whose N (h132.1 17 0 (l3 + (1 : Int32)).toNatClampNeg) h132) (fun v133 h134 => (if v131 = v133 then f_law_b2107 N k18 l3 h134 else (some ((ai_nar 1 (0 : Int32)), h134))))) else none))) else none) else (if ((h.1 17 0 l3.toNatClampNeg) &&& (63 : Int32)) = (37 : Int32) then (if ai_in (l3 + (1 : Int32)) h.2.2.2.2 then (if ai_in (l3 + (2 : Int32)) h.2.2.2.2 then (if ai_in (l3 + (3 : Int32)) h.2.2.2.2 then (if (h.1 17 0 (l3 + (3 : Int32)).toNatClampNeg) = 0 then f_law_b1766 N k18 l3 (h.1 17 0 (l3 + (1 : Int32)).toNatClampNeg) (h.1 17 0 (l3 + (2 : Int32)).toNatClampNeg) (0 : Int32) h else f_law_b1766 N k18 l3 (h.1 17 0 (l3 + (1 : Int32)).toNatClampNeg) (h.1 17 0 (l3 + (2 : Int32)).toNatClampNeg) (1 : Int32) h) else none) else none) else none) else (if ((h.1 17 0 l3.toNatClampNeg) &&& (63 : Int32)) = (38 : Int32) then (if ai_in (l3 + (1 : Int32)) h.2.2.2.2 then (if ai_in (l3 + (2 : Int32)) h.2.2.2.2 then (if ai_in (l3 + (3 : Int32)) h.2.2.2.2 then (if ai_in (l3 + (4 : Int32)) h.2.2.2.2 then (Option.bind (f_CB_trickle N (h.1 17 0 (l3 + (1 : Int32)).toNatClampNeg) (h.1 17 0 (l3 + (2 : Int32)).toNatClampNeg) (h.1 17 0 (l3 + (3 : Int32)).toNatClampNeg) (h.1 17 0 (l3 + (4 : Int32)).toNatClampNeg) h) (fun v135 => (if ai_in (l3 + (1 : Int32)) h.2.2.2.2 then (if ai_in (l3 + (2 : Int32)) h.2.2.2.2 then (if ai_in (l3 + (3 : Int32)) h.2.2.2.2 then (if ai_in (l3 + (4 : Int32)) h.2.2.2.2 then (Option.bind (f_M_trickle N (h.1 17 0 (l3 + (1 : Int32)).toNatClampNeg) (h.1 17 0 (l3 + (2 : Int32)).toNatClampNeg) (h.1 17 0 (l3 + (3 : Int32)).toNatClampNeg) (h.1 17 0 (l3 + (4 : Int32)).toNatClampNeg) h) (fun v136 => (if v135 = v136 then f_law_b2107 N k18 l3 h else (some ((ai_nar 1 (0 : Int32)), h))))) else none) else none) else none) else none))) else none) else none) else none) else none) else (if ((h.1 17 0 l3.toNatClampNeg) &&& (63 : Int32)) = (39 : Int32) then (if ai_in (l3 + (1 : Int32)) h.2.2.2.2 then (if ai_in (l3 + (2 : Int32)) h.2.2.2.2 then (if ai_in (l3 + (3 : Int32)) h.2.2.2.2 then (if ai_in (l3 + (4 : Int32)) h.2.2.2.2 then (Option.bind (f_CB_trickled N (h.1 17 0 (l3 + (1 : Int32)).toNatClampNeg) (h.1 17 0 (l3 + (2 : Int32)).toNatClampNeg) (h.1 17 0 (l3 + (3 : Int32)).toNatClampNeg) (h.1 17 0 (l3 + (4 : Int32)).toNatClampNeg) h) (fun v137 => (if ai_in (l3 + (1 : Int32)) h.2.2.2.2 then (if ai_in (l3 + (2 : Int32)) h.2.2.2.2 then (if ai_in (l3 + (3 : Int32)) h.2.2.2.2 then (if ai_in (l3 + (4 : Int32)) h.2.2.2.2 then (Option.bind (f_M_trickled N (h.1 17 0 (l3 + (1 : Int32)).toNatClampNeg) (h.1 17 0 (l3 + (2 : Int32)).toNatClampNeg) (h.1 17 0 (l3 + (3 : Int32)).toNatClampNeg) (h.1 17 0 (l3 + (4 : Int32)).toNatClampNeg) h) (fun v138 => (if v137 = v138 then f_law_b2107 N k18 l3 h else (some ((ai_nar 1 (0 : Int32)), h))))) else none) else none) else none) else none))) else none) else none) else none) else none) else (if ((h.1 17 0 l3.toNatClampNeg) &&& (63 : Int32)) = (40 : Int32) then (if ai_in (l3 + (1 : Int32)) h.2.2.2.2 then (if ai_in (l3 + (2 : Int32)) h.2.2.2.2 then (if ai_in (l3 + (3 : Int32)) h.2.2.2.2 then (Option.bind (f_CB_burnAt N (h.1 17 0 (l3 + (1 : Int32)).toNatClampNeg) (h.1 17 0 (l3 + (2 : Int32)).toNatClampNeg) (h.1 17 0 (l3 + (3 : Int32)).toNatClampNeg) h) (fun v139 => (if ai_in (l3 + (1 : Int32)) h.2.2.2.2 then (if ai_in (l3 + (2 : Int32)) h.2.2.2.2 then (if ai_in (l3 + (3 : Int32)) h.2.2.2.2 then (Option.bind (f_M_burnAt N (h.1 17 0 (l3 + (1 : Int32)).toNatClampNeg) (h.1 17 0 (l3 + (2 : Int32)).toNatClampNeg) (h.1 17 0 (l3 + (3 : Int32)).toNatClampNeg) h) (fun v140 => (if v139 = v140 then f_law_b2107 N k18 l3 h else (some ((ai_nar 1 (0 : Int32)), h))))) else none) else none) else none))) else none) else none) else none) else (if ((h.1 17 0 l3.toNatClampNeg) &&& (63 : Int32)) = (41 : Int32) then (if ai_in (l3 + (1 : Int32)) h.2.2.2.2 then (if ai_in (l3 + (2 : Int32)) h.2.2.2.2 then (if ai_in (l3 + (3 : Int32)) h.2.2.2.2 then (if ai_in (l3 + (4 : Int32)) h.2.2.2.2 then (if ai_in (l3 + (5 : Int32)) h.2.2.2.2 then (if ai_in (l3 + (6 : Int32)) h.2.2.2.2 then (if ai_in (l3 + (7 : Int32)) h.2.2.2.2 then (Option.bind (f_CB_sort (h.1 17 0 (l3 + (1 : Int32)).toNatClampNeg) (h.1 17 0 (l3 + (2 : Int32)).toNatClampNeg) (h.1 17 0 (l3 + (3 : Int32)).toNatClampNeg) (h.1 17 0 (l3 + (4 : Int32)).toNatClampNeg) (h.1 17 0 (l3 + (5 : Int32)).toNatClampNeg) (h.1 17 0 (l3 + (6 : Int32)).toNatClampNeg) (h.1 17 0 (l3 + (7 : Int32)).toNatClampNeg) h) (fun v141 => (if ai_in (l3 + (1 : Int32)) h.2.2.2.2 then (if ai_in (l3 + (2 : Int32)) h.2.2.2.2 then (if ai_in (l3 + (3 : Int32)) h.2.2.2.2 then (if ai_in (l3 + (4 : Int32)) h.2.2.2.2 then (if ai_in (l3 + (5 : Int32)) h.2.2.2.2 then (if ai_in (l3 + (6 : Int32)) h.2.2.2.2 then (if ai_in (l3 + (7 : Int32)) h.2.2.2.2 then (Option.bind (f_M_sort (h.1 17 0 (l3 + (1 : Int32)).toNatClampNeg) (h.1 17 0 (l3 + (2 : Int32)).toNatClampNeg) (h.1 17 0 (l3 + (3 : Int32)).toNatClampNeg) (h.1 17 0 (l3 + (4 : Int32)).toNatClampNeg) (h.1 17 0 (l3 + (5 : Int32)).toNatClampNeg) (h.1 17 0 (l3 + (6 : Int32)).toNatClampNeg) (h.1 17 0 (l3 + (7 : Int32)).toNatClampNeg) h) (fun v142 => (if v141 = v142 then f_law_b2107 N k18 l3 h else (some ((ai_nar 1 (0 : Int32)), h))))) else none) else none) else none) else none) else none) else none) else none))) else none) else none) else none) else none) else none) else none) else none) else (if ((h.1 17 0 l3.toNatClampNeg) &&& (63 : Int32)) = (42 : Int32) then (if ai_in (l3 + (1 : Int32)) h.2.2.2.2 then (sh_b2 (f_CB_hold N (h.1 17 0 (l3 + (1 : Int32)).toNatClampNeg) h) (fun v143 h144 => (if ai_in (l3 + (1 : Int32)) h144.2.2.2.2 then (sh_b2 (f_M_hold N (h144.1 17 0 (l3 + (1 : Int32)).toNatClampNeg) h144) (fun v145 h146 => (if v143 = v145 then f_law_b2107 N k18 l3 h146 else (some ((ai_nar 1 (0 : Int32)), h146))))) else none))) else none) else (if ((h.1 17 0 l3.toNatClampNeg) &&& (63 : Int32)) = (43 : Int32) then (if ai_in (l3 + (1 : Int32)) h.2.2.2.2 then (sh_b2 (f_CB_restore N (h.1 17 0 (l3 + (1 : Int32)).toNatClampNeg) h) (fun v147 h148 => (if ai_in (l3 + (1 : Int32)) h148.2.2.2.2 then (sh_b2 (f_M_restore N (h148.1 17 0 (l3 + (1 : Int32)).toNatClampNeg) h148) (fun v149 h150 => (if v147 = v149 then f_law_b2107 N k18 l3 h150 else (some ((ai_nar 1 (0 : Int32)), h150))))) else none))) else none) else (if ((h.1 17 0 l3.toNatClampNeg) &&& (63 : Int32)) = (44 : Int32) then (if ai_in (l3 + (1 : Int32)) h.2.2.2.2 then (Option.bind (f_CB_count (h.1 17 0 (l3 + (1 : Int32)).toNatClampNeg) h) (fun v151 => (if ai_in (l3 + (1 : Int32)) h.2.2.2.2 then (Option.bind (f_M_count (h.1 17 0 (l3 + (1 : Int32)).toNatClampNeg) h) (fun v152 => (if v151 = v152 then f_law_b2107 N k18 l3 h else (some ((ai_nar 1 (0 : Int32)), h))))) else none))) else none) else f_law_b2107 N k18 l3 h))))))))))))))))))))))))))))))))))))))))))))) else none))
def f_law_l18 (N : Nat)   (n : Nat) : Int32 → sh_H → Option (Int32 × sh_H) := Nat.rec (motive := fun _ => Int32 → sh_H → Option (Int32 × sh_H)) (fun _ _ => none) (fun _ k18 => f_law_c18 N k18) n
theorem x_law_l18 (N : Nat) {d : Nat} (hd : 67 ≤ d) {Q : ai_Q} {R : Int32 × sh_H → Prop} (hR : ∀ r h, R (r, h) → Q (some (aI r)) (sh_E h))   (n : Nat) : ∀ (l3 : Int32) (h : sh_H), sh_ok (f_law_l18 N n l3 h) R → wq_L d Q 18 [oR 17 0, oR 11 0, oR 12 0, oI l3] [] (sh_E h) := by
  induction n with
  | zero => intro l3 h H; exact H.elim
  | succ n ih =>
    intro l3 h H
    have hk18 := @ih
    replace H : sh_ok (f_law_c18 N (f_law_l18 N n) l3 h) R := H
    revert hk18 H
    generalize f_law_l18 N n = k18
    intro hk18 H
    refine ai_WP_steps mc_L (sh_CM d) 6 (And.intro (fun c => ?_) (fun c => ?_))
    · replace H := sh_okT c H
      show wq_L d Q 2113 [oR 17 0, oR 11 0, oR 12 0, oI l3] [] (sh_E h)
      exact ai_WP_steps mc_L (sh_CM d) 2 (hR (ai_nar 1 (1 : Int32)) h H)
    · replace H := sh_okF c H
      show wq_L d Q 27 [oR 17 0, oR 11 0, oR 12 0, oI l3] [] (sh_E h)
      have c := sh_okG H
      replace H := sh_okH H
      refine ai_WP_steps mc_L (sh_CM d) 3 (And.intro c ?_)
      show wq_L d Q 30 [oR 17 0, oR 11 0, oR 12 0, oI l3] [aI (h.1 17 0 l3.toNatClampNeg)] (sh_E h)
      refine ai_WP_steps mc_L (sh_CM d) 3 (And.intro (fun c => ?_) (fun c => ?_))
      · replace H := sh_okT c H
        show wq_L d Q 228 [oR 17 0, oR 11 0, oR 12 0, oI l3] [] (sh_E h)
        have c := sh_okG H
        replace H := sh_okH H
        refine ai_WP_steps mc_L (sh_CM d) 6 (And.intro c ?_)
        show wq_L d Q 234 [oR 17 0, oR 11 0, oR 12 0, oI l3] [aI (h.1 17 0 (l3 + (1 : Int32)).toNatClampNeg), aR 11 0] (sh_E h)
        have c := sh_okG H
        replace H := sh_okH H
        refine ai_WP_steps mc_L (sh_CM d) 5 (And.intro c ?_)
        show wq_L d Q 239 [oR 17 0, oR 11 0, oR 12 0, oI l3] [aI (h.1 17 0 (l3 + (2 : Int32)).toNatClampNeg), aI (h.1 17 0 (l3 + (1 : Int32)).toNatClampNeg), aR 11 0] (sh_E h)
        have c := sh_okG H
        replace H := sh_okH H
        refine ai_WP_steps mc_L (sh_CM d) 5 (And.intro c ?_)
        show wq_L d Q 244 [oR 17 0, oR 11 0, oR 12 0, oI l3] [aI (h.1 17 0 (l3 + (3 : Int32)).toNatClampNeg), aI (h.1 17 0 (l3 + (2 : Int32)).toNatClampNeg), aI (h.1 17 0 (l3 + (1 : Int32)).toNatClampNeg), aR 11 0] (sh_E h)
        have c := sh_okG H
        replace H := sh_okH H
        refine ai_WP_steps mc_L (sh_CM d) 5 (And.intro c ?_)
        show wq_L d Q 249 [oR 17 0, oR 11 0, oR 12 0, oI l3] [aI (h.1 17 0 (l3 + (4 : Int32)).toNatClampNeg), aI (h.1 17 0 (l3 + (3 : Int32)).toNatClampNeg), aI (h.1 17 0 (l3 + (2 : Int32)).toNatClampNeg), aI (h.1 17 0 (l3 + (1 : Int32)).toNatClampNeg), aR 11 0] (sh_E h)
        have c := sh_okG H
        replace H := sh_okH H
        refine ai_WP_steps mc_L (sh_CM d) 5 (And.intro c ?_)
        show wq_L d Q 254 [oR 17 0, oR 11 0, oR 12 0, oI l3] [aI (h.1 17 0 (l3 + (5 : Int32)).toNatClampNeg), aI (h.1 17 0 (l3 + (4 : Int32)).toNatClampNeg), aI (h.1 17 0 (l3 + (3 : Int32)).toNatClampNeg), aI (h.1 17 0 (l3 + (2 : Int32)).toNatClampNeg), aI (h.1 17 0 (l3 + (1 : Int32)).toNatClampNeg), aR 11 0] (sh_E h)
        refine ai_WP_steps mc_L (sh_CM d) 1 (And.intro (Nat.le_of_ble_eq_true rfl) (x_CB_feed N (Nat.le_trans (Nat.le_of_ble_eq_true rfl) hd) (h.1 17 0 (l3 + (1 : Int32)).toNatClampNeg) (h.1 17 0 (l3 + (2 : Int32)).toNatClampNeg) (h.1 17 0 (l3 + (3 : Int32)).toNatClampNeg) (h.1 17 0 (l3 + (4 : Int32)).toNatClampNeg) (h.1 17 0 (l3 + (5 : Int32)).toNatClampNeg) h (sh_okB H) (fun v13 h14 H => ?_)))
        show wq_L d Q 257 [oR 17 0, oR 11 0, oR 12 0, oI l3] [aI v13] (sh_E h14)
        have c := sh_okG H
        replace H := sh_okH H
        refine ai_WP_steps mc_L (sh_CM d) 6 (And.intro c ?_)
        show wq_L d Q 263 [oR 17 0, oR 11 0, oR 12 0, oI l3] [aI (h14.1 17 0 (l3 + (1 : Int32)).toNatClampNeg), aR 12 0, aI v13] (sh_E h14)
        have c := sh_okG H
        replace H := sh_okH H
        refine ai_WP_steps mc_L (sh_CM d) 5 (And.intro c ?_)
        show wq_L d Q 268 [oR 17 0, oR 11 0, oR 12 0, oI l3] [aI (h14.1 17 0 (l3 + (2 : Int32)).toNatClampNeg), aI (h14.1 17 0 (l3 + (1 : Int32)).toNatClampNeg), aR 12 0, aI v13] (sh_E h14)
        have c := sh_okG H
        replace H := sh_okH H
        refine ai_WP_steps mc_L (sh_CM d) 5 (And.intro c ?_)
        show wq_L d Q 273 [oR 17 0, oR 11 0, oR 12 0, oI l3] [aI (h14.1 17 0 (l3 + (3 : Int32)).toNatClampNeg), aI (h14.1 17 0 (l3 + (2 : Int32)).toNatClampNeg), aI (h14.1 17 0 (l3 + (1 : Int32)).toNatClampNeg), aR 12 0, aI v13] (sh_E h14)
        have c := sh_okG H
        replace H := sh_okH H
        refine ai_WP_steps mc_L (sh_CM d) 5 (And.intro c ?_)
        show wq_L d Q 278 [oR 17 0, oR 11 0, oR 12 0, oI l3] [aI (h14.1 17 0 (l3 + (4 : Int32)).toNatClampNeg), aI (h14.1 17 0 (l3 + (3 : Int32)).toNatClampNeg), aI (h14.1 17 0 (l3 + (2 : Int32)).toNatClampNeg), aI (h14.1 17 0 (l3 + (1 : Int32)).toNatClampNeg), aR 12 0, aI v13] (sh_E h14)
        have c := sh_okG H
        replace H := sh_okH H
        refine ai_WP_steps mc_L (sh_CM d) 5 (And.intro c ?_)
        show wq_L d Q 283 [oR 17 0, oR 11 0, oR 12 0, oI l3] [aI (h14.1 17 0 (l3 + (5 : Int32)).toNatClampNeg), aI (h14.1 17 0 (l3 + (4 : Int32)).toNatClampNeg), aI (h14.1 17 0 (l3 + (3 : Int32)).toNatClampNeg), aI (h14.1 17 0 (l3 + (2 : Int32)).toNatClampNeg), aI (h14.1 17 0 (l3 + (1 : Int32)).toNatClampNeg), aR 12 0, aI v13] (sh_E h14)
        refine ai_WP_steps mc_L (sh_CM d) 1 (And.intro (Nat.le_of_ble_eq_true rfl) (x_M_feed N (Nat.le_trans (Nat.le_of_ble_eq_true rfl) hd) (h14.1 17 0 (l3 + (1 : Int32)).toNatClampNeg) (h14.1 17 0 (l3 + (2 : Int32)).toNatClampNeg) (h14.1 17 0 (l3 + (3 : Int32)).toNatClampNeg) (h14.1 17 0 (l3 + (4 : Int32)).toNatClampNeg) (h14.1 17 0 (l3 + (5 : Int32)).toNatClampNeg) h14 (sh_okB H) (fun v15 h16 H => ?_)))
        show wq_L d Q 286 [oR 17 0, oR 11 0, oR 12 0, oI l3] [aI v15, aI v13] (sh_E h16)
        refine ai_WP_steps mc_L (sh_CM d) 1 (And.intro (fun c => ?_) (fun c => ?_))
        · replace H := sh_okT c H
          exact x_law_b2107 N hd hR k18 hk18 l3 h16 H
        · replace H := sh_okF c H
          show wq_L d Q 289 [oR 17 0, oR 11 0, oR 12 0, oI l3] [] (sh_E h16)
          exact ai_WP_steps mc_L (sh_CM d) 2 (hR (ai_nar 1 (0 : Int32)) h16 H)
      replace H := sh_okF c H
      refine And.intro (fun c => ?_) (fun c => ?_)
      · replace H := sh_okT c H
        show wq_L d Q 291 [oR 17 0, oR 11 0, oR 12 0, oI l3] [] (sh_E h)
        have c := sh_okG H
        replace H := sh_okH H
        refine ai_WP_steps mc_L (sh_CM d) 6 (And.intro c ?_)
        show wq_L d Q 297 [oR 17 0, oR 11 0, oR 12 0, oI l3] [aI (h.1 17 0 (l3 + (1 : Int32)).toNatClampNeg), aR 11 0] (sh_E h)
        refine ai_WP_steps mc_L (sh_CM d) 1 (And.intro (Nat.le_of_ble_eq_true rfl) (x_CB_back (Nat.le_trans (Nat.le_of_ble_eq_true rfl) hd) (h.1 17 0 (l3 + (1 : Int32)).toNatClampNeg) h (sh_okB H) (fun v17 h18 H => ?_)))
        show wq_L d Q 300 [oR 17 0, oR 11 0, oR 12 0, oI l3] [aI v17] (sh_E h18)
        have c := sh_okG H
        replace H := sh_okH H
        refine ai_WP_steps mc_L (sh_CM d) 6 (And.intro c ?_)
        show wq_L d Q 306 [oR 17 0, oR 11 0, oR 12 0, oI l3] [aI (h18.1 17 0 (l3 + (1 : Int32)).toNatClampNeg), aR 12 0, aI v17] (sh_E h18)
        refine ai_WP_steps mc_L (sh_CM d) 1 (And.intro (Nat.le_of_ble_eq_true rfl) (x_M_back (Nat.le_trans (Nat.le_of_ble_eq_true rfl) hd) (h18.1 17 0 (l3 + (1 : Int32)).toNatClampNeg) h18 (sh_okB H) (fun v19 h20 H => ?_)))
        show wq_L d Q 309 [oR 17 0, oR 11 0, oR 12 0, oI l3] [aI v19, aI v17] (sh_E h20)
        refine ai_WP_steps mc_L (sh_CM d) 1 (And.intro (fun c => ?_) (fun c => ?_))
        · replace H := sh_okT c H
          exact x_law_b2107 N hd hR k18 hk18 l3 h20 H
        · replace H := sh_okF c H
          show wq_L d Q 312 [oR 17 0, oR 11 0, oR 12 0, oI l3] [] (sh_E h20)
          exact ai_WP_steps mc_L (sh_CM d) 2 (hR (ai_nar 1 (0 : Int32)) h20 H)
      replace H := sh_okF c H
      refine And.intro (fun c => ?_) (fun c => ?_)
      · replace H := sh_okT c H
        show wq_L d Q 314 [oR 17 0, oR 11 0, oR 12 0, oI l3] [] (sh_E h)
        refine ai_WP_steps mc_L (sh_CM d) 2 (And.intro (Nat.le_of_ble_eq_true rfl) (x_CB_read N (Nat.le_trans (Nat.le_of_ble_eq_true rfl) hd) h (sh_okB H) (fun v21 h22 H => ?_)))
        show wq_L d Q 318 [oR 17 0, oR 11 0, oR 12 0, oI l3] [aI v21] (sh_E h22)
        refine ai_WP_steps mc_L (sh_CM d) 2 (And.intro (Nat.le_of_ble_eq_true rfl) (x_M_read N (Nat.le_trans (Nat.le_of_ble_eq_true rfl) hd) h22 (sh_okB H) (fun v23 h24 H => ?_)))
        show wq_L d Q 322 [oR 17 0, oR 11 0, oR 12 0, oI l3] [aI v23, aI v21] (sh_E h24)
        refine ai_WP_steps mc_L (sh_CM d) 1 (And.intro (fun c => ?_) (fun c => ?_))
        · replace H := sh_okT c H
          exact x_law_b2107 N hd hR k18 hk18 l3 h24 H
        · replace H := sh_okF c H
          show wq_L d Q 325 [oR 17 0, oR 11 0, oR 12 0, oI l3] [] (sh_E h24)
          exact ai_WP_steps mc_L (sh_CM d) 2 (hR (ai_nar 1 (0 : Int32)) h24 H)
      replace H := sh_okF c H
      refine And.intro (fun c => ?_) (fun c => ?_)
      · replace H := sh_okT c H
        show wq_L d Q 327 [oR 17 0, oR 11 0, oR 12 0, oI l3] [] (sh_E h)
        refine ai_WP_steps mc_L (sh_CM d) 2 (And.intro (Nat.le_of_ble_eq_true rfl) (x_CB_place (Nat.le_trans (Nat.le_of_ble_eq_true rfl) hd) h (sh_okB H) (fun v25 H => ?_)))
        show wq_L d Q 331 [oR 17 0, oR 11 0, oR 12 0, oI l3] [aI v25] (sh_E h)
        refine ai_WP_steps mc_L (sh_CM d) 2 (And.intro (Nat.le_of_ble_eq_true rfl) (x_M_place (Nat.le_trans (Nat.le_of_ble_eq_true rfl) hd) h (sh_okB H) (fun v26 H => ?_)))
        show wq_L d Q 335 [oR 17 0, oR 11 0, oR 12 0, oI l3] [aI v26, aI v25] (sh_E h)
        refine ai_WP_steps mc_L (sh_CM d) 1 (And.intro (fun c => ?_) (fun c => ?_))
        · replace H := sh_okT c H
          exact x_law_b2107 N hd hR k18 hk18 l3 h H
        · replace H := sh_okF c H
          show wq_L d Q 338 [oR 17 0, oR 11 0, oR 12 0, oI l3] [] (sh_E h)
          exact ai_WP_steps mc_L (sh_CM d) 2 (hR (ai_nar 1 (0 : Int32)) h H)
      replace H := sh_okF c H
      refine And.intro (fun c => ?_) (fun c => ?_)
      · replace H := sh_okT c H
        show wq_L d Q 340 [oR 17 0, oR 11 0, oR 12 0, oI l3] [] (sh_E h)
        have c := sh_okG H
        replace H := sh_okH H
        refine ai_WP_steps mc_L (sh_CM d) 6 (And.intro c ?_)
        show wq_L d Q 346 [oR 17 0, oR 11 0, oR 12 0, oI l3] [aI (h.1 17 0 (l3 + (1 : Int32)).toNatClampNeg), aR 11 0] (sh_E h)
        have c := sh_okG H
        replace H := sh_okH H
        refine ai_WP_steps mc_L (sh_CM d) 5 (And.intro c ?_)
        show wq_L d Q 351 [oR 17 0, oR 11 0, oR 12 0, oI l3] [aI (h.1 17 0 (l3 + (2 : Int32)).toNatClampNeg), aI (h.1 17 0 (l3 + (1 : Int32)).toNatClampNeg), aR 11 0] (sh_E h)
        refine ai_WP_steps mc_L (sh_CM d) 1 (And.intro (Nat.le_of_ble_eq_true rfl) (x_CB_kind (Nat.le_trans (Nat.le_of_ble_eq_true rfl) hd) (h.1 17 0 (l3 + (1 : Int32)).toNatClampNeg) (h.1 17 0 (l3 + (2 : Int32)).toNatClampNeg) h (sh_okB H) (fun v27 H => ?_)))
        show wq_L d Q 354 [oR 17 0, oR 11 0, oR 12 0, oI l3] [aI v27] (sh_E h)
        have c := sh_okG H
        replace H := sh_okH H
        refine ai_WP_steps mc_L (sh_CM d) 6 (And.intro c ?_)
        show wq_L d Q 360 [oR 17 0, oR 11 0, oR 12 0, oI l3] [aI (h.1 17 0 (l3 + (1 : Int32)).toNatClampNeg), aR 12 0, aI v27] (sh_E h)
        have c := sh_okG H
        replace H := sh_okH H
        refine ai_WP_steps mc_L (sh_CM d) 5 (And.intro c ?_)
        show wq_L d Q 365 [oR 17 0, oR 11 0, oR 12 0, oI l3] [aI (h.1 17 0 (l3 + (2 : Int32)).toNatClampNeg), aI (h.1 17 0 (l3 + (1 : Int32)).toNatClampNeg), aR 12 0, aI v27] (sh_E h)
        refine ai_WP_steps mc_L (sh_CM d) 1 (And.intro (Nat.le_of_ble_eq_true rfl) (x_M_kind (Nat.le_trans (Nat.le_of_ble_eq_true rfl) hd) (h.1 17 0 (l3 + (1 : Int32)).toNatClampNeg) (h.1 17 0 (l3 + (2 : Int32)).toNatClampNeg) h (sh_okB H) (fun v28 H => ?_)))
        show wq_L d Q 368 [oR 17 0, oR 11 0, oR 12 0, oI l3] [aI v28, aI v27] (sh_E h)
        refine ai_WP_steps mc_L (sh_CM d) 1 (And.intro (fun c => ?_) (fun c => ?_))
        · replace H := sh_okT c H
          exact x_law_b2107 N hd hR k18 hk18 l3 h H
        · replace H := sh_okF c H
          show wq_L d Q 371 [oR 17 0, oR 11 0, oR 12 0, oI l3] [] (sh_E h)
          exact ai_WP_steps mc_L (sh_CM d) 2 (hR (ai_nar 1 (0 : Int32)) h H)
      replace H := sh_okF c H
      refine And.intro (fun c => ?_) (fun c => ?_)
      · replace H := sh_okT c H
        show wq_L d Q 373 [oR 17 0, oR 11 0, oR 12 0, oI l3] [] (sh_E h)
        have c := sh_okG H
        replace H := sh_okH H
        refine ai_WP_steps mc_L (sh_CM d) 6 (And.intro c ?_)
        show wq_L d Q 379 [oR 17 0, oR 11 0, oR 12 0, oI l3] [aI (h.1 17 0 (l3 + (1 : Int32)).toNatClampNeg), aR 11 0] (sh_E h)
        have c := sh_okG H
        replace H := sh_okH H
        refine ai_WP_steps mc_L (sh_CM d) 5 (And.intro c ?_)
        show wq_L d Q 384 [oR 17 0, oR 11 0, oR 12 0, oI l3] [aI (h.1 17 0 (l3 + (2 : Int32)).toNatClampNeg), aI (h.1 17 0 (l3 + (1 : Int32)).toNatClampNeg), aR 11 0] (sh_E h)
        refine ai_WP_steps mc_L (sh_CM d) 1 (And.intro (Nat.le_of_ble_eq_true rfl) (x_CB_island (Nat.le_trans (Nat.le_of_ble_eq_true rfl) hd) (h.1 17 0 (l3 + (1 : Int32)).toNatClampNeg) (h.1 17 0 (l3 + (2 : Int32)).toNatClampNeg) h (sh_okB H) (fun v29 H => ?_)))
        show wq_L d Q 387 [oR 17 0, oR 11 0, oR 12 0, oI l3] [aI v29] (sh_E h)
        have c := sh_okG H
        replace H := sh_okH H
        refine ai_WP_steps mc_L (sh_CM d) 6 (And.intro c ?_)
        show wq_L d Q 393 [oR 17 0, oR 11 0, oR 12 0, oI l3] [aI (h.1 17 0 (l3 + (1 : Int32)).toNatClampNeg), aR 12 0, aI v29] (sh_E h)
        have c := sh_okG H
        replace H := sh_okH H
        refine ai_WP_steps mc_L (sh_CM d) 5 (And.intro c ?_)
        show wq_L d Q 398 [oR 17 0, oR 11 0, oR 12 0, oI l3] [aI (h.1 17 0 (l3 + (2 : Int32)).toNatClampNeg), aI (h.1 17 0 (l3 + (1 : Int32)).toNatClampNeg), aR 12 0, aI v29] (sh_E h)
        refine ai_WP_steps mc_L (sh_CM d) 1 (And.intro (Nat.le_of_ble_eq_true rfl) (x_M_island (Nat.le_trans (Nat.le_of_ble_eq_true rfl) hd) (h.1 17 0 (l3 + (1 : Int32)).toNatClampNeg) (h.1 17 0 (l3 + (2 : Int32)).toNatClampNeg) h (sh_okB H) (fun v30 H => ?_)))
        show wq_L d Q 401 [oR 17 0, oR 11 0, oR 12 0, oI l3] [aI v30, aI v29] (sh_E h)
        refine ai_WP_steps mc_L (sh_CM d) 1 (And.intro (fun c => ?_) (fun c => ?_))
        · replace H := sh_okT c H
          exact x_law_b2107 N hd hR k18 hk18 l3 h H
        · replace H := sh_okF c H
          show wq_L d Q 404 [oR 17 0, oR 11 0, oR 12 0, oI l3] [] (sh_E h)
          exact ai_WP_steps mc_L (sh_CM d) 2 (hR (ai_nar 1 (0 : Int32)) h H)
      replace H := sh_okF c H
      refine And.intro (fun c => ?_) (fun c => ?_)
      · replace H := sh_okT c H
        show wq_L d Q 406 [oR 17 0, oR 11 0, oR 12 0, oI l3] [] (sh_E h)
        have c := sh_okG H
        replace H := sh_okH H
        refine ai_WP_steps mc_L (sh_CM d) 6 (And.intro c ?_)
        show wq_L d Q 412 [oR 17 0, oR 11 0, oR 12 0, oI l3] [aI (h.1 17 0 (l3 + (1 : Int32)).toNatClampNeg), aR 11 0] (sh_E h)
        have c := sh_okG H
        replace H := sh_okH H
        refine ai_WP_steps mc_L (sh_CM d) 5 (And.intro c ?_)
        show wq_L d Q 417 [oR 17 0, oR 11 0, oR 12 0, oI l3] [aI (h.1 17 0 (l3 + (2 : Int32)).toNatClampNeg), aI (h.1 17 0 (l3 + (1 : Int32)).toNatClampNeg), aR 11 0] (sh_E h)
        refine ai_WP_steps mc_L (sh_CM d) 1 (And.intro (Nat.le_of_ble_eq_true rfl) (x_CB_boat N (Nat.le_trans (Nat.le_of_ble_eq_true rfl) hd) (h.1 17 0 (l3 + (1 : Int32)).toNatClampNeg) (h.1 17 0 (l3 + (2 : Int32)).toNatClampNeg) h (sh_okB H) (fun v31 H => ?_)))
        show wq_L d Q 420 [oR 17 0, oR 11 0, oR 12 0, oI l3] [aI v31] (sh_E h)
        have c := sh_okG H
        replace H := sh_okH H
        refine ai_WP_steps mc_L (sh_CM d) 6 (And.intro c ?_)
        show wq_L d Q 426 [oR 17 0, oR 11 0, oR 12 0, oI l3] [aI (h.1 17 0 (l3 + (1 : Int32)).toNatClampNeg), aR 12 0, aI v31] (sh_E h)
        have c := sh_okG H
        replace H := sh_okH H
        refine ai_WP_steps mc_L (sh_CM d) 5 (And.intro c ?_)
        show wq_L d Q 431 [oR 17 0, oR 11 0, oR 12 0, oI l3] [aI (h.1 17 0 (l3 + (2 : Int32)).toNatClampNeg), aI (h.1 17 0 (l3 + (1 : Int32)).toNatClampNeg), aR 12 0, aI v31] (sh_E h)
        refine ai_WP_steps mc_L (sh_CM d) 1 (And.intro (Nat.le_of_ble_eq_true rfl) (x_M_boat N (Nat.le_trans (Nat.le_of_ble_eq_true rfl) hd) (h.1 17 0 (l3 + (1 : Int32)).toNatClampNeg) (h.1 17 0 (l3 + (2 : Int32)).toNatClampNeg) h (sh_okB H) (fun v32 H => ?_)))
        show wq_L d Q 434 [oR 17 0, oR 11 0, oR 12 0, oI l3] [aI v32, aI v31] (sh_E h)
        refine ai_WP_steps mc_L (sh_CM d) 1 (And.intro (fun c => ?_) (fun c => ?_))
        · replace H := sh_okT c H
          exact x_law_b2107 N hd hR k18 hk18 l3 h H
        · replace H := sh_okF c H
          show wq_L d Q 437 [oR 17 0, oR 11 0, oR 12 0, oI l3] [] (sh_E h)
          exact ai_WP_steps mc_L (sh_CM d) 2 (hR (ai_nar 1 (0 : Int32)) h H)
      replace H := sh_okF c H
      refine And.intro (fun c => ?_) (fun c => ?_)
      · replace H := sh_okT c H
        show wq_L d Q 439 [oR 17 0, oR 11 0, oR 12 0, oI l3] [] (sh_E h)
        have c := sh_okG H
        replace H := sh_okH H
        refine ai_WP_steps mc_L (sh_CM d) 6 (And.intro c ?_)
        show wq_L d Q 445 [oR 17 0, oR 11 0, oR 12 0, oI l3] [aI (h.1 17 0 (l3 + (1 : Int32)).toNatClampNeg), aR 11 0] (sh_E h)
        have c := sh_okG H
        replace H := sh_okH H
        refine ai_WP_steps mc_L (sh_CM d) 5 (And.intro c ?_)
        show wq_L d Q 450 [oR 17 0, oR 11 0, oR 12 0, oI l3] [aI (h.1 17 0 (l3 + (2 : Int32)).toNatClampNeg), aI (h.1 17 0 (l3 + (1 : Int32)).toNatClampNeg), aR 11 0] (sh_E h)
        have c := sh_okG H
        replace H := sh_okH H
        refine ai_WP_steps mc_L (sh_CM d) 5 (And.intro c ?_)
        show wq_L d Q 455 [oR 17 0, oR 11 0, oR 12 0, oI l3] [aI (h.1 17 0 (l3 + (3 : Int32)).toNatClampNeg), aI (h.1 17 0 (l3 + (2 : Int32)).toNatClampNeg), aI (h.1 17 0 (l3 + (1 : Int32)).toNatClampNeg), aR 11 0] (sh_E h)
        refine ai_WP_steps mc_L (sh_CM d) 1 (And.intro (Nat.le_of_ble_eq_true rfl) (x_CB_want N (Nat.le_trans (Nat.le_of_ble_eq_true rfl) hd) (h.1 17 0 (l3 + (1 : Int32)).toNatClampNeg) (h.1 17 0 (l3 + (2 : Int32)).toNatClampNeg) (h.1 17 0 (l3 + (3 : Int32)).toNatClampNeg) h (sh_okB H) (fun v33 h34 H => ?_)))
        show wq_L d Q 458 [oR 17 0, oR 11 0, oR 12 0, oI l3] [aI v33] (sh_E h34)
        have c := sh_okG H
        replace H := sh_okH H
        refine ai_WP_steps mc_L (sh_CM d) 6 (And.intro c ?_)
        show wq_L d Q 464 [oR 17 0, oR 11 0, oR 12 0, oI l3] [aI (h34.1 17 0 (l3 + (1 : Int32)).toNatClampNeg), aR 12 0, aI v33] (sh_E h34)
        have c := sh_okG H
        replace H := sh_okH H
        refine ai_WP_steps mc_L (sh_CM d) 5 (And.intro c ?_)
        show wq_L d Q 469 [oR 17 0, oR 11 0, oR 12 0, oI l3] [aI (h34.1 17 0 (l3 + (2 : Int32)).toNatClampNeg), aI (h34.1 17 0 (l3 + (1 : Int32)).toNatClampNeg), aR 12 0, aI v33] (sh_E h34)
        have c := sh_okG H
        replace H := sh_okH H
        refine ai_WP_steps mc_L (sh_CM d) 5 (And.intro c ?_)
        show wq_L d Q 474 [oR 17 0, oR 11 0, oR 12 0, oI l3] [aI (h34.1 17 0 (l3 + (3 : Int32)).toNatClampNeg), aI (h34.1 17 0 (l3 + (2 : Int32)).toNatClampNeg), aI (h34.1 17 0 (l3 + (1 : Int32)).toNatClampNeg), aR 12 0, aI v33] (sh_E h34)
        refine ai_WP_steps mc_L (sh_CM d) 1 (And.intro (Nat.le_of_ble_eq_true rfl) (x_M_want N (Nat.le_trans (Nat.le_of_ble_eq_true rfl) hd) (h34.1 17 0 (l3 + (1 : Int32)).toNatClampNeg) (h34.1 17 0 (l3 + (2 : Int32)).toNatClampNeg) (h34.1 17 0 (l3 + (3 : Int32)).toNatClampNeg) h34 (sh_okB H) (fun v35 h36 H => ?_)))
        show wq_L d Q 477 [oR 17 0, oR 11 0, oR 12 0, oI l3] [aI v35, aI v33] (sh_E h36)
        refine ai_WP_steps mc_L (sh_CM d) 1 (And.intro (fun c => ?_) (fun c => ?_))
        · replace H := sh_okT c H
          exact x_law_b2107 N hd hR k18 hk18 l3 h36 H
        · replace H := sh_okF c H
          show wq_L d Q 480 [oR 17 0, oR 11 0, oR 12 0, oI l3] [] (sh_E h36)
          exact ai_WP_steps mc_L (sh_CM d) 2 (hR (ai_nar 1 (0 : Int32)) h36 H)
      replace H := sh_okF c H
      refine And.intro (fun c => ?_) (fun c => ?_)
      · replace H := sh_okT c H
        show wq_L d Q 482 [oR 17 0, oR 11 0, oR 12 0, oI l3] [] (sh_E h)
        have c := sh_okG H
        replace H := sh_okH H
        refine ai_WP_steps mc_L (sh_CM d) 6 (And.intro c ?_)
        show wq_L d Q 488 [oR 17 0, oR 11 0, oR 12 0, oI l3] [aI (h.1 17 0 (l3 + (1 : Int32)).toNatClampNeg), aR 11 0] (sh_E h)
        have c := sh_okG H
        replace H := sh_okH H
        refine ai_WP_steps mc_L (sh_CM d) 5 (And.intro c ?_)
        show wq_L d Q 493 [oR 17 0, oR 11 0, oR 12 0, oI l3] [aI (h.1 17 0 (l3 + (2 : Int32)).toNatClampNeg), aI (h.1 17 0 (l3 + (1 : Int32)).toNatClampNeg), aR 11 0] (sh_E h)
        refine ai_WP_steps mc_L (sh_CM d) 1 (And.intro (Nat.le_of_ble_eq_true rfl) (x_CB_strike N (Nat.le_trans (Nat.le_of_ble_eq_true rfl) hd) (h.1 17 0 (l3 + (1 : Int32)).toNatClampNeg) (h.1 17 0 (l3 + (2 : Int32)).toNatClampNeg) h (sh_okB H) (fun v37 h38 H => ?_)))
        show wq_L d Q 496 [oR 17 0, oR 11 0, oR 12 0, oI l3] [aI v37] (sh_E h38)
        have c := sh_okG H
        replace H := sh_okH H
        refine ai_WP_steps mc_L (sh_CM d) 6 (And.intro c ?_)
        show wq_L d Q 502 [oR 17 0, oR 11 0, oR 12 0, oI l3] [aI (h38.1 17 0 (l3 + (1 : Int32)).toNatClampNeg), aR 12 0, aI v37] (sh_E h38)
        have c := sh_okG H
        replace H := sh_okH H
        refine ai_WP_steps mc_L (sh_CM d) 5 (And.intro c ?_)
        show wq_L d Q 507 [oR 17 0, oR 11 0, oR 12 0, oI l3] [aI (h38.1 17 0 (l3 + (2 : Int32)).toNatClampNeg), aI (h38.1 17 0 (l3 + (1 : Int32)).toNatClampNeg), aR 12 0, aI v37] (sh_E h38)
        refine ai_WP_steps mc_L (sh_CM d) 1 (And.intro (Nat.le_of_ble_eq_true rfl) (x_M_strike N (Nat.le_trans (Nat.le_of_ble_eq_true rfl) hd) (h38.1 17 0 (l3 + (1 : Int32)).toNatClampNeg) (h38.1 17 0 (l3 + (2 : Int32)).toNatClampNeg) h38 (sh_okB H) (fun v39 h40 H => ?_)))
        show wq_L d Q 510 [oR 17 0, oR 11 0, oR 12 0, oI l3] [aI v39, aI v37] (sh_E h40)
        refine ai_WP_steps mc_L (sh_CM d) 1 (And.intro (fun c => ?_) (fun c => ?_))
        · replace H := sh_okT c H
          exact x_law_b2107 N hd hR k18 hk18 l3 h40 H
        · replace H := sh_okF c H
          show wq_L d Q 513 [oR 17 0, oR 11 0, oR 12 0, oI l3] [] (sh_E h40)
          exact ai_WP_steps mc_L (sh_CM d) 2 (hR (ai_nar 1 (0 : Int32)) h40 H)
      replace H := sh_okF c H
      refine And.intro (fun c => ?_) (fun c => ?_)
      · replace H := sh_okT c H
        show wq_L d Q 515 [oR 17 0, oR 11 0, oR 12 0, oI l3] [] (sh_E h)
        have c := sh_okG H
        replace H := sh_okH H
        refine ai_WP_steps mc_L (sh_CM d) 6 (And.intro c ?_)
        show wq_L d Q 521 [oR 17 0, oR 11 0, oR 12 0, oI l3] [aI (h.1 17 0 (l3 + (1 : Int32)).toNatClampNeg), aR 11 0] (sh_E h)
        have c := sh_okG H
        replace H := sh_okH H
        refine ai_WP_steps mc_L (sh_CM d) 5 (And.intro c ?_)
        show wq_L d Q 526 [oR 17 0, oR 11 0, oR 12 0, oI l3] [aI (h.1 17 0 (l3 + (2 : Int32)).toNatClampNeg), aI (h.1 17 0 (l3 + (1 : Int32)).toNatClampNeg), aR 11 0] (sh_E h)
        refine ai_WP_steps mc_L (sh_CM d) 1 (And.intro (Nat.le_of_ble_eq_true rfl) (x_CB_burn N (Nat.le_trans (Nat.le_of_ble_eq_true rfl) hd) (h.1 17 0 (l3 + (1 : Int32)).toNatClampNeg) (h.1 17 0 (l3 + (2 : Int32)).toNatClampNeg) h (sh_okB H) (fun v41 h42 H => ?_)))
        show wq_L d Q 529 [oR 17 0, oR 11 0, oR 12 0, oI l3] [aI v41] (sh_E h42)
        have c := sh_okG H
        replace H := sh_okH H
        refine ai_WP_steps mc_L (sh_CM d) 6 (And.intro c ?_)
        show wq_L d Q 535 [oR 17 0, oR 11 0, oR 12 0, oI l3] [aI (h42.1 17 0 (l3 + (1 : Int32)).toNatClampNeg), aR 12 0, aI v41] (sh_E h42)
        have c := sh_okG H
        replace H := sh_okH H
        refine ai_WP_steps mc_L (sh_CM d) 5 (And.intro c ?_)
        show wq_L d Q 540 [oR 17 0, oR 11 0, oR 12 0, oI l3] [aI (h42.1 17 0 (l3 + (2 : Int32)).toNatClampNeg), aI (h42.1 17 0 (l3 + (1 : Int32)).toNatClampNeg), aR 12 0, aI v41] (sh_E h42)
        refine ai_WP_steps mc_L (sh_CM d) 1 (And.intro (Nat.le_of_ble_eq_true rfl) (x_M_burn N (Nat.le_trans (Nat.le_of_ble_eq_true rfl) hd) (h42.1 17 0 (l3 + (1 : Int32)).toNatClampNeg) (h42.1 17 0 (l3 + (2 : Int32)).toNatClampNeg) h42 (sh_okB H) (fun v43 h44 H => ?_)))
        show wq_L d Q 543 [oR 17 0, oR 11 0, oR 12 0, oI l3] [aI v43, aI v41] (sh_E h44)
        refine ai_WP_steps mc_L (sh_CM d) 1 (And.intro (fun c => ?_) (fun c => ?_))
        · replace H := sh_okT c H
          exact x_law_b2107 N hd hR k18 hk18 l3 h44 H
        · replace H := sh_okF c H
          show wq_L d Q 546 [oR 17 0, oR 11 0, oR 12 0, oI l3] [] (sh_E h44)
          exact ai_WP_steps mc_L (sh_CM d) 2 (hR (ai_nar 1 (0 : Int32)) h44 H)
      replace H := sh_okF c H
      refine And.intro (fun c => ?_) (fun c => ?_)
      · replace H := sh_okT c H
        show wq_L d Q 548 [oR 17 0, oR 11 0, oR 12 0, oI l3] [] (sh_E h)
        have c := sh_okG H
        replace H := sh_okH H
        refine ai_WP_steps mc_L (sh_CM d) 6 (And.intro c ?_)
        show wq_L d Q 554 [oR 17 0, oR 11 0, oR 12 0, oI l3] [aI (h.1 17 0 (l3 + (1 : Int32)).toNatClampNeg), aR 11 0] (sh_E h)
        have c := sh_okG H
        replace H := sh_okH H
        refine ai_WP_steps mc_L (sh_CM d) 5 (And.intro c ?_)
        show wq_L d Q 559 [oR 17 0, oR 11 0, oR 12 0, oI l3] [aI (h.1 17 0 (l3 + (2 : Int32)).toNatClampNeg), aI (h.1 17 0 (l3 + (1 : Int32)).toNatClampNeg), aR 11 0] (sh_E h)
        have c := sh_okG H
        replace H := sh_okH H
        refine ai_WP_steps mc_L (sh_CM d) 5 (And.intro c ?_)
        show wq_L d Q 564 [oR 17 0, oR 11 0, oR 12 0, oI l3] [aI (h.1 17 0 (l3 + (3 : Int32)).toNatClampNeg), aI (h.1 17 0 (l3 + (2 : Int32)).toNatClampNeg), aI (h.1 17 0 (l3 + (1 : Int32)).toNatClampNeg), aR 11 0] (sh_E h)
        have c := sh_okG H
        replace H := sh_okH H
        refine ai_WP_steps mc_L (sh_CM d) 5 (And.intro c ?_)
        show wq_L d Q 569 [oR 17 0, oR 11 0, oR 12 0, oI l3] [aI (h.1 17 0 (l3 + (4 : Int32)).toNatClampNeg), aI (h.1 17 0 (l3 + (3 : Int32)).toNatClampNeg), aI (h.1 17 0 (l3 + (2 : Int32)).toNatClampNeg), aI (h.1 17 0 (l3 + (1 : Int32)).toNatClampNeg), aR 11 0] (sh_E h)
        refine ai_WP_steps mc_L (sh_CM d) 1 (And.intro (Nat.le_of_ble_eq_true rfl) (x_CB_lay (Nat.le_trans (Nat.le_of_ble_eq_true rfl) hd) (h.1 17 0 (l3 + (1 : Int32)).toNatClampNeg) (h.1 17 0 (l3 + (2 : Int32)).toNatClampNeg) (h.1 17 0 (l3 + (3 : Int32)).toNatClampNeg) (h.1 17 0 (l3 + (4 : Int32)).toNatClampNeg) h (sh_okB H) (fun v45 h46 H => ?_)))
        show wq_L d Q 572 [oR 17 0, oR 11 0, oR 12 0, oI l3] [aI v45] (sh_E h46)
        have c := sh_okG H
        replace H := sh_okH H
        refine ai_WP_steps mc_L (sh_CM d) 6 (And.intro c ?_)
        show wq_L d Q 578 [oR 17 0, oR 11 0, oR 12 0, oI l3] [aI (h46.1 17 0 (l3 + (1 : Int32)).toNatClampNeg), aR 12 0, aI v45] (sh_E h46)
        have c := sh_okG H
        replace H := sh_okH H
        refine ai_WP_steps mc_L (sh_CM d) 5 (And.intro c ?_)
        show wq_L d Q 583 [oR 17 0, oR 11 0, oR 12 0, oI l3] [aI (h46.1 17 0 (l3 + (2 : Int32)).toNatClampNeg), aI (h46.1 17 0 (l3 + (1 : Int32)).toNatClampNeg), aR 12 0, aI v45] (sh_E h46)
        have c := sh_okG H
        replace H := sh_okH H
        refine ai_WP_steps mc_L (sh_CM d) 5 (And.intro c ?_)
        show wq_L d Q 588 [oR 17 0, oR 11 0, oR 12 0, oI l3] [aI (h46.1 17 0 (l3 + (3 : Int32)).toNatClampNeg), aI (h46.1 17 0 (l3 + (2 : Int32)).toNatClampNeg), aI (h46.1 17 0 (l3 + (1 : Int32)).toNatClampNeg), aR 12 0, aI v45] (sh_E h46)
        have c := sh_okG H
        replace H := sh_okH H
        refine ai_WP_steps mc_L (sh_CM d) 5 (And.intro c ?_)
        show wq_L d Q 593 [oR 17 0, oR 11 0, oR 12 0, oI l3] [aI (h46.1 17 0 (l3 + (4 : Int32)).toNatClampNeg), aI (h46.1 17 0 (l3 + (3 : Int32)).toNatClampNeg), aI (h46.1 17 0 (l3 + (2 : Int32)).toNatClampNeg), aI (h46.1 17 0 (l3 + (1 : Int32)).toNatClampNeg), aR 12 0, aI v45] (sh_E h46)
        refine ai_WP_steps mc_L (sh_CM d) 1 (And.intro (Nat.le_of_ble_eq_true rfl) (x_M_lay (Nat.le_trans (Nat.le_of_ble_eq_true rfl) hd) (h46.1 17 0 (l3 + (1 : Int32)).toNatClampNeg) (h46.1 17 0 (l3 + (2 : Int32)).toNatClampNeg) (h46.1 17 0 (l3 + (3 : Int32)).toNatClampNeg) (h46.1 17 0 (l3 + (4 : Int32)).toNatClampNeg) h46 (sh_okB H) (fun v47 h48 H => ?_)))
        show wq_L d Q 596 [oR 17 0, oR 11 0, oR 12 0, oI l3] [aI v47, aI v45] (sh_E h48)
        refine ai_WP_steps mc_L (sh_CM d) 1 (And.intro (fun c => ?_) (fun c => ?_))
        · replace H := sh_okT c H
          exact x_law_b2107 N hd hR k18 hk18 l3 h48 H
        · replace H := sh_okF c H
          show wq_L d Q 599 [oR 17 0, oR 11 0, oR 12 0, oI l3] [] (sh_E h48)
          exact ai_WP_steps mc_L (sh_CM d) 2 (hR (ai_nar 1 (0 : Int32)) h48 H)
      replace H := sh_okF c H
      refine And.intro (fun c => ?_) (fun c => ?_)
      · replace H := sh_okT c H
        show wq_L d Q 601 [oR 17 0, oR 11 0, oR 12 0, oI l3] [] (sh_E h)
        have c := sh_okG H
        replace H := sh_okH H
        refine ai_WP_steps mc_L (sh_CM d) 6 (And.intro c ?_)
        show wq_L d Q 607 [oR 17 0, oR 11 0, oR 12 0, oI l3] [aI (h.1 17 0 (l3 + (1 : Int32)).toNatClampNeg), aR 11 0] (sh_E h)
        have c := sh_okG H
        replace H := sh_okH H
        refine ai_WP_steps mc_L (sh_CM d) 5 (And.intro c ?_)
        show wq_L d Q 612 [oR 17 0, oR 11 0, oR 12 0, oI l3] [aI (h.1 17 0 (l3 + (2 : Int32)).toNatClampNeg), aI (h.1 17 0 (l3 + (1 : Int32)).toNatClampNeg), aR 11 0] (sh_E h)
        have c := sh_okG H
        replace H := sh_okH H
        refine ai_WP_steps mc_L (sh_CM d) 5 (And.intro c ?_)
        show wq_L d Q 617 [oR 17 0, oR 11 0, oR 12 0, oI l3] [aI (h.1 17 0 (l3 + (3 : Int32)).toNatClampNeg), aI (h.1 17 0 (l3 + (2 : Int32)).toNatClampNeg), aI (h.1 17 0 (l3 + (1 : Int32)).toNatClampNeg), aR 11 0] (sh_E h)
        refine ai_WP_steps mc_L (sh_CM d) 1 (And.intro (Nat.le_of_ble_eq_true rfl) (x_CB_has N (Nat.le_trans (Nat.le_of_ble_eq_true rfl) hd) (h.1 17 0 (l3 + (1 : Int32)).toNatClampNeg) (h.1 17 0 (l3 + (2 : Int32)).toNatClampNeg) (h.1 17 0 (l3 + (3 : Int32)).toNatClampNeg) h (sh_okB H) (fun v49 H => ?_)))
        show wq_L d Q 620 [oR 17 0, oR 11 0, oR 12 0, oI l3] [aI v49] (sh_E h)
        have c := sh_okG H
        replace H := sh_okH H
        refine ai_WP_steps mc_L (sh_CM d) 6 (And.intro c ?_)
        show wq_L d Q 626 [oR 17 0, oR 11 0, oR 12 0, oI l3] [aI (h.1 17 0 (l3 + (1 : Int32)).toNatClampNeg), aR 12 0, aI v49] (sh_E h)
        have c := sh_okG H
        replace H := sh_okH H
        refine ai_WP_steps mc_L (sh_CM d) 5 (And.intro c ?_)
        show wq_L d Q 631 [oR 17 0, oR 11 0, oR 12 0, oI l3] [aI (h.1 17 0 (l3 + (2 : Int32)).toNatClampNeg), aI (h.1 17 0 (l3 + (1 : Int32)).toNatClampNeg), aR 12 0, aI v49] (sh_E h)
        have c := sh_okG H
        replace H := sh_okH H
        refine ai_WP_steps mc_L (sh_CM d) 5 (And.intro c ?_)
        show wq_L d Q 636 [oR 17 0, oR 11 0, oR 12 0, oI l3] [aI (h.1 17 0 (l3 + (3 : Int32)).toNatClampNeg), aI (h.1 17 0 (l3 + (2 : Int32)).toNatClampNeg), aI (h.1 17 0 (l3 + (1 : Int32)).toNatClampNeg), aR 12 0, aI v49] (sh_E h)
        refine ai_WP_steps mc_L (sh_CM d) 1 (And.intro (Nat.le_of_ble_eq_true rfl) (x_M_has N (Nat.le_trans (Nat.le_of_ble_eq_true rfl) hd) (h.1 17 0 (l3 + (1 : Int32)).toNatClampNeg) (h.1 17 0 (l3 + (2 : Int32)).toNatClampNeg) (h.1 17 0 (l3 + (3 : Int32)).toNatClampNeg) h (sh_okB H) (fun v50 H => ?_)))
        show wq_L d Q 639 [oR 17 0, oR 11 0, oR 12 0, oI l3] [aI v50, aI v49] (sh_E h)
        refine ai_WP_steps mc_L (sh_CM d) 1 (And.intro (fun c => ?_) (fun c => ?_))
        · replace H := sh_okT c H
          exact x_law_b2107 N hd hR k18 hk18 l3 h H
        · replace H := sh_okF c H
          show wq_L d Q 642 [oR 17 0, oR 11 0, oR 12 0, oI l3] [] (sh_E h)
          exact ai_WP_steps mc_L (sh_CM d) 2 (hR (ai_nar 1 (0 : Int32)) h H)
      replace H := sh_okF c H
      refine And.intro (fun c => ?_) (fun c => ?_)
      · replace H := sh_okT c H
        show wq_L d Q 644 [oR 17 0, oR 11 0, oR 12 0, oI l3] [] (sh_E h)
        have c := sh_okG H
        replace H := sh_okH H
        refine ai_WP_steps mc_L (sh_CM d) 6 (And.intro c ?_)
        show wq_L d Q 650 [oR 17 0, oR 11 0, oR 12 0, oI l3] [aI (h.1 17 0 (l3 + (1 : Int32)).toNatClampNeg), aR 11 0] (sh_E h)
        have c := sh_okG H
        replace H := sh_okH H
        refine ai_WP_steps mc_L (sh_CM d) 5 (And.intro c ?_)
        show wq_L d Q 655 [oR 17 0, oR 11 0, oR 12 0, oI l3] [aI (h.1 17 0 (l3 + (2 : Int32)).toNatClampNeg), aI (h.1 17 0 (l3 + (1 : Int32)).toNatClampNeg), aR 11 0] (sh_E h)
        have c := sh_okG H
        replace H := sh_okH H
        refine ai_WP_steps mc_L (sh_CM d) 5 (And.intro c ?_)
        show wq_L d Q 660 [oR 17 0, oR 11 0, oR 12 0, oI l3] [aI (h.1 17 0 (l3 + (3 : Int32)).toNatClampNeg), aI (h.1 17 0 (l3 + (2 : Int32)).toNatClampNeg), aI (h.1 17 0 (l3 + (1 : Int32)).toNatClampNeg), aR 11 0] (sh_E h)
        have c := sh_okG H
        replace H := sh_okH H
        refine ai_WP_steps mc_L (sh_CM d) 5 (And.intro c ?_)
        show wq_L d Q 665 [oR 17 0, oR 11 0, oR 12 0, oI l3] [aI (h.1 17 0 (l3 + (4 : Int32)).toNatClampNeg), aI (h.1 17 0 (l3 + (3 : Int32)).toNatClampNeg), aI (h.1 17 0 (l3 + (2 : Int32)).toNatClampNeg), aI (h.1 17 0 (l3 + (1 : Int32)).toNatClampNeg), aR 11 0] (sh_E h)
        have c := sh_okG H
        replace H := sh_okH H
        refine ai_WP_steps mc_L (sh_CM d) 5 (And.intro c ?_)
        show wq_L d Q 670 [oR 17 0, oR 11 0, oR 12 0, oI l3] [aI (h.1 17 0 (l3 + (5 : Int32)).toNatClampNeg), aI (h.1 17 0 (l3 + (4 : Int32)).toNatClampNeg), aI (h.1 17 0 (l3 + (3 : Int32)).toNatClampNeg), aI (h.1 17 0 (l3 + (2 : Int32)).toNatClampNeg), aI (h.1 17 0 (l3 + (1 : Int32)).toNatClampNeg), aR 11 0] (sh_E h)
        refine ai_WP_steps mc_L (sh_CM d) 1 (And.intro (fun c => ?_) (fun c => ?_))
        · replace H := sh_okT c H
          show wq_L d Q 677 [oR 17 0, oR 11 0, oR 12 0, oI l3] [aI (h.1 17 0 (l3 + (4 : Int32)).toNatClampNeg), aI (h.1 17 0 (l3 + (3 : Int32)).toNatClampNeg), aI (h.1 17 0 (l3 + (2 : Int32)).toNatClampNeg), aI (h.1 17 0 (l3 + (1 : Int32)).toNatClampNeg), aR 11 0] (sh_E h)
          refine ai_WP_steps mc_L (sh_CM d) 1 ?_
          exact x_law_b678 N hd hR k18 hk18 l3 (h.1 17 0 (l3 + (1 : Int32)).toNatClampNeg) (h.1 17 0 (l3 + (2 : Int32)).toNatClampNeg) (h.1 17 0 (l3 + (3 : Int32)).toNatClampNeg) (h.1 17 0 (l3 + (4 : Int32)).toNatClampNeg) (0 : Int32) h H
        · replace H := sh_okF c H
          show wq_L d Q 673 [oR 17 0, oR 11 0, oR 12 0, oI l3] [aI (h.1 17 0 (l3 + (4 : Int32)).toNatClampNeg), aI (h.1 17 0 (l3 + (3 : Int32)).toNatClampNeg), aI (h.1 17 0 (l3 + (2 : Int32)).toNatClampNeg), aI (h.1 17 0 (l3 + (1 : Int32)).toNatClampNeg), aR 11 0] (sh_E h)
          refine ai_WP_steps mc_L (sh_CM d) 2 ?_
          exact x_law_b678 N hd hR k18 hk18 l3 (h.1 17 0 (l3 + (1 : Int32)).toNatClampNeg) (h.1 17 0 (l3 + (2 : Int32)).toNatClampNeg) (h.1 17 0 (l3 + (3 : Int32)).toNatClampNeg) (h.1 17 0 (l3 + (4 : Int32)).toNatClampNeg) (1 : Int32) h H
      replace H := sh_okF c H
      refine And.intro (fun c => ?_) (fun c => ?_)
      · replace H := sh_okT c H
        show wq_L d Q 723 [oR 17 0, oR 11 0, oR 12 0, oI l3] [] (sh_E h)
        have c := sh_okG H
        replace H := sh_okH H
        refine ai_WP_steps mc_L (sh_CM d) 6 (And.intro c ?_)
        show wq_L d Q 729 [oR 17 0, oR 11 0, oR 12 0, oI l3] [aI (h.1 17 0 (l3 + (1 : Int32)).toNatClampNeg), aR 11 0] (sh_E h)
        refine ai_WP_steps mc_L (sh_CM d) 1 (And.intro (Nat.le_of_ble_eq_true rfl) (x_CB_done (Nat.le_trans (Nat.le_of_ble_eq_true rfl) hd) (h.1 17 0 (l3 + (1 : Int32)).toNatClampNeg) h (sh_okB H) (fun v51 H => ?_)))
        show wq_L d Q 732 [oR 17 0, oR 11 0, oR 12 0, oI l3] [aI v51] (sh_E h)
        have c := sh_okG H
        replace H := sh_okH H
        refine ai_WP_steps mc_L (sh_CM d) 6 (And.intro c ?_)
        show wq_L d Q 738 [oR 17 0, oR 11 0, oR 12 0, oI l3] [aI (h.1 17 0 (l3 + (1 : Int32)).toNatClampNeg), aR 12 0, aI v51] (sh_E h)
        refine ai_WP_steps mc_L (sh_CM d) 1 (And.intro (Nat.le_of_ble_eq_true rfl) (x_M_done (Nat.le_trans (Nat.le_of_ble_eq_true rfl) hd) (h.1 17 0 (l3 + (1 : Int32)).toNatClampNeg) h (sh_okB H) (fun v52 H => ?_)))
        show wq_L d Q 741 [oR 17 0, oR 11 0, oR 12 0, oI l3] [aI v52, aI v51] (sh_E h)
        refine ai_WP_steps mc_L (sh_CM d) 1 (And.intro (fun c => ?_) (fun c => ?_))
        · replace H := sh_okT c H
          exact x_law_b2107 N hd hR k18 hk18 l3 h H
        · replace H := sh_okF c H
          show wq_L d Q 744 [oR 17 0, oR 11 0, oR 12 0, oI l3] [] (sh_E h)
          exact ai_WP_steps mc_L (sh_CM d) 2 (hR (ai_nar 1 (0 : Int32)) h H)
      replace H := sh_okF c H
      refine And.intro (fun c => ?_) (fun c => ?_)
      · replace H := sh_okT c H
        show wq_L d Q 746 [oR 17 0, oR 11 0, oR 12 0, oI l3] [] (sh_E h)
        refine ai_WP_steps mc_L (sh_CM d) 2 (And.intro (Nat.le_of_ble_eq_true rfl) (x_CB_judge N (Nat.le_trans (Nat.le_of_ble_eq_true rfl) hd) h (sh_okB H) (fun v53 h54 H => ?_)))
        show wq_L d Q 750 [oR 17 0, oR 11 0, oR 12 0, oI l3] [aI v53] (sh_E h54)
        refine ai_WP_steps mc_L (sh_CM d) 2 (And.intro (Nat.le_of_ble_eq_true rfl) (x_M_judge N (Nat.le_trans (Nat.le_of_ble_eq_true rfl) hd) h54 (sh_okB H) (fun v55 h56 H => ?_)))
        show wq_L d Q 754 [oR 17 0, oR 11 0, oR 12 0, oI l3] [aI v55, aI v53] (sh_E h56)
        refine ai_WP_steps mc_L (sh_CM d) 1 (And.intro (fun c => ?_) (fun c => ?_))
        · replace H := sh_okT c H
          exact x_law_b2107 N hd hR k18 hk18 l3 h56 H
        · replace H := sh_okF c H
          show wq_L d Q 757 [oR 17 0, oR 11 0, oR 12 0, oI l3] [] (sh_E h56)
          exact ai_WP_steps mc_L (sh_CM d) 2 (hR (ai_nar 1 (0 : Int32)) h56 H)
      replace H := sh_okF c H
      refine And.intro (fun c => ?_) (fun c => ?_)
      · replace H := sh_okT c H
        show wq_L d Q 759 [oR 17 0, oR 11 0, oR 12 0, oI l3] [] (sh_E h)
        refine ai_WP_steps mc_L (sh_CM d) 2 (And.intro (Nat.le_of_ble_eq_true rfl) (x_CB_why N (Nat.le_trans (Nat.le_of_ble_eq_true rfl) hd) h (sh_okB H) (fun v57 h58 H => ?_)))
        show wq_L d Q 763 [oR 17 0, oR 11 0, oR 12 0, oI l3] [aI v57] (sh_E h58)
        refine ai_WP_steps mc_L (sh_CM d) 2 (And.intro (Nat.le_of_ble_eq_true rfl) (x_M_why N (Nat.le_trans (Nat.le_of_ble_eq_true rfl) hd) h58 (sh_okB H) (fun v59 h60 H => ?_)))
        show wq_L d Q 767 [oR 17 0, oR 11 0, oR 12 0, oI l3] [aI v59, aI v57] (sh_E h60)
        refine ai_WP_steps mc_L (sh_CM d) 1 (And.intro (fun c => ?_) (fun c => ?_))
        · replace H := sh_okT c H
          exact x_law_b2107 N hd hR k18 hk18 l3 h60 H
        · replace H := sh_okF c H
          show wq_L d Q 770 [oR 17 0, oR 11 0, oR 12 0, oI l3] [] (sh_E h60)
          exact ai_WP_steps mc_L (sh_CM d) 2 (hR (ai_nar 1 (0 : Int32)) h60 H)
      replace H := sh_okF c H
      refine And.intro (fun c => ?_) (fun c => ?_)
      · replace H := sh_okT c H
        show wq_L d Q 772 [oR 17 0, oR 11 0, oR 12 0, oI l3] [] (sh_E h)
        have c := sh_okG H
        replace H := sh_okH H
        refine ai_WP_steps mc_L (sh_CM d) 6 (And.intro c ?_)
        show wq_L d Q 778 [oR 17 0, oR 11 0, oR 12 0, oI l3] [aI (h.1 17 0 (l3 + (1 : Int32)).toNatClampNeg), aR 11 0] (sh_E h)
        have c := sh_okG H
        replace H := sh_okH H
        refine ai_WP_steps mc_L (sh_CM d) 5 (And.intro c ?_)
        show wq_L d Q 783 [oR 17 0, oR 11 0, oR 12 0, oI l3] [aI (h.1 17 0 (l3 + (2 : Int32)).toNatClampNeg), aI (h.1 17 0 (l3 + (1 : Int32)).toNatClampNeg), aR 11 0] (sh_E h)
        refine ai_WP_steps mc_L (sh_CM d) 1 (And.intro (Nat.le_of_ble_eq_true rfl) (x_CB_months N (Nat.le_trans (Nat.le_of_ble_eq_true rfl) hd) (h.1 17 0 (l3 + (1 : Int32)).toNatClampNeg) (h.1 17 0 (l3 + (2 : Int32)).toNatClampNeg) h (sh_okB H) (fun v61 h62 H => ?_)))
        show wq_L d Q 786 [oR 17 0, oR 11 0, oR 12 0, oI l3] [aI v61] (sh_E h62)
        have c := sh_okG H
        replace H := sh_okH H
        refine ai_WP_steps mc_L (sh_CM d) 6 (And.intro c ?_)
        show wq_L d Q 792 [oR 17 0, oR 11 0, oR 12 0, oI l3] [aI (h62.1 17 0 (l3 + (1 : Int32)).toNatClampNeg), aR 12 0, aI v61] (sh_E h62)
        have c := sh_okG H
        replace H := sh_okH H
        refine ai_WP_steps mc_L (sh_CM d) 5 (And.intro c ?_)
        show wq_L d Q 797 [oR 17 0, oR 11 0, oR 12 0, oI l3] [aI (h62.1 17 0 (l3 + (2 : Int32)).toNatClampNeg), aI (h62.1 17 0 (l3 + (1 : Int32)).toNatClampNeg), aR 12 0, aI v61] (sh_E h62)
        refine ai_WP_steps mc_L (sh_CM d) 1 (And.intro (Nat.le_of_ble_eq_true rfl) (x_M_months N (Nat.le_trans (Nat.le_of_ble_eq_true rfl) hd) (h62.1 17 0 (l3 + (1 : Int32)).toNatClampNeg) (h62.1 17 0 (l3 + (2 : Int32)).toNatClampNeg) h62 (sh_okB H) (fun v63 h64 H => ?_)))
        show wq_L d Q 800 [oR 17 0, oR 11 0, oR 12 0, oI l3] [aI v63, aI v61] (sh_E h64)
        refine ai_WP_steps mc_L (sh_CM d) 1 (And.intro (fun c => ?_) (fun c => ?_))
        · replace H := sh_okT c H
          exact x_law_b2107 N hd hR k18 hk18 l3 h64 H
        · replace H := sh_okF c H
          show wq_L d Q 803 [oR 17 0, oR 11 0, oR 12 0, oI l3] [] (sh_E h64)
          exact ai_WP_steps mc_L (sh_CM d) 2 (hR (ai_nar 1 (0 : Int32)) h64 H)
      replace H := sh_okF c H
      refine And.intro (fun c => ?_) (fun c => ?_)
      · replace H := sh_okT c H
        show wq_L d Q 805 [oR 17 0, oR 11 0, oR 12 0, oI l3] [] (sh_E h)
        have c := sh_okG H
        replace H := sh_okH H
        refine ai_WP_steps mc_L (sh_CM d) 6 (And.intro c ?_)
        show wq_L d Q 811 [oR 17 0, oR 11 0, oR 12 0, oI l3] [aI (h.1 17 0 (l3 + (1 : Int32)).toNatClampNeg), aR 11 0] (sh_E h)
        have c := sh_okG H
        replace H := sh_okH H
        refine ai_WP_steps mc_L (sh_CM d) 5 (And.intro c ?_)
        show wq_L d Q 816 [oR 17 0, oR 11 0, oR 12 0, oI l3] [aI (h.1 17 0 (l3 + (2 : Int32)).toNatClampNeg), aI (h.1 17 0 (l3 + (1 : Int32)).toNatClampNeg), aR 11 0] (sh_E h)
        refine ai_WP_steps mc_L (sh_CM d) 1 (And.intro (Nat.le_of_ble_eq_true rfl) (x_CB_lacks (Nat.le_trans (Nat.le_of_ble_eq_true rfl) hd) (h.1 17 0 (l3 + (1 : Int32)).toNatClampNeg) (h.1 17 0 (l3 + (2 : Int32)).toNatClampNeg) h (sh_okB H) (fun v65 H => ?_)))
        show wq_L d Q 819 [oR 17 0, oR 11 0, oR 12 0, oI l3] [aI v65] (sh_E h)
        have c := sh_okG H
        replace H := sh_okH H
        refine ai_WP_steps mc_L (sh_CM d) 6 (And.intro c ?_)
        show wq_L d Q 825 [oR 17 0, oR 11 0, oR 12 0, oI l3] [aI (h.1 17 0 (l3 + (1 : Int32)).toNatClampNeg), aR 12 0, aI v65] (sh_E h)
        have c := sh_okG H
        replace H := sh_okH H
        refine ai_WP_steps mc_L (sh_CM d) 5 (And.intro c ?_)
        show wq_L d Q 830 [oR 17 0, oR 11 0, oR 12 0, oI l3] [aI (h.1 17 0 (l3 + (2 : Int32)).toNatClampNeg), aI (h.1 17 0 (l3 + (1 : Int32)).toNatClampNeg), aR 12 0, aI v65] (sh_E h)
        refine ai_WP_steps mc_L (sh_CM d) 1 (And.intro (Nat.le_of_ble_eq_true rfl) (x_M_lacks (Nat.le_trans (Nat.le_of_ble_eq_true rfl) hd) (h.1 17 0 (l3 + (1 : Int32)).toNatClampNeg) (h.1 17 0 (l3 + (2 : Int32)).toNatClampNeg) h (sh_okB H) (fun v66 H => ?_)))
        show wq_L d Q 833 [oR 17 0, oR 11 0, oR 12 0, oI l3] [aI v66, aI v65] (sh_E h)
        refine ai_WP_steps mc_L (sh_CM d) 1 (And.intro (fun c => ?_) (fun c => ?_))
        · replace H := sh_okT c H
          exact x_law_b2107 N hd hR k18 hk18 l3 h H
        · replace H := sh_okF c H
          show wq_L d Q 836 [oR 17 0, oR 11 0, oR 12 0, oI l3] [] (sh_E h)
          exact ai_WP_steps mc_L (sh_CM d) 2 (hR (ai_nar 1 (0 : Int32)) h H)
      replace H := sh_okF c H
      refine And.intro (fun c => ?_) (fun c => ?_)
      · replace H := sh_okT c H
        show wq_L d Q 838 [oR 17 0, oR 11 0, oR 12 0, oI l3] [] (sh_E h)
        have c := sh_okG H
        replace H := sh_okH H
        refine ai_WP_steps mc_L (sh_CM d) 6 (And.intro c ?_)
        show wq_L d Q 844 [oR 17 0, oR 11 0, oR 12 0, oI l3] [aI (h.1 17 0 (l3 + (1 : Int32)).toNatClampNeg), aR 11 0] (sh_E h)
        refine ai_WP_steps mc_L (sh_CM d) 1 (And.intro (Nat.le_of_ble_eq_true rfl) (x_CB_spent (Nat.le_trans (Nat.le_of_ble_eq_true rfl) hd) (h.1 17 0 (l3 + (1 : Int32)).toNatClampNeg) h (sh_okB H) (fun v67 H => ?_)))
        show wq_L d Q 847 [oR 17 0, oR 11 0, oR 12 0, oI l3] [aL v67] (sh_E h)
        have c := sh_okG H
        replace H := sh_okH H
        refine ai_WP_steps mc_L (sh_CM d) 6 (And.intro c ?_)
        show wq_L d Q 853 [oR 17 0, oR 11 0, oR 12 0, oI l3] [aI (h.1 17 0 (l3 + (1 : Int32)).toNatClampNeg), aR 12 0, aL v67] (sh_E h)
        refine ai_WP_steps mc_L (sh_CM d) 1 (And.intro (Nat.le_of_ble_eq_true rfl) (x_M_spent (Nat.le_trans (Nat.le_of_ble_eq_true rfl) hd) (h.1 17 0 (l3 + (1 : Int32)).toNatClampNeg) h (sh_okB H) (fun v68 H => ?_)))
        show wq_L d Q 856 [oR 17 0, oR 11 0, oR 12 0, oI l3] [aL v68, aL v67] (sh_E h)
        refine ai_WP_steps mc_L (sh_CM d) 2 (And.intro (fun c => ?_) (fun c => ?_))
        · replace H := sh_okT c H
          exact x_law_b2107 N hd hR k18 hk18 l3 h H
        · replace H := sh_okF c H
          show wq_L d Q 860 [oR 17 0, oR 11 0, oR 12 0, oI l3] [] (sh_E h)
          exact ai_WP_steps mc_L (sh_CM d) 2 (hR (ai_nar 1 (0 : Int32)) h H)
      replace H := sh_okF c H
      refine And.intro (fun c => ?_) (fun c => ?_)
      · replace H := sh_okT c H
        show wq_L d Q 862 [oR 17 0, oR 11 0, oR 12 0, oI l3] [] (sh_E h)
        have c := sh_okG H
        replace H := sh_okH H
        refine ai_WP_steps mc_L (sh_CM d) 6 (And.intro c ?_)
        show wq_L d Q 868 [oR 17 0, oR 11 0, oR 12 0, oI l3] [aI (h.1 17 0 (l3 + (1 : Int32)).toNatClampNeg), aR 11 0] (sh_E h)
        have c := sh_okG H
        replace H := sh_okH H
        refine ai_WP_steps mc_L (sh_CM d) 5 (And.intro c ?_)
        show wq_L d Q 873 [oR 17 0, oR 11 0, oR 12 0, oI l3] [aI (h.1 17 0 (l3 + (2 : Int32)).toNatClampNeg), aI (h.1 17 0 (l3 + (1 : Int32)).toNatClampNeg), aR 11 0] (sh_E h)
        have c := sh_okG H
        replace H := sh_okH H
        refine ai_WP_steps mc_L (sh_CM d) 5 (And.intro c ?_)
        show wq_L d Q 878 [oR 17 0, oR 11 0, oR 12 0, oI l3] [aI (h.1 17 0 (l3 + (3 : Int32)).toNatClampNeg), aI (h.1 17 0 (l3 + (2 : Int32)).toNatClampNeg), aI (h.1 17 0 (l3 + (1 : Int32)).toNatClampNeg), aR 11 0] (sh_E h)
        refine ai_WP_steps mc_L (sh_CM d) 1 (And.intro (Nat.le_of_ble_eq_true rfl) (x_CB_pay N (Nat.le_trans (Nat.le_of_ble_eq_true rfl) hd) (h.1 17 0 (l3 + (1 : Int32)).toNatClampNeg) (h.1 17 0 (l3 + (2 : Int32)).toNatClampNeg) (h.1 17 0 (l3 + (3 : Int32)).toNatClampNeg) h (sh_okB H) (fun v69 h70 H => ?_)))
        show wq_L d Q 881 [oR 17 0, oR 11 0, oR 12 0, oI l3] [aI v69] (sh_E h70)
        have c := sh_okG H
        replace H := sh_okH H
        refine ai_WP_steps mc_L (sh_CM d) 6 (And.intro c ?_)
        show wq_L d Q 887 [oR 17 0, oR 11 0, oR 12 0, oI l3] [aI (h70.1 17 0 (l3 + (1 : Int32)).toNatClampNeg), aR 12 0, aI v69] (sh_E h70)
        have c := sh_okG H
        replace H := sh_okH H
        refine ai_WP_steps mc_L (sh_CM d) 5 (And.intro c ?_)
        show wq_L d Q 892 [oR 17 0, oR 11 0, oR 12 0, oI l3] [aI (h70.1 17 0 (l3 + (2 : Int32)).toNatClampNeg), aI (h70.1 17 0 (l3 + (1 : Int32)).toNatClampNeg), aR 12 0, aI v69] (sh_E h70)
        have c := sh_okG H
        replace H := sh_okH H
        refine ai_WP_steps mc_L (sh_CM d) 5 (And.intro c ?_)
        show wq_L d Q 897 [oR 17 0, oR 11 0, oR 12 0, oI l3] [aI (h70.1 17 0 (l3 + (3 : Int32)).toNatClampNeg), aI (h70.1 17 0 (l3 + (2 : Int32)).toNatClampNeg), aI (h70.1 17 0 (l3 + (1 : Int32)).toNatClampNeg), aR 12 0, aI v69] (sh_E h70)
        refine ai_WP_steps mc_L (sh_CM d) 1 (And.intro (Nat.le_of_ble_eq_true rfl) (x_M_pay N (Nat.le_trans (Nat.le_of_ble_eq_true rfl) hd) (h70.1 17 0 (l3 + (1 : Int32)).toNatClampNeg) (h70.1 17 0 (l3 + (2 : Int32)).toNatClampNeg) (h70.1 17 0 (l3 + (3 : Int32)).toNatClampNeg) h70 (sh_okB H) (fun v71 h72 H => ?_)))
        show wq_L d Q 900 [oR 17 0, oR 11 0, oR 12 0, oI l3] [aI v71, aI v69] (sh_E h72)
        refine ai_WP_steps mc_L (sh_CM d) 1 (And.intro (fun c => ?_) (fun c => ?_))
        · replace H := sh_okT c H
          exact x_law_b2107 N hd hR k18 hk18 l3 h72 H
        · replace H := sh_okF c H
          show wq_L d Q 903 [oR 17 0, oR 11 0, oR 12 0, oI l3] [] (sh_E h72)
          exact ai_WP_steps mc_L (sh_CM d) 2 (hR (ai_nar 1 (0 : Int32)) h72 H)
      replace H := sh_okF c H
      refine And.intro (fun c => ?_) (fun c => ?_)
      · replace H := sh_okT c H
        show wq_L d Q 905 [oR 17 0, oR 11 0, oR 12 0, oI l3] [] (sh_E h)
        have c := sh_okG H
        replace H := sh_okH H
        refine ai_WP_steps mc_L (sh_CM d) 6 (And.intro c ?_)
        show wq_L d Q 911 [oR 17 0, oR 11 0, oR 12 0, oI l3] [aI (h.1 17 0 (l3 + (1 : Int32)).toNatClampNeg), aR 11 0] (sh_E h)
        have c := sh_okG H
        replace H := sh_okH H
        refine ai_WP_steps mc_L (sh_CM d) 5 (And.intro c ?_)
        show wq_L d Q 916 [oR 17 0, oR 11 0, oR 12 0, oI l3] [aI (h.1 17 0 (l3 + (2 : Int32)).toNatClampNeg), aI (h.1 17 0 (l3 + (1 : Int32)).toNatClampNeg), aR 11 0] (sh_E h)
        have c := sh_okG H
        replace H := sh_okH H
        refine ai_WP_steps mc_L (sh_CM d) 5 (And.intro c ?_)
        show wq_L d Q 921 [oR 17 0, oR 11 0, oR 12 0, oI l3] [aI (h.1 17 0 (l3 + (3 : Int32)).toNatClampNeg), aI (h.1 17 0 (l3 + (2 : Int32)).toNatClampNeg), aI (h.1 17 0 (l3 + (1 : Int32)).toNatClampNeg), aR 11 0] (sh_E h)
        have c := sh_okG H
        replace H := sh_okH H
        refine ai_WP_steps mc_L (sh_CM d) 5 (And.intro c ?_)
        show wq_L d Q 926 [oR 17 0, oR 11 0, oR 12 0, oI l3] [aI (h.1 17 0 (l3 + (4 : Int32)).toNatClampNeg), aI (h.1 17 0 (l3 + (3 : Int32)).toNatClampNeg), aI (h.1 17 0 (l3 + (2 : Int32)).toNatClampNeg), aI (h.1 17 0 (l3 + (1 : Int32)).toNatClampNeg), aR 11 0] (sh_E h)
        refine ai_WP_steps mc_L (sh_CM d) 1 (And.intro (Nat.le_of_ble_eq_true rfl) (x_CB_change N (Nat.le_trans (Nat.le_of_ble_eq_true rfl) hd) (h.1 17 0 (l3 + (1 : Int32)).toNatClampNeg) (h.1 17 0 (l3 + (2 : Int32)).toNatClampNeg) (h.1 17 0 (l3 + (3 : Int32)).toNatClampNeg) (h.1 17 0 (l3 + (4 : Int32)).toNatClampNeg) h (sh_okB H) (fun v73 h74 H => ?_)))
        show wq_L d Q 929 [oR 17 0, oR 11 0, oR 12 0, oI l3] [aI v73] (sh_E h74)
        have c := sh_okG H
        replace H := sh_okH H
        refine ai_WP_steps mc_L (sh_CM d) 6 (And.intro c ?_)
        show wq_L d Q 935 [oR 17 0, oR 11 0, oR 12 0, oI l3] [aI (h74.1 17 0 (l3 + (1 : Int32)).toNatClampNeg), aR 12 0, aI v73] (sh_E h74)
        have c := sh_okG H
        replace H := sh_okH H
        refine ai_WP_steps mc_L (sh_CM d) 5 (And.intro c ?_)
        show wq_L d Q 940 [oR 17 0, oR 11 0, oR 12 0, oI l3] [aI (h74.1 17 0 (l3 + (2 : Int32)).toNatClampNeg), aI (h74.1 17 0 (l3 + (1 : Int32)).toNatClampNeg), aR 12 0, aI v73] (sh_E h74)
        have c := sh_okG H
        replace H := sh_okH H
        refine ai_WP_steps mc_L (sh_CM d) 5 (And.intro c ?_)
        show wq_L d Q 945 [oR 17 0, oR 11 0, oR 12 0, oI l3] [aI (h74.1 17 0 (l3 + (3 : Int32)).toNatClampNeg), aI (h74.1 17 0 (l3 + (2 : Int32)).toNatClampNeg), aI (h74.1 17 0 (l3 + (1 : Int32)).toNatClampNeg), aR 12 0, aI v73] (sh_E h74)
        have c := sh_okG H
        replace H := sh_okH H
        refine ai_WP_steps mc_L (sh_CM d) 5 (And.intro c ?_)
        show wq_L d Q 950 [oR 17 0, oR 11 0, oR 12 0, oI l3] [aI (h74.1 17 0 (l3 + (4 : Int32)).toNatClampNeg), aI (h74.1 17 0 (l3 + (3 : Int32)).toNatClampNeg), aI (h74.1 17 0 (l3 + (2 : Int32)).toNatClampNeg), aI (h74.1 17 0 (l3 + (1 : Int32)).toNatClampNeg), aR 12 0, aI v73] (sh_E h74)
        refine ai_WP_steps mc_L (sh_CM d) 1 (And.intro (Nat.le_of_ble_eq_true rfl) (x_M_change N (Nat.le_trans (Nat.le_of_ble_eq_true rfl) hd) (h74.1 17 0 (l3 + (1 : Int32)).toNatClampNeg) (h74.1 17 0 (l3 + (2 : Int32)).toNatClampNeg) (h74.1 17 0 (l3 + (3 : Int32)).toNatClampNeg) (h74.1 17 0 (l3 + (4 : Int32)).toNatClampNeg) h74 (sh_okB H) (fun v75 h76 H => ?_)))
        show wq_L d Q 953 [oR 17 0, oR 11 0, oR 12 0, oI l3] [aI v75, aI v73] (sh_E h76)
        refine ai_WP_steps mc_L (sh_CM d) 1 (And.intro (fun c => ?_) (fun c => ?_))
        · replace H := sh_okT c H
          exact x_law_b2107 N hd hR k18 hk18 l3 h76 H
        · replace H := sh_okF c H
          show wq_L d Q 956 [oR 17 0, oR 11 0, oR 12 0, oI l3] [] (sh_E h76)
          exact ai_WP_steps mc_L (sh_CM d) 2 (hR (ai_nar 1 (0 : Int32)) h76 H)
      replace H := sh_okF c H
      refine And.intro (fun c => ?_) (fun c => ?_)
      · replace H := sh_okT c H
        show wq_L d Q 958 [oR 17 0, oR 11 0, oR 12 0, oI l3] [] (sh_E h)
        have c := sh_okG H
        replace H := sh_okH H
        refine ai_WP_steps mc_L (sh_CM d) 6 (And.intro c ?_)
        show wq_L d Q 964 [oR 17 0, oR 11 0, oR 12 0, oI l3] [aI (h.1 17 0 (l3 + (1 : Int32)).toNatClampNeg), aR 11 0] (sh_E h)
        have c := sh_okG H
        replace H := sh_okH H
        refine ai_WP_steps mc_L (sh_CM d) 5 (And.intro c ?_)
        show wq_L d Q 969 [oR 17 0, oR 11 0, oR 12 0, oI l3] [aI (h.1 17 0 (l3 + (2 : Int32)).toNatClampNeg), aI (h.1 17 0 (l3 + (1 : Int32)).toNatClampNeg), aR 11 0] (sh_E h)
        refine ai_WP_steps mc_L (sh_CM d) 1 (And.intro (Nat.le_of_ble_eq_true rfl) (x_CB_which N (Nat.le_trans (Nat.le_of_ble_eq_true rfl) hd) (h.1 17 0 (l3 + (1 : Int32)).toNatClampNeg) (h.1 17 0 (l3 + (2 : Int32)).toNatClampNeg) h (sh_okB H) (fun v77 h78 H => ?_)))
        show wq_L d Q 972 [oR 17 0, oR 11 0, oR 12 0, oI l3] [aI v77] (sh_E h78)
        have c := sh_okG H
        replace H := sh_okH H
        refine ai_WP_steps mc_L (sh_CM d) 6 (And.intro c ?_)
        show wq_L d Q 978 [oR 17 0, oR 11 0, oR 12 0, oI l3] [aI (h78.1 17 0 (l3 + (1 : Int32)).toNatClampNeg), aR 12 0, aI v77] (sh_E h78)
        have c := sh_okG H
        replace H := sh_okH H
        refine ai_WP_steps mc_L (sh_CM d) 5 (And.intro c ?_)
        show wq_L d Q 983 [oR 17 0, oR 11 0, oR 12 0, oI l3] [aI (h78.1 17 0 (l3 + (2 : Int32)).toNatClampNeg), aI (h78.1 17 0 (l3 + (1 : Int32)).toNatClampNeg), aR 12 0, aI v77] (sh_E h78)
        refine ai_WP_steps mc_L (sh_CM d) 1 (And.intro (Nat.le_of_ble_eq_true rfl) (x_M_which N (Nat.le_trans (Nat.le_of_ble_eq_true rfl) hd) (h78.1 17 0 (l3 + (1 : Int32)).toNatClampNeg) (h78.1 17 0 (l3 + (2 : Int32)).toNatClampNeg) h78 (sh_okB H) (fun v79 h80 H => ?_)))
        show wq_L d Q 986 [oR 17 0, oR 11 0, oR 12 0, oI l3] [aI v79, aI v77] (sh_E h80)
        refine ai_WP_steps mc_L (sh_CM d) 1 (And.intro (fun c => ?_) (fun c => ?_))
        · replace H := sh_okT c H
          exact x_law_b2107 N hd hR k18 hk18 l3 h80 H
        · replace H := sh_okF c H
          show wq_L d Q 989 [oR 17 0, oR 11 0, oR 12 0, oI l3] [] (sh_E h80)
          exact ai_WP_steps mc_L (sh_CM d) 2 (hR (ai_nar 1 (0 : Int32)) h80 H)
      replace H := sh_okF c H
      refine And.intro (fun c => ?_) (fun c => ?_)
      · replace H := sh_okT c H
        show wq_L d Q 991 [oR 17 0, oR 11 0, oR 12 0, oI l3] [] (sh_E h)
        have c := sh_okG H
        replace H := sh_okH H
        refine ai_WP_steps mc_L (sh_CM d) 6 (And.intro c ?_)
        show wq_L d Q 997 [oR 17 0, oR 11 0, oR 12 0, oI l3] [aI (h.1 17 0 (l3 + (1 : Int32)).toNatClampNeg), aR 11 0] (sh_E h)
        have c := sh_okG H
        replace H := sh_okH H
        refine ai_WP_steps mc_L (sh_CM d) 5 (And.intro c ?_)
        show wq_L d Q 1002 [oR 17 0, oR 11 0, oR 12 0, oI l3] [aI (h.1 17 0 (l3 + (2 : Int32)).toNatClampNeg), aI (h.1 17 0 (l3 + (1 : Int32)).toNatClampNeg), aR 11 0] (sh_E h)
        refine ai_WP_steps mc_L (sh_CM d) 1 (And.intro (Nat.le_of_ble_eq_true rfl) (x_CB_whichSum N (Nat.le_trans (Nat.le_of_ble_eq_true rfl) hd) (h.1 17 0 (l3 + (1 : Int32)).toNatClampNeg) (h.1 17 0 (l3 + (2 : Int32)).toNatClampNeg) h (sh_okB H) (fun v81 h82 H => ?_)))
        show wq_L d Q 1005 [oR 17 0, oR 11 0, oR 12 0, oI l3] [aI v81] (sh_E h82)
        have c := sh_okG H
        replace H := sh_okH H
        refine ai_WP_steps mc_L (sh_CM d) 6 (And.intro c ?_)
        show wq_L d Q 1011 [oR 17 0, oR 11 0, oR 12 0, oI l3] [aI (h82.1 17 0 (l3 + (1 : Int32)).toNatClampNeg), aR 12 0, aI v81] (sh_E h82)
        have c := sh_okG H
        replace H := sh_okH H
        refine ai_WP_steps mc_L (sh_CM d) 5 (And.intro c ?_)
        show wq_L d Q 1016 [oR 17 0, oR 11 0, oR 12 0, oI l3] [aI (h82.1 17 0 (l3 + (2 : Int32)).toNatClampNeg), aI (h82.1 17 0 (l3 + (1 : Int32)).toNatClampNeg), aR 12 0, aI v81] (sh_E h82)
        refine ai_WP_steps mc_L (sh_CM d) 1 (And.intro (Nat.le_of_ble_eq_true rfl) (x_M_whichSum N (Nat.le_trans (Nat.le_of_ble_eq_true rfl) hd) (h82.1 17 0 (l3 + (1 : Int32)).toNatClampNeg) (h82.1 17 0 (l3 + (2 : Int32)).toNatClampNeg) h82 (sh_okB H) (fun v83 h84 H => ?_)))
        show wq_L d Q 1019 [oR 17 0, oR 11 0, oR 12 0, oI l3] [aI v83, aI v81] (sh_E h84)
        refine ai_WP_steps mc_L (sh_CM d) 1 (And.intro (fun c => ?_) (fun c => ?_))
        · replace H := sh_okT c H
          exact x_law_b2107 N hd hR k18 hk18 l3 h84 H
        · replace H := sh_okF c H
          show wq_L d Q 1022 [oR 17 0, oR 11 0, oR 12 0, oI l3] [] (sh_E h84)
          exact ai_WP_steps mc_L (sh_CM d) 2 (hR (ai_nar 1 (0 : Int32)) h84 H)
      replace H := sh_okF c H
      refine And.intro (fun c => ?_) (fun c => ?_)
      · replace H := sh_okT c H
        show wq_L d Q 1024 [oR 17 0, oR 11 0, oR 12 0, oI l3] [] (sh_E h)
        have c := sh_okG H
        replace H := sh_okH H
        refine ai_WP_steps mc_L (sh_CM d) 6 (And.intro c ?_)
        show wq_L d Q 1030 [oR 17 0, oR 11 0, oR 12 0, oI l3] [aI (h.1 17 0 (l3 + (1 : Int32)).toNatClampNeg), aR 11 0] (sh_E h)
        have c := sh_okG H
        replace H := sh_okH H
        refine ai_WP_steps mc_L (sh_CM d) 5 (And.intro c ?_)
        show wq_L d Q 1035 [oR 17 0, oR 11 0, oR 12 0, oI l3] [aI (h.1 17 0 (l3 + (2 : Int32)).toNatClampNeg), aI (h.1 17 0 (l3 + (1 : Int32)).toNatClampNeg), aR 11 0] (sh_E h)
        have c := sh_okG H
        replace H := sh_okH H
        refine ai_WP_steps mc_L (sh_CM d) 5 (And.intro c ?_)
        show wq_L d Q 1040 [oR 17 0, oR 11 0, oR 12 0, oI l3] [aI (h.1 17 0 (l3 + (3 : Int32)).toNatClampNeg), aI (h.1 17 0 (l3 + (2 : Int32)).toNatClampNeg), aI (h.1 17 0 (l3 + (1 : Int32)).toNatClampNeg), aR 11 0] (sh_E h)
        have c := sh_okG H
        replace H := sh_okH H
        refine ai_WP_steps mc_L (sh_CM d) 5 (And.intro c ?_)
        show wq_L d Q 1045 [oR 17 0, oR 11 0, oR 12 0, oI l3] [aI (h.1 17 0 (l3 + (4 : Int32)).toNatClampNeg), aI (h.1 17 0 (l3 + (3 : Int32)).toNatClampNeg), aI (h.1 17 0 (l3 + (2 : Int32)).toNatClampNeg), aI (h.1 17 0 (l3 + (1 : Int32)).toNatClampNeg), aR 11 0] (sh_E h)
        have c := sh_okG H
        replace H := sh_okH H
        refine ai_WP_steps mc_L (sh_CM d) 5 (And.intro c ?_)
        show wq_L d Q 1050 [oR 17 0, oR 11 0, oR 12 0, oI l3] [aI (h.1 17 0 (l3 + (5 : Int32)).toNatClampNeg), aI (h.1 17 0 (l3 + (4 : Int32)).toNatClampNeg), aI (h.1 17 0 (l3 + (3 : Int32)).toNatClampNeg), aI (h.1 17 0 (l3 + (2 : Int32)).toNatClampNeg), aI (h.1 17 0 (l3 + (1 : Int32)).toNatClampNeg), aR 11 0] (sh_E h)
        have c := sh_okG H
        replace H := sh_okH H
        refine ai_WP_steps mc_L (sh_CM d) 5 (And.intro c ?_)
        show wq_L d Q 1056 [oR 17 0, oR 11 0, oR 12 0, oI l3] [aI (h.1 17 0 (l3 + (6 : Int32)).toNatClampNeg), aI (h.1 17 0 (l3 + (5 : Int32)).toNatClampNeg), aI (h.1 17 0 (l3 + (4 : Int32)).toNatClampNeg), aI (h.1 17 0 (l3 + (3 : Int32)).toNatClampNeg), aI (h.1 17 0 (l3 + (2 : Int32)).toNatClampNeg), aI (h.1 17 0 (l3 + (1 : Int32)).toNatClampNeg), aR 11 0] (sh_E h)
        refine ai_WP_steps mc_L (sh_CM d) 1 (And.intro (Nat.le_of_ble_eq_true rfl) (x_CB_least N (Nat.le_trans (Nat.le_of_ble_eq_true rfl) hd) (h.1 17 0 (l3 + (1 : Int32)).toNatClampNeg) (h.1 17 0 (l3 + (2 : Int32)).toNatClampNeg) (h.1 17 0 (l3 + (3 : Int32)).toNatClampNeg) (h.1 17 0 (l3 + (4 : Int32)).toNatClampNeg) (h.1 17 0 (l3 + (5 : Int32)).toNatClampNeg) (h.1 17 0 (l3 + (6 : Int32)).toNatClampNeg) h (sh_okB H) (fun v85 h86 H => ?_)))
        show wq_L d Q 1059 [oR 17 0, oR 11 0, oR 12 0, oI l3] [aL v85] (sh_E h86)
        have c := sh_okG H
        replace H := sh_okH H
        refine ai_WP_steps mc_L (sh_CM d) 6 (And.intro c ?_)
        show wq_L d Q 1065 [oR 17 0, oR 11 0, oR 12 0, oI l3] [aI (h86.1 17 0 (l3 + (1 : Int32)).toNatClampNeg), aR 12 0, aL v85] (sh_E h86)
        have c := sh_okG H
        replace H := sh_okH H
        refine ai_WP_steps mc_L (sh_CM d) 5 (And.intro c ?_)
        show wq_L d Q 1070 [oR 17 0, oR 11 0, oR 12 0, oI l3] [aI (h86.1 17 0 (l3 + (2 : Int32)).toNatClampNeg), aI (h86.1 17 0 (l3 + (1 : Int32)).toNatClampNeg), aR 12 0, aL v85] (sh_E h86)
        have c := sh_okG H
        replace H := sh_okH H
        refine ai_WP_steps mc_L (sh_CM d) 5 (And.intro c ?_)
        show wq_L d Q 1075 [oR 17 0, oR 11 0, oR 12 0, oI l3] [aI (h86.1 17 0 (l3 + (3 : Int32)).toNatClampNeg), aI (h86.1 17 0 (l3 + (2 : Int32)).toNatClampNeg), aI (h86.1 17 0 (l3 + (1 : Int32)).toNatClampNeg), aR 12 0, aL v85] (sh_E h86)
        have c := sh_okG H
        replace H := sh_okH H
        refine ai_WP_steps mc_L (sh_CM d) 5 (And.intro c ?_)
        show wq_L d Q 1080 [oR 17 0, oR 11 0, oR 12 0, oI l3] [aI (h86.1 17 0 (l3 + (4 : Int32)).toNatClampNeg), aI (h86.1 17 0 (l3 + (3 : Int32)).toNatClampNeg), aI (h86.1 17 0 (l3 + (2 : Int32)).toNatClampNeg), aI (h86.1 17 0 (l3 + (1 : Int32)).toNatClampNeg), aR 12 0, aL v85] (sh_E h86)
        have c := sh_okG H
        replace H := sh_okH H
        refine ai_WP_steps mc_L (sh_CM d) 5 (And.intro c ?_)
        show wq_L d Q 1085 [oR 17 0, oR 11 0, oR 12 0, oI l3] [aI (h86.1 17 0 (l3 + (5 : Int32)).toNatClampNeg), aI (h86.1 17 0 (l3 + (4 : Int32)).toNatClampNeg), aI (h86.1 17 0 (l3 + (3 : Int32)).toNatClampNeg), aI (h86.1 17 0 (l3 + (2 : Int32)).toNatClampNeg), aI (h86.1 17 0 (l3 + (1 : Int32)).toNatClampNeg), aR 12 0, aL v85] (sh_E h86)
        have c := sh_okG H
        replace H := sh_okH H
        refine ai_WP_steps mc_L (sh_CM d) 5 (And.intro c ?_)
        show wq_L d Q 1091 [oR 17 0, oR 11 0, oR 12 0, oI l3] [aI (h86.1 17 0 (l3 + (6 : Int32)).toNatClampNeg), aI (h86.1 17 0 (l3 + (5 : Int32)).toNatClampNeg), aI (h86.1 17 0 (l3 + (4 : Int32)).toNatClampNeg), aI (h86.1 17 0 (l3 + (3 : Int32)).toNatClampNeg), aI (h86.1 17 0 (l3 + (2 : Int32)).toNatClampNeg), aI (h86.1 17 0 (l3 + (1 : Int32)).toNatClampNeg), aR 12 0, aL v85] (sh_E h86)
        refine ai_WP_steps mc_L (sh_CM d) 1 (And.intro (Nat.le_of_ble_eq_true rfl) (x_M_least N (Nat.le_trans (Nat.le_of_ble_eq_true rfl) hd) (h86.1 17 0 (l3 + (1 : Int32)).toNatClampNeg) (h86.1 17 0 (l3 + (2 : Int32)).toNatClampNeg) (h86.1 17 0 (l3 + (3 : Int32)).toNatClampNeg) (h86.1 17 0 (l3 + (4 : Int32)).toNatClampNeg) (h86.1 17 0 (l3 + (5 : Int32)).toNatClampNeg) (h86.1 17 0 (l3 + (6 : Int32)).toNatClampNeg) h86 (sh_okB H) (fun v87 h88 H => ?_)))
        show wq_L d Q 1094 [oR 17 0, oR 11 0, oR 12 0, oI l3] [aL v87, aL v85] (sh_E h88)
        refine ai_WP_steps mc_L (sh_CM d) 2 (And.intro (fun c => ?_) (fun c => ?_))
        · replace H := sh_okT c H
          exact x_law_b2107 N hd hR k18 hk18 l3 h88 H
        · replace H := sh_okF c H
          show wq_L d Q 1098 [oR 17 0, oR 11 0, oR 12 0, oI l3] [] (sh_E h88)
          exact ai_WP_steps mc_L (sh_CM d) 2 (hR (ai_nar 1 (0 : Int32)) h88 H)
      replace H := sh_okF c H
      refine And.intro (fun c => ?_) (fun c => ?_)
      · replace H := sh_okT c H
        show wq_L d Q 1100 [oR 17 0, oR 11 0, oR 12 0, oI l3] [] (sh_E h)
        have c := sh_okG H
        replace H := sh_okH H
        refine ai_WP_steps mc_L (sh_CM d) 6 (And.intro c ?_)
        show wq_L d Q 1106 [oR 17 0, oR 11 0, oR 12 0, oI l3] [aI (h.1 17 0 (l3 + (1 : Int32)).toNatClampNeg), aR 11 0] (sh_E h)
        have c := sh_okG H
        replace H := sh_okH H
        refine ai_WP_steps mc_L (sh_CM d) 5 (And.intro c ?_)
        show wq_L d Q 1111 [oR 17 0, oR 11 0, oR 12 0, oI l3] [aI (h.1 17 0 (l3 + (2 : Int32)).toNatClampNeg), aI (h.1 17 0 (l3 + (1 : Int32)).toNatClampNeg), aR 11 0] (sh_E h)
        have c := sh_okG H
        replace H := sh_okH H
        refine ai_WP_steps mc_L (sh_CM d) 5 (And.intro c ?_)
        show wq_L d Q 1116 [oR 17 0, oR 11 0, oR 12 0, oI l3] [aI (h.1 17 0 (l3 + (3 : Int32)).toNatClampNeg), aI (h.1 17 0 (l3 + (2 : Int32)).toNatClampNeg), aI (h.1 17 0 (l3 + (1 : Int32)).toNatClampNeg), aR 11 0] (sh_E h)
        have c := sh_okG H
        replace H := sh_okH H
        refine ai_WP_steps mc_L (sh_CM d) 5 (And.intro c ?_)
        show wq_L d Q 1121 [oR 17 0, oR 11 0, oR 12 0, oI l3] [aI (h.1 17 0 (l3 + (4 : Int32)).toNatClampNeg), aI (h.1 17 0 (l3 + (3 : Int32)).toNatClampNeg), aI (h.1 17 0 (l3 + (2 : Int32)).toNatClampNeg), aI (h.1 17 0 (l3 + (1 : Int32)).toNatClampNeg), aR 11 0] (sh_E h)
        have c := sh_okG H
        replace H := sh_okH H
        refine ai_WP_steps mc_L (sh_CM d) 5 (And.intro c ?_)
        show wq_L d Q 1126 [oR 17 0, oR 11 0, oR 12 0, oI l3] [aI (h.1 17 0 (l3 + (5 : Int32)).toNatClampNeg), aI (h.1 17 0 (l3 + (4 : Int32)).toNatClampNeg), aI (h.1 17 0 (l3 + (3 : Int32)).toNatClampNeg), aI (h.1 17 0 (l3 + (2 : Int32)).toNatClampNeg), aI (h.1 17 0 (l3 + (1 : Int32)).toNatClampNeg), aR 11 0] (sh_E h)
        have c := sh_okG H
        replace H := sh_okH H
        refine ai_WP_steps mc_L (sh_CM d) 5 (And.intro c ?_)
        show wq_L d Q 1132 [oR 17 0, oR 11 0, oR 12 0, oI l3] [aI (h.1 17 0 (l3 + (6 : Int32)).toNatClampNeg), aI (h.1 17 0 (l3 + (5 : Int32)).toNatClampNeg), aI (h.1 17 0 (l3 + (4 : Int32)).toNatClampNeg), aI (h.1 17 0 (l3 + (3 : Int32)).toNatClampNeg), aI (h.1 17 0 (l3 + (2 : Int32)).toNatClampNeg), aI (h.1 17 0 (l3 + (1 : Int32)).toNatClampNeg), aR 11 0] (sh_E h)
        refine ai_WP_steps mc_L (sh_CM d) 1 (And.intro (Nat.le_of_ble_eq_true rfl) (x_CB_order N (Nat.le_trans (Nat.le_of_ble_eq_true rfl) hd) (h.1 17 0 (l3 + (1 : Int32)).toNatClampNeg) (h.1 17 0 (l3 + (2 : Int32)).toNatClampNeg) (h.1 17 0 (l3 + (3 : Int32)).toNatClampNeg) (h.1 17 0 (l3 + (4 : Int32)).toNatClampNeg) (h.1 17 0 (l3 + (5 : Int32)).toNatClampNeg) (h.1 17 0 (l3 + (6 : Int32)).toNatClampNeg) h (sh_okB H) (fun v89 h90 H => ?_)))
        show wq_L d Q 1135 [oR 17 0, oR 11 0, oR 12 0, oI l3] [aI v89] (sh_E h90)
        have c := sh_okG H
        replace H := sh_okH H
        refine ai_WP_steps mc_L (sh_CM d) 6 (And.intro c ?_)
        show wq_L d Q 1141 [oR 17 0, oR 11 0, oR 12 0, oI l3] [aI (h90.1 17 0 (l3 + (1 : Int32)).toNatClampNeg), aR 12 0, aI v89] (sh_E h90)
        have c := sh_okG H
        replace H := sh_okH H
        refine ai_WP_steps mc_L (sh_CM d) 5 (And.intro c ?_)
        show wq_L d Q 1146 [oR 17 0, oR 11 0, oR 12 0, oI l3] [aI (h90.1 17 0 (l3 + (2 : Int32)).toNatClampNeg), aI (h90.1 17 0 (l3 + (1 : Int32)).toNatClampNeg), aR 12 0, aI v89] (sh_E h90)
        have c := sh_okG H
        replace H := sh_okH H
        refine ai_WP_steps mc_L (sh_CM d) 5 (And.intro c ?_)
        show wq_L d Q 1151 [oR 17 0, oR 11 0, oR 12 0, oI l3] [aI (h90.1 17 0 (l3 + (3 : Int32)).toNatClampNeg), aI (h90.1 17 0 (l3 + (2 : Int32)).toNatClampNeg), aI (h90.1 17 0 (l3 + (1 : Int32)).toNatClampNeg), aR 12 0, aI v89] (sh_E h90)
        have c := sh_okG H
        replace H := sh_okH H
        refine ai_WP_steps mc_L (sh_CM d) 5 (And.intro c ?_)
        show wq_L d Q 1156 [oR 17 0, oR 11 0, oR 12 0, oI l3] [aI (h90.1 17 0 (l3 + (4 : Int32)).toNatClampNeg), aI (h90.1 17 0 (l3 + (3 : Int32)).toNatClampNeg), aI (h90.1 17 0 (l3 + (2 : Int32)).toNatClampNeg), aI (h90.1 17 0 (l3 + (1 : Int32)).toNatClampNeg), aR 12 0, aI v89] (sh_E h90)
        have c := sh_okG H
        replace H := sh_okH H
        refine ai_WP_steps mc_L (sh_CM d) 5 (And.intro c ?_)
        show wq_L d Q 1161 [oR 17 0, oR 11 0, oR 12 0, oI l3] [aI (h90.1 17 0 (l3 + (5 : Int32)).toNatClampNeg), aI (h90.1 17 0 (l3 + (4 : Int32)).toNatClampNeg), aI (h90.1 17 0 (l3 + (3 : Int32)).toNatClampNeg), aI (h90.1 17 0 (l3 + (2 : Int32)).toNatClampNeg), aI (h90.1 17 0 (l3 + (1 : Int32)).toNatClampNeg), aR 12 0, aI v89] (sh_E h90)
        have c := sh_okG H
        replace H := sh_okH H
        refine ai_WP_steps mc_L (sh_CM d) 5 (And.intro c ?_)
        show wq_L d Q 1167 [oR 17 0, oR 11 0, oR 12 0, oI l3] [aI (h90.1 17 0 (l3 + (6 : Int32)).toNatClampNeg), aI (h90.1 17 0 (l3 + (5 : Int32)).toNatClampNeg), aI (h90.1 17 0 (l3 + (4 : Int32)).toNatClampNeg), aI (h90.1 17 0 (l3 + (3 : Int32)).toNatClampNeg), aI (h90.1 17 0 (l3 + (2 : Int32)).toNatClampNeg), aI (h90.1 17 0 (l3 + (1 : Int32)).toNatClampNeg), aR 12 0, aI v89] (sh_E h90)
        refine ai_WP_steps mc_L (sh_CM d) 1 (And.intro (Nat.le_of_ble_eq_true rfl) (x_M_order N (Nat.le_trans (Nat.le_of_ble_eq_true rfl) hd) (h90.1 17 0 (l3 + (1 : Int32)).toNatClampNeg) (h90.1 17 0 (l3 + (2 : Int32)).toNatClampNeg) (h90.1 17 0 (l3 + (3 : Int32)).toNatClampNeg) (h90.1 17 0 (l3 + (4 : Int32)).toNatClampNeg) (h90.1 17 0 (l3 + (5 : Int32)).toNatClampNeg) (h90.1 17 0 (l3 + (6 : Int32)).toNatClampNeg) h90 (sh_okB H) (fun v91 h92 H => ?_)))
        show wq_L d Q 1170 [oR 17 0, oR 11 0, oR 12 0, oI l3] [aI v91, aI v89] (sh_E h92)
        refine ai_WP_steps mc_L (sh_CM d) 1 (And.intro (fun c => ?_) (fun c => ?_))
        · replace H := sh_okT c H
          exact x_law_b2107 N hd hR k18 hk18 l3 h92 H
        · replace H := sh_okF c H
          show wq_L d Q 1173 [oR 17 0, oR 11 0, oR 12 0, oI l3] [] (sh_E h92)
          exact ai_WP_steps mc_L (sh_CM d) 2 (hR (ai_nar 1 (0 : Int32)) h92 H)
      replace H := sh_okF c H
      refine And.intro (fun c => ?_) (fun c => ?_)
      · replace H := sh_okT c H
        show wq_L d Q 1175 [oR 17 0, oR 11 0, oR 12 0, oI l3] [] (sh_E h)
        have c := sh_okG H
        replace H := sh_okH H
        refine ai_WP_steps mc_L (sh_CM d) 6 (And.intro c ?_)
        show wq_L d Q 1181 [oR 17 0, oR 11 0, oR 12 0, oI l3] [aI (h.1 17 0 (l3 + (1 : Int32)).toNatClampNeg), aR 11 0] (sh_E h)
        have c := sh_okG H
        replace H := sh_okH H
        refine ai_WP_steps mc_L (sh_CM d) 5 (And.intro c ?_)
        show wq_L d Q 1186 [oR 17 0, oR 11 0, oR 12 0, oI l3] [aI (h.1 17 0 (l3 + (2 : Int32)).toNatClampNeg), aI (h.1 17 0 (l3 + (1 : Int32)).toNatClampNeg), aR 11 0] (sh_E h)
        have c := sh_okG H
        replace H := sh_okH H
        refine ai_WP_steps mc_L (sh_CM d) 5 (And.intro c ?_)
        show wq_L d Q 1191 [oR 17 0, oR 11 0, oR 12 0, oI l3] [aI (h.1 17 0 (l3 + (3 : Int32)).toNatClampNeg), aI (h.1 17 0 (l3 + (2 : Int32)).toNatClampNeg), aI (h.1 17 0 (l3 + (1 : Int32)).toNatClampNeg), aR 11 0] (sh_E h)
        have c := sh_okG H
        replace H := sh_okH H
        refine ai_WP_steps mc_L (sh_CM d) 5 (And.intro c ?_)
        show wq_L d Q 1196 [oR 17 0, oR 11 0, oR 12 0, oI l3] [aI (h.1 17 0 (l3 + (4 : Int32)).toNatClampNeg), aI (h.1 17 0 (l3 + (3 : Int32)).toNatClampNeg), aI (h.1 17 0 (l3 + (2 : Int32)).toNatClampNeg), aI (h.1 17 0 (l3 + (1 : Int32)).toNatClampNeg), aR 11 0] (sh_E h)
        have c := sh_okG H
        replace H := sh_okH H
        refine ai_WP_steps mc_L (sh_CM d) 5 (And.intro c ?_)
        show wq_L d Q 1201 [oR 17 0, oR 11 0, oR 12 0, oI l3] [aI (h.1 17 0 (l3 + (5 : Int32)).toNatClampNeg), aI (h.1 17 0 (l3 + (4 : Int32)).toNatClampNeg), aI (h.1 17 0 (l3 + (3 : Int32)).toNatClampNeg), aI (h.1 17 0 (l3 + (2 : Int32)).toNatClampNeg), aI (h.1 17 0 (l3 + (1 : Int32)).toNatClampNeg), aR 11 0] (sh_E h)
        have c := sh_okG H
        replace H := sh_okH H
        refine ai_WP_steps mc_L (sh_CM d) 5 (And.intro c ?_)
        show wq_L d Q 1207 [oR 17 0, oR 11 0, oR 12 0, oI l3] [aI (h.1 17 0 (l3 + (6 : Int32)).toNatClampNeg), aI (h.1 17 0 (l3 + (5 : Int32)).toNatClampNeg), aI (h.1 17 0 (l3 + (4 : Int32)).toNatClampNeg), aI (h.1 17 0 (l3 + (3 : Int32)).toNatClampNeg), aI (h.1 17 0 (l3 + (2 : Int32)).toNatClampNeg), aI (h.1 17 0 (l3 + (1 : Int32)).toNatClampNeg), aR 11 0] (sh_E h)
        refine ai_WP_steps mc_L (sh_CM d) 1 (And.intro (Nat.le_of_ble_eq_true rfl) (x_CB_price N (Nat.le_trans (Nat.le_of_ble_eq_true rfl) hd) (h.1 17 0 (l3 + (1 : Int32)).toNatClampNeg) (h.1 17 0 (l3 + (2 : Int32)).toNatClampNeg) (h.1 17 0 (l3 + (3 : Int32)).toNatClampNeg) (h.1 17 0 (l3 + (4 : Int32)).toNatClampNeg) (h.1 17 0 (l3 + (5 : Int32)).toNatClampNeg) (h.1 17 0 (l3 + (6 : Int32)).toNatClampNeg) h (sh_okB H) (fun v93 h94 H => ?_)))
        show wq_L d Q 1210 [oR 17 0, oR 11 0, oR 12 0, oI l3] [aL v93] (sh_E h94)
        have c := sh_okG H
        replace H := sh_okH H
        refine ai_WP_steps mc_L (sh_CM d) 6 (And.intro c ?_)
        show wq_L d Q 1216 [oR 17 0, oR 11 0, oR 12 0, oI l3] [aI (h94.1 17 0 (l3 + (1 : Int32)).toNatClampNeg), aR 12 0, aL v93] (sh_E h94)
        have c := sh_okG H
        replace H := sh_okH H
        refine ai_WP_steps mc_L (sh_CM d) 5 (And.intro c ?_)
        show wq_L d Q 1221 [oR 17 0, oR 11 0, oR 12 0, oI l3] [aI (h94.1 17 0 (l3 + (2 : Int32)).toNatClampNeg), aI (h94.1 17 0 (l3 + (1 : Int32)).toNatClampNeg), aR 12 0, aL v93] (sh_E h94)
        have c := sh_okG H
        replace H := sh_okH H
        refine ai_WP_steps mc_L (sh_CM d) 5 (And.intro c ?_)
        show wq_L d Q 1226 [oR 17 0, oR 11 0, oR 12 0, oI l3] [aI (h94.1 17 0 (l3 + (3 : Int32)).toNatClampNeg), aI (h94.1 17 0 (l3 + (2 : Int32)).toNatClampNeg), aI (h94.1 17 0 (l3 + (1 : Int32)).toNatClampNeg), aR 12 0, aL v93] (sh_E h94)
        have c := sh_okG H
        replace H := sh_okH H
        refine ai_WP_steps mc_L (sh_CM d) 5 (And.intro c ?_)
        show wq_L d Q 1231 [oR 17 0, oR 11 0, oR 12 0, oI l3] [aI (h94.1 17 0 (l3 + (4 : Int32)).toNatClampNeg), aI (h94.1 17 0 (l3 + (3 : Int32)).toNatClampNeg), aI (h94.1 17 0 (l3 + (2 : Int32)).toNatClampNeg), aI (h94.1 17 0 (l3 + (1 : Int32)).toNatClampNeg), aR 12 0, aL v93] (sh_E h94)
        have c := sh_okG H
        replace H := sh_okH H
        refine ai_WP_steps mc_L (sh_CM d) 5 (And.intro c ?_)
        show wq_L d Q 1236 [oR 17 0, oR 11 0, oR 12 0, oI l3] [aI (h94.1 17 0 (l3 + (5 : Int32)).toNatClampNeg), aI (h94.1 17 0 (l3 + (4 : Int32)).toNatClampNeg), aI (h94.1 17 0 (l3 + (3 : Int32)).toNatClampNeg), aI (h94.1 17 0 (l3 + (2 : Int32)).toNatClampNeg), aI (h94.1 17 0 (l3 + (1 : Int32)).toNatClampNeg), aR 12 0, aL v93] (sh_E h94)
        have c := sh_okG H
        replace H := sh_okH H
        refine ai_WP_steps mc_L (sh_CM d) 5 (And.intro c ?_)
        show wq_L d Q 1242 [oR 17 0, oR 11 0, oR 12 0, oI l3] [aI (h94.1 17 0 (l3 + (6 : Int32)).toNatClampNeg), aI (h94.1 17 0 (l3 + (5 : Int32)).toNatClampNeg), aI (h94.1 17 0 (l3 + (4 : Int32)).toNatClampNeg), aI (h94.1 17 0 (l3 + (3 : Int32)).toNatClampNeg), aI (h94.1 17 0 (l3 + (2 : Int32)).toNatClampNeg), aI (h94.1 17 0 (l3 + (1 : Int32)).toNatClampNeg), aR 12 0, aL v93] (sh_E h94)
        refine ai_WP_steps mc_L (sh_CM d) 1 (And.intro (Nat.le_of_ble_eq_true rfl) (x_M_price N (Nat.le_trans (Nat.le_of_ble_eq_true rfl) hd) (h94.1 17 0 (l3 + (1 : Int32)).toNatClampNeg) (h94.1 17 0 (l3 + (2 : Int32)).toNatClampNeg) (h94.1 17 0 (l3 + (3 : Int32)).toNatClampNeg) (h94.1 17 0 (l3 + (4 : Int32)).toNatClampNeg) (h94.1 17 0 (l3 + (5 : Int32)).toNatClampNeg) (h94.1 17 0 (l3 + (6 : Int32)).toNatClampNeg) h94 (sh_okB H) (fun v95 h96 H => ?_)))
        show wq_L d Q 1245 [oR 17 0, oR 11 0, oR 12 0, oI l3] [aL v95, aL v93] (sh_E h96)
        refine ai_WP_steps mc_L (sh_CM d) 2 (And.intro (fun c => ?_) (fun c => ?_))
        · replace H := sh_okT c H
          exact x_law_b2107 N hd hR k18 hk18 l3 h96 H
        · replace H := sh_okF c H
          show wq_L d Q 1249 [oR 17 0, oR 11 0, oR 12 0, oI l3] [] (sh_E h96)
          exact ai_WP_steps mc_L (sh_CM d) 2 (hR (ai_nar 1 (0 : Int32)) h96 H)
      replace H := sh_okF c H
      refine And.intro (fun c => ?_) (fun c => ?_)
      · replace H := sh_okT c H
        show wq_L d Q 1251 [oR 17 0, oR 11 0, oR 12 0, oI l3] [] (sh_E h)
        have c := sh_okG H
        replace H := sh_okH H
        refine ai_WP_steps mc_L (sh_CM d) 6 (And.intro c ?_)
        show wq_L d Q 1257 [oR 17 0, oR 11 0, oR 12 0, oI l3] [aI (h.1 17 0 (l3 + (1 : Int32)).toNatClampNeg), aR 11 0] (sh_E h)
        have c := sh_okG H
        replace H := sh_okH H
        refine ai_WP_steps mc_L (sh_CM d) 5 (And.intro c ?_)
        show wq_L d Q 1262 [oR 17 0, oR 11 0, oR 12 0, oI l3] [aI (h.1 17 0 (l3 + (2 : Int32)).toNatClampNeg), aI (h.1 17 0 (l3 + (1 : Int32)).toNatClampNeg), aR 11 0] (sh_E h)
        have c := sh_okG H
        replace H := sh_okH H
        refine ai_WP_steps mc_L (sh_CM d) 5 (And.intro c ?_)
        show wq_L d Q 1267 [oR 17 0, oR 11 0, oR 12 0, oI l3] [aI (h.1 17 0 (l3 + (3 : Int32)).toNatClampNeg), aI (h.1 17 0 (l3 + (2 : Int32)).toNatClampNeg), aI (h.1 17 0 (l3 + (1 : Int32)).toNatClampNeg), aR 11 0] (sh_E h)
        refine ai_WP_steps mc_L (sh_CM d) 1 (And.intro (Nat.le_of_ble_eq_true rfl) (x_CB_pool N (Nat.le_trans (Nat.le_of_ble_eq_true rfl) hd) (h.1 17 0 (l3 + (1 : Int32)).toNatClampNeg) (h.1 17 0 (l3 + (2 : Int32)).toNatClampNeg) (h.1 17 0 (l3 + (3 : Int32)).toNatClampNeg) h (sh_okB H) (fun v97 h98 H => ?_)))
        show wq_L d Q 1270 [oR 17 0, oR 11 0, oR 12 0, oI l3] [aI v97] (sh_E h98)
        have c := sh_okG H
        replace H := sh_okH H
        refine ai_WP_steps mc_L (sh_CM d) 6 (And.intro c ?_)
        show wq_L d Q 1276 [oR 17 0, oR 11 0, oR 12 0, oI l3] [aI (h98.1 17 0 (l3 + (1 : Int32)).toNatClampNeg), aR 12 0, aI v97] (sh_E h98)
        have c := sh_okG H
        replace H := sh_okH H
        refine ai_WP_steps mc_L (sh_CM d) 5 (And.intro c ?_)
        show wq_L d Q 1281 [oR 17 0, oR 11 0, oR 12 0, oI l3] [aI (h98.1 17 0 (l3 + (2 : Int32)).toNatClampNeg), aI (h98.1 17 0 (l3 + (1 : Int32)).toNatClampNeg), aR 12 0, aI v97] (sh_E h98)
        have c := sh_okG H
        replace H := sh_okH H
        refine ai_WP_steps mc_L (sh_CM d) 5 (And.intro c ?_)
        show wq_L d Q 1286 [oR 17 0, oR 11 0, oR 12 0, oI l3] [aI (h98.1 17 0 (l3 + (3 : Int32)).toNatClampNeg), aI (h98.1 17 0 (l3 + (2 : Int32)).toNatClampNeg), aI (h98.1 17 0 (l3 + (1 : Int32)).toNatClampNeg), aR 12 0, aI v97] (sh_E h98)
        refine ai_WP_steps mc_L (sh_CM d) 1 (And.intro (Nat.le_of_ble_eq_true rfl) (x_M_pool N (Nat.le_trans (Nat.le_of_ble_eq_true rfl) hd) (h98.1 17 0 (l3 + (1 : Int32)).toNatClampNeg) (h98.1 17 0 (l3 + (2 : Int32)).toNatClampNeg) (h98.1 17 0 (l3 + (3 : Int32)).toNatClampNeg) h98 (sh_okB H) (fun v99 h100 H => ?_)))
        show wq_L d Q 1289 [oR 17 0, oR 11 0, oR 12 0, oI l3] [aI v99, aI v97] (sh_E h100)
        refine ai_WP_steps mc_L (sh_CM d) 1 (And.intro (fun c => ?_) (fun c => ?_))
        · replace H := sh_okT c H
          exact x_law_b2107 N hd hR k18 hk18 l3 h100 H
        · replace H := sh_okF c H
          show wq_L d Q 1292 [oR 17 0, oR 11 0, oR 12 0, oI l3] [] (sh_E h100)
          exact ai_WP_steps mc_L (sh_CM d) 2 (hR (ai_nar 1 (0 : Int32)) h100 H)
      replace H := sh_okF c H
      refine And.intro (fun c => ?_) (fun c => ?_)
      · replace H := sh_okT c H
        show wq_L d Q 1294 [oR 17 0, oR 11 0, oR 12 0, oI l3] [] (sh_E h)
        have c := sh_okG H
        replace H := sh_okH H
        refine ai_WP_steps mc_L (sh_CM d) 6 (And.intro c ?_)
        show wq_L d Q 1300 [oR 17 0, oR 11 0, oR 12 0, oI l3] [aI (h.1 17 0 (l3 + (1 : Int32)).toNatClampNeg), aR 11 0] (sh_E h)
        have c := sh_okG H
        replace H := sh_okH H
        refine ai_WP_steps mc_L (sh_CM d) 5 (And.intro c ?_)
        show wq_L d Q 1305 [oR 17 0, oR 11 0, oR 12 0, oI l3] [aI (h.1 17 0 (l3 + (2 : Int32)).toNatClampNeg), aI (h.1 17 0 (l3 + (1 : Int32)).toNatClampNeg), aR 11 0] (sh_E h)
        have c := sh_okG H
        replace H := sh_okH H
        refine ai_WP_steps mc_L (sh_CM d) 5 (And.intro c ?_)
        show wq_L d Q 1310 [oR 17 0, oR 11 0, oR 12 0, oI l3] [aI (h.1 17 0 (l3 + (3 : Int32)).toNatClampNeg), aI (h.1 17 0 (l3 + (2 : Int32)).toNatClampNeg), aI (h.1 17 0 (l3 + (1 : Int32)).toNatClampNeg), aR 11 0] (sh_E h)
        refine ai_WP_steps mc_L (sh_CM d) 1 (And.intro (Nat.le_of_ble_eq_true rfl) (x_CB_saved N (Nat.le_trans (Nat.le_of_ble_eq_true rfl) hd) (h.1 17 0 (l3 + (1 : Int32)).toNatClampNeg) (h.1 17 0 (l3 + (2 : Int32)).toNatClampNeg) (h.1 17 0 (l3 + (3 : Int32)).toNatClampNeg) h (sh_okB H) (fun v101 h102 H => ?_)))
        show wq_L d Q 1313 [oR 17 0, oR 11 0, oR 12 0, oI l3] [aI v101] (sh_E h102)
        have c := sh_okG H
        replace H := sh_okH H
        refine ai_WP_steps mc_L (sh_CM d) 6 (And.intro c ?_)
        show wq_L d Q 1319 [oR 17 0, oR 11 0, oR 12 0, oI l3] [aI (h102.1 17 0 (l3 + (1 : Int32)).toNatClampNeg), aR 12 0, aI v101] (sh_E h102)
        have c := sh_okG H
        replace H := sh_okH H
        refine ai_WP_steps mc_L (sh_CM d) 5 (And.intro c ?_)
        show wq_L d Q 1324 [oR 17 0, oR 11 0, oR 12 0, oI l3] [aI (h102.1 17 0 (l3 + (2 : Int32)).toNatClampNeg), aI (h102.1 17 0 (l3 + (1 : Int32)).toNatClampNeg), aR 12 0, aI v101] (sh_E h102)
        have c := sh_okG H
        replace H := sh_okH H
        refine ai_WP_steps mc_L (sh_CM d) 5 (And.intro c ?_)
        show wq_L d Q 1329 [oR 17 0, oR 11 0, oR 12 0, oI l3] [aI (h102.1 17 0 (l3 + (3 : Int32)).toNatClampNeg), aI (h102.1 17 0 (l3 + (2 : Int32)).toNatClampNeg), aI (h102.1 17 0 (l3 + (1 : Int32)).toNatClampNeg), aR 12 0, aI v101] (sh_E h102)
        refine ai_WP_steps mc_L (sh_CM d) 1 (And.intro (Nat.le_of_ble_eq_true rfl) (x_M_saved N (Nat.le_trans (Nat.le_of_ble_eq_true rfl) hd) (h102.1 17 0 (l3 + (1 : Int32)).toNatClampNeg) (h102.1 17 0 (l3 + (2 : Int32)).toNatClampNeg) (h102.1 17 0 (l3 + (3 : Int32)).toNatClampNeg) h102 (sh_okB H) (fun v103 h104 H => ?_)))
        show wq_L d Q 1332 [oR 17 0, oR 11 0, oR 12 0, oI l3] [aI v103, aI v101] (sh_E h104)
        refine ai_WP_steps mc_L (sh_CM d) 1 (And.intro (fun c => ?_) (fun c => ?_))
        · replace H := sh_okT c H
          exact x_law_b2107 N hd hR k18 hk18 l3 h104 H
        · replace H := sh_okF c H
          show wq_L d Q 1335 [oR 17 0, oR 11 0, oR 12 0, oI l3] [] (sh_E h104)
          exact ai_WP_steps mc_L (sh_CM d) 2 (hR (ai_nar 1 (0 : Int32)) h104 H)
      replace H := sh_okF c H
      refine And.intro (fun c => ?_) (fun c => ?_)
      · replace H := sh_okT c H
        show wq_L d Q 1337 [oR 17 0, oR 11 0, oR 12 0, oI l3] [] (sh_E h)
        have c := sh_okG H
        replace H := sh_okH H
        refine ai_WP_steps mc_L (sh_CM d) 6 (And.intro c ?_)
        show wq_L d Q 1343 [oR 17 0, oR 11 0, oR 12 0, oI l3] [aI (h.1 17 0 (l3 + (1 : Int32)).toNatClampNeg), aR 11 0] (sh_E h)
        have c := sh_okG H
        replace H := sh_okH H
        refine ai_WP_steps mc_L (sh_CM d) 5 (And.intro c ?_)
        show wq_L d Q 1348 [oR 17 0, oR 11 0, oR 12 0, oI l3] [aI (h.1 17 0 (l3 + (2 : Int32)).toNatClampNeg), aI (h.1 17 0 (l3 + (1 : Int32)).toNatClampNeg), aR 11 0] (sh_E h)
        have c := sh_okG H
        replace H := sh_okH H
        refine ai_WP_steps mc_L (sh_CM d) 5 (And.intro c ?_)
        show wq_L d Q 1353 [oR 17 0, oR 11 0, oR 12 0, oI l3] [aI (h.1 17 0 (l3 + (3 : Int32)).toNatClampNeg), aI (h.1 17 0 (l3 + (2 : Int32)).toNatClampNeg), aI (h.1 17 0 (l3 + (1 : Int32)).toNatClampNeg), aR 11 0] (sh_E h)
        have c := sh_okG H
        replace H := sh_okH H
        refine ai_WP_steps mc_L (sh_CM d) 5 (And.intro c ?_)
        show wq_L d Q 1358 [oR 17 0, oR 11 0, oR 12 0, oI l3] [aI (h.1 17 0 (l3 + (4 : Int32)).toNatClampNeg), aI (h.1 17 0 (l3 + (3 : Int32)).toNatClampNeg), aI (h.1 17 0 (l3 + (2 : Int32)).toNatClampNeg), aI (h.1 17 0 (l3 + (1 : Int32)).toNatClampNeg), aR 11 0] (sh_E h)
        have c := sh_okG H
        replace H := sh_okH H
        refine ai_WP_steps mc_L (sh_CM d) 5 (And.intro c ?_)
        show wq_L d Q 1363 [oR 17 0, oR 11 0, oR 12 0, oI l3] [aI (h.1 17 0 (l3 + (5 : Int32)).toNatClampNeg), aI (h.1 17 0 (l3 + (4 : Int32)).toNatClampNeg), aI (h.1 17 0 (l3 + (3 : Int32)).toNatClampNeg), aI (h.1 17 0 (l3 + (2 : Int32)).toNatClampNeg), aI (h.1 17 0 (l3 + (1 : Int32)).toNatClampNeg), aR 11 0] (sh_E h)
        have c := sh_okG H
        replace H := sh_okH H
        refine ai_WP_steps mc_L (sh_CM d) 5 (And.intro c ?_)
        show wq_L d Q 1369 [oR 17 0, oR 11 0, oR 12 0, oI l3] [aI (h.1 17 0 (l3 + (6 : Int32)).toNatClampNeg), aI (h.1 17 0 (l3 + (5 : Int32)).toNatClampNeg), aI (h.1 17 0 (l3 + (4 : Int32)).toNatClampNeg), aI (h.1 17 0 (l3 + (3 : Int32)).toNatClampNeg), aI (h.1 17 0 (l3 + (2 : Int32)).toNatClampNeg), aI (h.1 17 0 (l3 + (1 : Int32)).toNatClampNeg), aR 11 0] (sh_E h)
        refine ai_WP_steps mc_L (sh_CM d) 1 (And.intro (Nat.le_of_ble_eq_true rfl) (x_CB_holds N (Nat.le_trans (Nat.le_of_ble_eq_true rfl) hd) (h.1 17 0 (l3 + (1 : Int32)).toNatClampNeg) (h.1 17 0 (l3 + (2 : Int32)).toNatClampNeg) (h.1 17 0 (l3 + (3 : Int32)).toNatClampNeg) (h.1 17 0 (l3 + (4 : Int32)).toNatClampNeg) (h.1 17 0 (l3 + (5 : Int32)).toNatClampNeg) (h.1 17 0 (l3 + (6 : Int32)).toNatClampNeg) h (sh_okB H) (fun v105 h106 H => ?_)))
        show wq_L d Q 1372 [oR 17 0, oR 11 0, oR 12 0, oI l3] [aI v105] (sh_E h106)
        have c := sh_okG H
        replace H := sh_okH H
        refine ai_WP_steps mc_L (sh_CM d) 6 (And.intro c ?_)
        show wq_L d Q 1378 [oR 17 0, oR 11 0, oR 12 0, oI l3] [aI (h106.1 17 0 (l3 + (1 : Int32)).toNatClampNeg), aR 12 0, aI v105] (sh_E h106)
        have c := sh_okG H
        replace H := sh_okH H
        refine ai_WP_steps mc_L (sh_CM d) 5 (And.intro c ?_)
        show wq_L d Q 1383 [oR 17 0, oR 11 0, oR 12 0, oI l3] [aI (h106.1 17 0 (l3 + (2 : Int32)).toNatClampNeg), aI (h106.1 17 0 (l3 + (1 : Int32)).toNatClampNeg), aR 12 0, aI v105] (sh_E h106)
        have c := sh_okG H
        replace H := sh_okH H
        refine ai_WP_steps mc_L (sh_CM d) 5 (And.intro c ?_)
        show wq_L d Q 1388 [oR 17 0, oR 11 0, oR 12 0, oI l3] [aI (h106.1 17 0 (l3 + (3 : Int32)).toNatClampNeg), aI (h106.1 17 0 (l3 + (2 : Int32)).toNatClampNeg), aI (h106.1 17 0 (l3 + (1 : Int32)).toNatClampNeg), aR 12 0, aI v105] (sh_E h106)
        have c := sh_okG H
        replace H := sh_okH H
        refine ai_WP_steps mc_L (sh_CM d) 5 (And.intro c ?_)
        show wq_L d Q 1393 [oR 17 0, oR 11 0, oR 12 0, oI l3] [aI (h106.1 17 0 (l3 + (4 : Int32)).toNatClampNeg), aI (h106.1 17 0 (l3 + (3 : Int32)).toNatClampNeg), aI (h106.1 17 0 (l3 + (2 : Int32)).toNatClampNeg), aI (h106.1 17 0 (l3 + (1 : Int32)).toNatClampNeg), aR 12 0, aI v105] (sh_E h106)
        have c := sh_okG H
        replace H := sh_okH H
        refine ai_WP_steps mc_L (sh_CM d) 5 (And.intro c ?_)
        show wq_L d Q 1398 [oR 17 0, oR 11 0, oR 12 0, oI l3] [aI (h106.1 17 0 (l3 + (5 : Int32)).toNatClampNeg), aI (h106.1 17 0 (l3 + (4 : Int32)).toNatClampNeg), aI (h106.1 17 0 (l3 + (3 : Int32)).toNatClampNeg), aI (h106.1 17 0 (l3 + (2 : Int32)).toNatClampNeg), aI (h106.1 17 0 (l3 + (1 : Int32)).toNatClampNeg), aR 12 0, aI v105] (sh_E h106)
        have c := sh_okG H
        replace H := sh_okH H
        refine ai_WP_steps mc_L (sh_CM d) 5 (And.intro c ?_)
        show wq_L d Q 1404 [oR 17 0, oR 11 0, oR 12 0, oI l3] [aI (h106.1 17 0 (l3 + (6 : Int32)).toNatClampNeg), aI (h106.1 17 0 (l3 + (5 : Int32)).toNatClampNeg), aI (h106.1 17 0 (l3 + (4 : Int32)).toNatClampNeg), aI (h106.1 17 0 (l3 + (3 : Int32)).toNatClampNeg), aI (h106.1 17 0 (l3 + (2 : Int32)).toNatClampNeg), aI (h106.1 17 0 (l3 + (1 : Int32)).toNatClampNeg), aR 12 0, aI v105] (sh_E h106)
        refine ai_WP_steps mc_L (sh_CM d) 1 (And.intro (Nat.le_of_ble_eq_true rfl) (x_M_holds N (Nat.le_trans (Nat.le_of_ble_eq_true rfl) hd) (h106.1 17 0 (l3 + (1 : Int32)).toNatClampNeg) (h106.1 17 0 (l3 + (2 : Int32)).toNatClampNeg) (h106.1 17 0 (l3 + (3 : Int32)).toNatClampNeg) (h106.1 17 0 (l3 + (4 : Int32)).toNatClampNeg) (h106.1 17 0 (l3 + (5 : Int32)).toNatClampNeg) (h106.1 17 0 (l3 + (6 : Int32)).toNatClampNeg) h106 (sh_okB H) (fun v107 h108 H => ?_)))
        show wq_L d Q 1407 [oR 17 0, oR 11 0, oR 12 0, oI l3] [aI v107, aI v105] (sh_E h108)
        refine ai_WP_steps mc_L (sh_CM d) 1 (And.intro (fun c => ?_) (fun c => ?_))
        · replace H := sh_okT c H
          exact x_law_b2107 N hd hR k18 hk18 l3 h108 H
        · replace H := sh_okF c H
          show wq_L d Q 1410 [oR 17 0, oR 11 0, oR 12 0, oI l3] [] (sh_E h108)
          exact ai_WP_steps mc_L (sh_CM d) 2 (hR (ai_nar 1 (0 : Int32)) h108 H)
      replace H := sh_okF c H
      refine And.intro (fun c => ?_) (fun c => ?_)
      · replace H := sh_okT c H
        show wq_L d Q 1412 [oR 17 0, oR 11 0, oR 12 0, oI l3] [] (sh_E h)
        have c := sh_okG H
        replace H := sh_okH H
        refine ai_WP_steps mc_L (sh_CM d) 6 (And.intro c ?_)
        show wq_L d Q 1418 [oR 17 0, oR 11 0, oR 12 0, oI l3] [aI (h.1 17 0 (l3 + (1 : Int32)).toNatClampNeg), aR 11 0] (sh_E h)
        have c := sh_okG H
        replace H := sh_okH H
        refine ai_WP_steps mc_L (sh_CM d) 5 (And.intro c ?_)
        show wq_L d Q 1423 [oR 17 0, oR 11 0, oR 12 0, oI l3] [aI (h.1 17 0 (l3 + (2 : Int32)).toNatClampNeg), aI (h.1 17 0 (l3 + (1 : Int32)).toNatClampNeg), aR 11 0] (sh_E h)
        have c := sh_okG H
        replace H := sh_okH H
        refine ai_WP_steps mc_L (sh_CM d) 5 (And.intro c ?_)
        show wq_L d Q 1428 [oR 17 0, oR 11 0, oR 12 0, oI l3] [aI (h.1 17 0 (l3 + (3 : Int32)).toNatClampNeg), aI (h.1 17 0 (l3 + (2 : Int32)).toNatClampNeg), aI (h.1 17 0 (l3 + (1 : Int32)).toNatClampNeg), aR 11 0] (sh_E h)
        have c := sh_okG H
        replace H := sh_okH H
        refine ai_WP_steps mc_L (sh_CM d) 5 (And.intro c ?_)
        show wq_L d Q 1433 [oR 17 0, oR 11 0, oR 12 0, oI l3] [aI (h.1 17 0 (l3 + (4 : Int32)).toNatClampNeg), aI (h.1 17 0 (l3 + (3 : Int32)).toNatClampNeg), aI (h.1 17 0 (l3 + (2 : Int32)).toNatClampNeg), aI (h.1 17 0 (l3 + (1 : Int32)).toNatClampNeg), aR 11 0] (sh_E h)
        refine ai_WP_steps mc_L (sh_CM d) 1 (And.intro (fun c => ?_) (fun c => ?_))
        · replace H := sh_okT c H
          show wq_L d Q 1440 [oR 17 0, oR 11 0, oR 12 0, oI l3] [aI (h.1 17 0 (l3 + (3 : Int32)).toNatClampNeg), aI (h.1 17 0 (l3 + (2 : Int32)).toNatClampNeg), aI (h.1 17 0 (l3 + (1 : Int32)).toNatClampNeg), aR 11 0] (sh_E h)
          refine ai_WP_steps mc_L (sh_CM d) 1 ?_
          exact x_law_b1441 N hd hR k18 hk18 l3 (h.1 17 0 (l3 + (1 : Int32)).toNatClampNeg) (h.1 17 0 (l3 + (2 : Int32)).toNatClampNeg) (h.1 17 0 (l3 + (3 : Int32)).toNatClampNeg) (0 : Int32) h H
        · replace H := sh_okF c H
          show wq_L d Q 1436 [oR 17 0, oR 11 0, oR 12 0, oI l3] [aI (h.1 17 0 (l3 + (3 : Int32)).toNatClampNeg), aI (h.1 17 0 (l3 + (2 : Int32)).toNatClampNeg), aI (h.1 17 0 (l3 + (1 : Int32)).toNatClampNeg), aR 11 0] (sh_E h)
          refine ai_WP_steps mc_L (sh_CM d) 2 ?_
          exact x_law_b1441 N hd hR k18 hk18 l3 (h.1 17 0 (l3 + (1 : Int32)).toNatClampNeg) (h.1 17 0 (l3 + (2 : Int32)).toNatClampNeg) (h.1 17 0 (l3 + (3 : Int32)).toNatClampNeg) (1 : Int32) h H
      replace H := sh_okF c H
      refine And.intro (fun c => ?_) (fun c => ?_)
      · replace H := sh_okT c H
        show wq_L d Q 1481 [oR 17 0, oR 11 0, oR 12 0, oI l3] [] (sh_E h)
        have c := sh_okG H
        replace H := sh_okH H
        refine ai_WP_steps mc_L (sh_CM d) 6 (And.intro c ?_)
        show wq_L d Q 1487 [oR 17 0, oR 11 0, oR 12 0, oI l3] [aI (h.1 17 0 (l3 + (1 : Int32)).toNatClampNeg), aR 11 0] (sh_E h)
        have c := sh_okG H
        replace H := sh_okH H
        refine ai_WP_steps mc_L (sh_CM d) 5 (And.intro c ?_)
        show wq_L d Q 1492 [oR 17 0, oR 11 0, oR 12 0, oI l3] [aI (h.1 17 0 (l3 + (2 : Int32)).toNatClampNeg), aI (h.1 17 0 (l3 + (1 : Int32)).toNatClampNeg), aR 11 0] (sh_E h)
        have c := sh_okG H
        replace H := sh_okH H
        refine ai_WP_steps mc_L (sh_CM d) 5 (And.intro c ?_)
        show wq_L d Q 1497 [oR 17 0, oR 11 0, oR 12 0, oI l3] [aI (h.1 17 0 (l3 + (3 : Int32)).toNatClampNeg), aI (h.1 17 0 (l3 + (2 : Int32)).toNatClampNeg), aI (h.1 17 0 (l3 + (1 : Int32)).toNatClampNeg), aR 11 0] (sh_E h)
        refine ai_WP_steps mc_L (sh_CM d) 1 (And.intro (Nat.le_of_ble_eq_true rfl) (x_CB_looked N (Nat.le_trans (Nat.le_of_ble_eq_true rfl) hd) (h.1 17 0 (l3 + (1 : Int32)).toNatClampNeg) (h.1 17 0 (l3 + (2 : Int32)).toNatClampNeg) (h.1 17 0 (l3 + (3 : Int32)).toNatClampNeg) h (sh_okB H) (fun v109 h110 H => ?_)))
        show wq_L d Q 1500 [oR 17 0, oR 11 0, oR 12 0, oI l3] [aI v109] (sh_E h110)
        have c := sh_okG H
        replace H := sh_okH H
        refine ai_WP_steps mc_L (sh_CM d) 6 (And.intro c ?_)
        show wq_L d Q 1506 [oR 17 0, oR 11 0, oR 12 0, oI l3] [aI (h110.1 17 0 (l3 + (1 : Int32)).toNatClampNeg), aR 12 0, aI v109] (sh_E h110)
        have c := sh_okG H
        replace H := sh_okH H
        refine ai_WP_steps mc_L (sh_CM d) 5 (And.intro c ?_)
        show wq_L d Q 1511 [oR 17 0, oR 11 0, oR 12 0, oI l3] [aI (h110.1 17 0 (l3 + (2 : Int32)).toNatClampNeg), aI (h110.1 17 0 (l3 + (1 : Int32)).toNatClampNeg), aR 12 0, aI v109] (sh_E h110)
        have c := sh_okG H
        replace H := sh_okH H
        refine ai_WP_steps mc_L (sh_CM d) 5 (And.intro c ?_)
        show wq_L d Q 1516 [oR 17 0, oR 11 0, oR 12 0, oI l3] [aI (h110.1 17 0 (l3 + (3 : Int32)).toNatClampNeg), aI (h110.1 17 0 (l3 + (2 : Int32)).toNatClampNeg), aI (h110.1 17 0 (l3 + (1 : Int32)).toNatClampNeg), aR 12 0, aI v109] (sh_E h110)
        refine ai_WP_steps mc_L (sh_CM d) 1 (And.intro (Nat.le_of_ble_eq_true rfl) (x_M_looked (Nat.le_trans (Nat.le_of_ble_eq_true rfl) hd) (h110.1 17 0 (l3 + (1 : Int32)).toNatClampNeg) (h110.1 17 0 (l3 + (2 : Int32)).toNatClampNeg) (h110.1 17 0 (l3 + (3 : Int32)).toNatClampNeg) h110 (sh_okB H) (fun v111 h112 H => ?_)))
        show wq_L d Q 1519 [oR 17 0, oR 11 0, oR 12 0, oI l3] [aI v111, aI v109] (sh_E h112)
        refine ai_WP_steps mc_L (sh_CM d) 1 (And.intro (fun c => ?_) (fun c => ?_))
        · replace H := sh_okT c H
          exact x_law_b2107 N hd hR k18 hk18 l3 h112 H
        · replace H := sh_okF c H
          show wq_L d Q 1522 [oR 17 0, oR 11 0, oR 12 0, oI l3] [] (sh_E h112)
          exact ai_WP_steps mc_L (sh_CM d) 2 (hR (ai_nar 1 (0 : Int32)) h112 H)
      replace H := sh_okF c H
      refine And.intro (fun c => ?_) (fun c => ?_)
      · replace H := sh_okT c H
        show wq_L d Q 1524 [oR 17 0, oR 11 0, oR 12 0, oI l3] [] (sh_E h)
        have c := sh_okG H
        replace H := sh_okH H
        refine ai_WP_steps mc_L (sh_CM d) 6 (And.intro c ?_)
        show wq_L d Q 1530 [oR 17 0, oR 11 0, oR 12 0, oI l3] [aI (h.1 17 0 (l3 + (1 : Int32)).toNatClampNeg), aR 11 0] (sh_E h)
        refine ai_WP_steps mc_L (sh_CM d) 1 (And.intro (Nat.le_of_ble_eq_true rfl) (x_CB_annul N (Nat.le_trans (Nat.le_of_ble_eq_true rfl) hd) (h.1 17 0 (l3 + (1 : Int32)).toNatClampNeg) h (sh_okB H) (fun v113 h114 H => ?_)))
        show wq_L d Q 1533 [oR 17 0, oR 11 0, oR 12 0, oI l3] [aI v113] (sh_E h114)
        have c := sh_okG H
        replace H := sh_okH H
        refine ai_WP_steps mc_L (sh_CM d) 6 (And.intro c ?_)
        show wq_L d Q 1539 [oR 17 0, oR 11 0, oR 12 0, oI l3] [aI (h114.1 17 0 (l3 + (1 : Int32)).toNatClampNeg), aR 12 0, aI v113] (sh_E h114)
        refine ai_WP_steps mc_L (sh_CM d) 1 (And.intro (Nat.le_of_ble_eq_true rfl) (x_M_annul (Nat.le_trans (Nat.le_of_ble_eq_true rfl) hd) (h114.1 17 0 (l3 + (1 : Int32)).toNatClampNeg) h114 (sh_okB H) (fun v115 h116 H => ?_)))
        show wq_L d Q 1542 [oR 17 0, oR 11 0, oR 12 0, oI l3] [aI v115, aI v113] (sh_E h116)
        refine ai_WP_steps mc_L (sh_CM d) 1 (And.intro (fun c => ?_) (fun c => ?_))
        · replace H := sh_okT c H
          exact x_law_b2107 N hd hR k18 hk18 l3 h116 H
        · replace H := sh_okF c H
          show wq_L d Q 1545 [oR 17 0, oR 11 0, oR 12 0, oI l3] [] (sh_E h116)
          exact ai_WP_steps mc_L (sh_CM d) 2 (hR (ai_nar 1 (0 : Int32)) h116 H)
      replace H := sh_okF c H
      refine And.intro (fun c => ?_) (fun c => ?_)
      · replace H := sh_okT c H
        show wq_L d Q 1547 [oR 17 0, oR 11 0, oR 12 0, oI l3] [] (sh_E h)
        have c := sh_okG H
        replace H := sh_okH H
        refine ai_WP_steps mc_L (sh_CM d) 6 (And.intro c ?_)
        show wq_L d Q 1553 [oR 17 0, oR 11 0, oR 12 0, oI l3] [aI (h.1 17 0 (l3 + (1 : Int32)).toNatClampNeg), aR 11 0] (sh_E h)
        have c := sh_okG H
        replace H := sh_okH H
        refine ai_WP_steps mc_L (sh_CM d) 5 (And.intro c ?_)
        show wq_L d Q 1558 [oR 17 0, oR 11 0, oR 12 0, oI l3] [aI (h.1 17 0 (l3 + (2 : Int32)).toNatClampNeg), aI (h.1 17 0 (l3 + (1 : Int32)).toNatClampNeg), aR 11 0] (sh_E h)
        have c := sh_okG H
        replace H := sh_okH H
        refine ai_WP_steps mc_L (sh_CM d) 5 (And.intro c ?_)
        show wq_L d Q 1563 [oR 17 0, oR 11 0, oR 12 0, oI l3] [aI (h.1 17 0 (l3 + (3 : Int32)).toNatClampNeg), aI (h.1 17 0 (l3 + (2 : Int32)).toNatClampNeg), aI (h.1 17 0 (l3 + (1 : Int32)).toNatClampNeg), aR 11 0] (sh_E h)
        refine ai_WP_steps mc_L (sh_CM d) 1 (And.intro (Nat.le_of_ble_eq_true rfl) (x_CB_balance N (Nat.le_trans (Nat.le_of_ble_eq_true rfl) hd) (h.1 17 0 (l3 + (1 : Int32)).toNatClampNeg) (h.1 17 0 (l3 + (2 : Int32)).toNatClampNeg) (h.1 17 0 (l3 + (3 : Int32)).toNatClampNeg) h (sh_okB H) (fun v117 h118 H => ?_)))
        show wq_L d Q 1566 [oR 17 0, oR 11 0, oR 12 0, oI l3] [aI v117] (sh_E h118)
        have c := sh_okG H
        replace H := sh_okH H
        refine ai_WP_steps mc_L (sh_CM d) 6 (And.intro c ?_)
        show wq_L d Q 1572 [oR 17 0, oR 11 0, oR 12 0, oI l3] [aI (h118.1 17 0 (l3 + (1 : Int32)).toNatClampNeg), aR 12 0, aI v117] (sh_E h118)
        have c := sh_okG H
        replace H := sh_okH H
        refine ai_WP_steps mc_L (sh_CM d) 5 (And.intro c ?_)
        show wq_L d Q 1577 [oR 17 0, oR 11 0, oR 12 0, oI l3] [aI (h118.1 17 0 (l3 + (2 : Int32)).toNatClampNeg), aI (h118.1 17 0 (l3 + (1 : Int32)).toNatClampNeg), aR 12 0, aI v117] (sh_E h118)
        have c := sh_okG H
        replace H := sh_okH H
        refine ai_WP_steps mc_L (sh_CM d) 5 (And.intro c ?_)
        show wq_L d Q 1582 [oR 17 0, oR 11 0, oR 12 0, oI l3] [aI (h118.1 17 0 (l3 + (3 : Int32)).toNatClampNeg), aI (h118.1 17 0 (l3 + (2 : Int32)).toNatClampNeg), aI (h118.1 17 0 (l3 + (1 : Int32)).toNatClampNeg), aR 12 0, aI v117] (sh_E h118)
        refine ai_WP_steps mc_L (sh_CM d) 1 (And.intro (Nat.le_of_ble_eq_true rfl) (x_M_balance N (Nat.le_trans (Nat.le_of_ble_eq_true rfl) hd) (h118.1 17 0 (l3 + (1 : Int32)).toNatClampNeg) (h118.1 17 0 (l3 + (2 : Int32)).toNatClampNeg) (h118.1 17 0 (l3 + (3 : Int32)).toNatClampNeg) h118 (sh_okB H) (fun v119 H => ?_)))
        show wq_L d Q 1585 [oR 17 0, oR 11 0, oR 12 0, oI l3] [aI v119, aI v117] (sh_E h118)
        refine ai_WP_steps mc_L (sh_CM d) 1 (And.intro (fun c => ?_) (fun c => ?_))
        · replace H := sh_okT c H
          exact x_law_b2107 N hd hR k18 hk18 l3 h118 H
        · replace H := sh_okF c H
          show wq_L d Q 1588 [oR 17 0, oR 11 0, oR 12 0, oI l3] [] (sh_E h118)
          exact ai_WP_steps mc_L (sh_CM d) 2 (hR (ai_nar 1 (0 : Int32)) h118 H)
      replace H := sh_okF c H
      refine And.intro (fun c => ?_) (fun c => ?_)
      · replace H := sh_okT c H
        show wq_L d Q 1590 [oR 17 0, oR 11 0, oR 12 0, oI l3] [] (sh_E h)
        have c := sh_okG H
        replace H := sh_okH H
        refine ai_WP_steps mc_L (sh_CM d) 6 (And.intro c ?_)
        show wq_L d Q 1596 [oR 17 0, oR 11 0, oR 12 0, oI l3] [aI (h.1 17 0 (l3 + (1 : Int32)).toNatClampNeg), aR 11 0] (sh_E h)
        refine ai_WP_steps mc_L (sh_CM d) 1 (And.intro (Nat.le_of_ble_eq_true rfl) (x_CB_richest N (Nat.le_trans (Nat.le_of_ble_eq_true rfl) hd) (h.1 17 0 (l3 + (1 : Int32)).toNatClampNeg) h (sh_okB H) (fun v120 h121 H => ?_)))
        show wq_L d Q 1599 [oR 17 0, oR 11 0, oR 12 0, oI l3] [aI v120] (sh_E h121)
        have c := sh_okG H
        replace H := sh_okH H
        refine ai_WP_steps mc_L (sh_CM d) 6 (And.intro c ?_)
        show wq_L d Q 1605 [oR 17 0, oR 11 0, oR 12 0, oI l3] [aI (h121.1 17 0 (l3 + (1 : Int32)).toNatClampNeg), aR 12 0, aI v120] (sh_E h121)
        refine ai_WP_steps mc_L (sh_CM d) 1 (And.intro (Nat.le_of_ble_eq_true rfl) (x_M_richest N (Nat.le_trans (Nat.le_of_ble_eq_true rfl) hd) (h121.1 17 0 (l3 + (1 : Int32)).toNatClampNeg) h121 (sh_okB H) (fun v122 H => ?_)))
        show wq_L d Q 1608 [oR 17 0, oR 11 0, oR 12 0, oI l3] [aI v122, aI v120] (sh_E h121)
        refine ai_WP_steps mc_L (sh_CM d) 1 (And.intro (fun c => ?_) (fun c => ?_))
        · replace H := sh_okT c H
          exact x_law_b2107 N hd hR k18 hk18 l3 h121 H
        · replace H := sh_okF c H
          show wq_L d Q 1611 [oR 17 0, oR 11 0, oR 12 0, oI l3] [] (sh_E h121)
          exact ai_WP_steps mc_L (sh_CM d) 2 (hR (ai_nar 1 (0 : Int32)) h121 H)
      replace H := sh_okF c H
      refine And.intro (fun c => ?_) (fun c => ?_)
      · replace H := sh_okT c H
        show wq_L d Q 1613 [oR 17 0, oR 11 0, oR 12 0, oI l3] [] (sh_E h)
        have c := sh_okG H
        replace H := sh_okH H
        refine ai_WP_steps mc_L (sh_CM d) 6 (And.intro c ?_)
        show wq_L d Q 1619 [oR 17 0, oR 11 0, oR 12 0, oI l3] [aI (h.1 17 0 (l3 + (1 : Int32)).toNatClampNeg), aR 11 0] (sh_E h)
        have c := sh_okG H
        replace H := sh_okH H
        refine ai_WP_steps mc_L (sh_CM d) 5 (And.intro c ?_)
        show wq_L d Q 1624 [oR 17 0, oR 11 0, oR 12 0, oI l3] [aI (h.1 17 0 (l3 + (2 : Int32)).toNatClampNeg), aI (h.1 17 0 (l3 + (1 : Int32)).toNatClampNeg), aR 11 0] (sh_E h)
        have c := sh_okG H
        replace H := sh_okH H
        refine ai_WP_steps mc_L (sh_CM d) 5 (And.intro c ?_)
        show wq_L d Q 1629 [oR 17 0, oR 11 0, oR 12 0, oI l3] [aI (h.1 17 0 (l3 + (3 : Int32)).toNatClampNeg), aI (h.1 17 0 (l3 + (2 : Int32)).toNatClampNeg), aI (h.1 17 0 (l3 + (1 : Int32)).toNatClampNeg), aR 11 0] (sh_E h)
        have c := sh_okG H
        replace H := sh_okH H
        refine ai_WP_steps mc_L (sh_CM d) 5 (And.intro c ?_)
        show wq_L d Q 1634 [oR 17 0, oR 11 0, oR 12 0, oI l3] [aI (h.1 17 0 (l3 + (4 : Int32)).toNatClampNeg), aI (h.1 17 0 (l3 + (3 : Int32)).toNatClampNeg), aI (h.1 17 0 (l3 + (2 : Int32)).toNatClampNeg), aI (h.1 17 0 (l3 + (1 : Int32)).toNatClampNeg), aR 11 0] (sh_E h)
        refine ai_WP_steps mc_L (sh_CM d) 1 (And.intro (Nat.le_of_ble_eq_true rfl) (x_CB_jars N (Nat.le_trans (Nat.le_of_ble_eq_true rfl) hd) (h.1 17 0 (l3 + (1 : Int32)).toNatClampNeg) (h.1 17 0 (l3 + (2 : Int32)).toNatClampNeg) (h.1 17 0 (l3 + (3 : Int32)).toNatClampNeg) (h.1 17 0 (l3 + (4 : Int32)).toNatClampNeg) h (sh_okB H) (fun v123 h124 H => ?_)))
        show wq_L d Q 1637 [oR 17 0, oR 11 0, oR 12 0, oI l3] [aI v123] (sh_E h124)
        have c := sh_okG H
        replace H := sh_okH H
        refine ai_WP_steps mc_L (sh_CM d) 6 (And.intro c ?_)
        show wq_L d Q 1643 [oR 17 0, oR 11 0, oR 12 0, oI l3] [aI (h124.1 17 0 (l3 + (1 : Int32)).toNatClampNeg), aR 12 0, aI v123] (sh_E h124)
        have c := sh_okG H
        replace H := sh_okH H
        refine ai_WP_steps mc_L (sh_CM d) 5 (And.intro c ?_)
        show wq_L d Q 1648 [oR 17 0, oR 11 0, oR 12 0, oI l3] [aI (h124.1 17 0 (l3 + (2 : Int32)).toNatClampNeg), aI (h124.1 17 0 (l3 + (1 : Int32)).toNatClampNeg), aR 12 0, aI v123] (sh_E h124)
        have c := sh_okG H
        replace H := sh_okH H
        refine ai_WP_steps mc_L (sh_CM d) 5 (And.intro c ?_)
        show wq_L d Q 1653 [oR 17 0, oR 11 0, oR 12 0, oI l3] [aI (h124.1 17 0 (l3 + (3 : Int32)).toNatClampNeg), aI (h124.1 17 0 (l3 + (2 : Int32)).toNatClampNeg), aI (h124.1 17 0 (l3 + (1 : Int32)).toNatClampNeg), aR 12 0, aI v123] (sh_E h124)
        have c := sh_okG H
        replace H := sh_okH H
        refine ai_WP_steps mc_L (sh_CM d) 5 (And.intro c ?_)
        show wq_L d Q 1658 [oR 17 0, oR 11 0, oR 12 0, oI l3] [aI (h124.1 17 0 (l3 + (4 : Int32)).toNatClampNeg), aI (h124.1 17 0 (l3 + (3 : Int32)).toNatClampNeg), aI (h124.1 17 0 (l3 + (2 : Int32)).toNatClampNeg), aI (h124.1 17 0 (l3 + (1 : Int32)).toNatClampNeg), aR 12 0, aI v123] (sh_E h124)
        refine ai_WP_steps mc_L (sh_CM d) 1 (And.intro (Nat.le_of_ble_eq_true rfl) (x_M_jars N (Nat.le_trans (Nat.le_of_ble_eq_true rfl) hd) (h124.1 17 0 (l3 + (1 : Int32)).toNatClampNeg) (h124.1 17 0 (l3 + (2 : Int32)).toNatClampNeg) (h124.1 17 0 (l3 + (3 : Int32)).toNatClampNeg) (h124.1 17 0 (l3 + (4 : Int32)).toNatClampNeg) h124 (sh_okB H) (fun v125 h126 H => ?_)))
        show wq_L d Q 1661 [oR 17 0, oR 11 0, oR 12 0, oI l3] [aI v125, aI v123] (sh_E h126)
        refine ai_WP_steps mc_L (sh_CM d) 1 (And.intro (fun c => ?_) (fun c => ?_))
        · replace H := sh_okT c H
          exact x_law_b2107 N hd hR k18 hk18 l3 h126 H
        · replace H := sh_okF c H
          show wq_L d Q 1664 [oR 17 0, oR 11 0, oR 12 0, oI l3] [] (sh_E h126)
          exact ai_WP_steps mc_L (sh_CM d) 2 (hR (ai_nar 1 (0 : Int32)) h126 H)
      replace H := sh_okF c H
      refine And.intro (fun c => ?_) (fun c => ?_)
      · replace H := sh_okT c H
        show wq_L d Q 1666 [oR 17 0, oR 11 0, oR 12 0, oI l3] [] (sh_E h)
        have c := sh_okG H
        replace H := sh_okH H
        refine ai_WP_steps mc_L (sh_CM d) 6 (And.intro c ?_)
        show wq_L d Q 1672 [oR 17 0, oR 11 0, oR 12 0, oI l3] [aI (h.1 17 0 (l3 + (1 : Int32)).toNatClampNeg), aR 11 0] (sh_E h)
        have c := sh_okG H
        replace H := sh_okH H
        refine ai_WP_steps mc_L (sh_CM d) 5 (And.intro c ?_)
        show wq_L d Q 1677 [oR 17 0, oR 11 0, oR 12 0, oI l3] [aI (h.1 17 0 (l3 + (2 : Int32)).toNatClampNeg), aI (h.1 17 0 (l3 + (1 : Int32)).toNatClampNeg), aR 11 0] (sh_E h)
        have c := sh_okG H
        replace H := sh_okH H
        refine ai_WP_steps mc_L (sh_CM d) 5 (And.intro c ?_)
        show wq_L d Q 1682 [oR 17 0, oR 11 0, oR 12 0, oI l3] [aI (h.1 17 0 (l3 + (3 : Int32)).toNatClampNeg), aI (h.1 17 0 (l3 + (2 : Int32)).toNatClampNeg), aI (h.1 17 0 (l3 + (1 : Int32)).toNatClampNeg), aR 11 0] (sh_E h)
        have c := sh_okG H
        replace H := sh_okH H
        refine ai_WP_steps mc_L (sh_CM d) 5 (And.intro c ?_)
        show wq_L d Q 1687 [oR 17 0, oR 11 0, oR 12 0, oI l3] [aI (h.1 17 0 (l3 + (4 : Int32)).toNatClampNeg), aI (h.1 17 0 (l3 + (3 : Int32)).toNatClampNeg), aI (h.1 17 0 (l3 + (2 : Int32)).toNatClampNeg), aI (h.1 17 0 (l3 + (1 : Int32)).toNatClampNeg), aR 11 0] (sh_E h)
        refine ai_WP_steps mc_L (sh_CM d) 1 (And.intro (Nat.le_of_ble_eq_true rfl) (x_CB_ends N (Nat.le_trans (Nat.le_of_ble_eq_true rfl) hd) (h.1 17 0 (l3 + (1 : Int32)).toNatClampNeg) (h.1 17 0 (l3 + (2 : Int32)).toNatClampNeg) (h.1 17 0 (l3 + (3 : Int32)).toNatClampNeg) (h.1 17 0 (l3 + (4 : Int32)).toNatClampNeg) h (sh_okB H) (fun v127 h128 H => ?_)))
        show wq_L d Q 1690 [oR 17 0, oR 11 0, oR 12 0, oI l3] [aI v127] (sh_E h128)
        have c := sh_okG H
        replace H := sh_okH H
        refine ai_WP_steps mc_L (sh_CM d) 6 (And.intro c ?_)
        show wq_L d Q 1696 [oR 17 0, oR 11 0, oR 12 0, oI l3] [aI (h128.1 17 0 (l3 + (1 : Int32)).toNatClampNeg), aR 12 0, aI v127] (sh_E h128)
        have c := sh_okG H
        replace H := sh_okH H
        refine ai_WP_steps mc_L (sh_CM d) 5 (And.intro c ?_)
        show wq_L d Q 1701 [oR 17 0, oR 11 0, oR 12 0, oI l3] [aI (h128.1 17 0 (l3 + (2 : Int32)).toNatClampNeg), aI (h128.1 17 0 (l3 + (1 : Int32)).toNatClampNeg), aR 12 0, aI v127] (sh_E h128)
        have c := sh_okG H
        replace H := sh_okH H
        refine ai_WP_steps mc_L (sh_CM d) 5 (And.intro c ?_)
        show wq_L d Q 1706 [oR 17 0, oR 11 0, oR 12 0, oI l3] [aI (h128.1 17 0 (l3 + (3 : Int32)).toNatClampNeg), aI (h128.1 17 0 (l3 + (2 : Int32)).toNatClampNeg), aI (h128.1 17 0 (l3 + (1 : Int32)).toNatClampNeg), aR 12 0, aI v127] (sh_E h128)
        have c := sh_okG H
        replace H := sh_okH H
        refine ai_WP_steps mc_L (sh_CM d) 5 (And.intro c ?_)
        show wq_L d Q 1711 [oR 17 0, oR 11 0, oR 12 0, oI l3] [aI (h128.1 17 0 (l3 + (4 : Int32)).toNatClampNeg), aI (h128.1 17 0 (l3 + (3 : Int32)).toNatClampNeg), aI (h128.1 17 0 (l3 + (2 : Int32)).toNatClampNeg), aI (h128.1 17 0 (l3 + (1 : Int32)).toNatClampNeg), aR 12 0, aI v127] (sh_E h128)
        refine ai_WP_steps mc_L (sh_CM d) 1 (And.intro (Nat.le_of_ble_eq_true rfl) (x_M_ends N (Nat.le_trans (Nat.le_of_ble_eq_true rfl) hd) (h128.1 17 0 (l3 + (1 : Int32)).toNatClampNeg) (h128.1 17 0 (l3 + (2 : Int32)).toNatClampNeg) (h128.1 17 0 (l3 + (3 : Int32)).toNatClampNeg) (h128.1 17 0 (l3 + (4 : Int32)).toNatClampNeg) h128 (sh_okB H) (fun v129 h130 H => ?_)))
        show wq_L d Q 1714 [oR 17 0, oR 11 0, oR 12 0, oI l3] [aI v129, aI v127] (sh_E h130)
        refine ai_WP_steps mc_L (sh_CM d) 1 (And.intro (fun c => ?_) (fun c => ?_))
        · replace H := sh_okT c H
          exact x_law_b2107 N hd hR k18 hk18 l3 h130 H
        · replace H := sh_okF c H
          show wq_L d Q 1717 [oR 17 0, oR 11 0, oR 12 0, oI l3] [] (sh_E h130)
          exact ai_WP_steps mc_L (sh_CM d) 2 (hR (ai_nar 1 (0 : Int32)) h130 H)
      replace H := sh_okF c H
      refine And.intro (fun c => ?_) (fun c => ?_)
      · replace H := sh_okT c H
        show wq_L d Q 1719 [oR 17 0, oR 11 0, oR 12 0, oI l3] [] (sh_E h)
        have c := sh_okG H
        replace H := sh_okH H
        refine ai_WP_steps mc_L (sh_CM d) 6 (And.intro c ?_)
        show wq_L d Q 1725 [oR 17 0, oR 11 0, oR 12 0, oI l3] [aI (h.1 17 0 (l3 + (1 : Int32)).toNatClampNeg), aR 11 0] (sh_E h)
        refine ai_WP_steps mc_L (sh_CM d) 1 (And.intro (Nat.le_of_ble_eq_true rfl) (x_CB_whose N (Nat.le_trans (Nat.le_of_ble_eq_true rfl) hd) (h.1 17 0 (l3 + (1 : Int32)).toNatClampNeg) h (sh_okB H) (fun v131 h132 H => ?_)))
        show wq_L d Q 1728 [oR 17 0, oR 11 0, oR 12 0, oI l3] [aI v131] (sh_E h132)
        have c := sh_okG H
        replace H := sh_okH H
        refine ai_WP_steps mc_L (sh_CM d) 6 (And.intro c ?_)
        show wq_L d Q 1734 [oR 17 0, oR 11 0, oR 12 0, oI l3] [aI (h132.1 17 0 (l3 + (1 : Int32)).toNatClampNeg), aR 12 0, aI v131] (sh_E h132)
        refine ai_WP_steps mc_L (sh_CM d) 1 (And.intro (Nat.le_of_ble_eq_true rfl) (x_M_whose N (Nat.le_trans (Nat.le_of_ble_eq_true rfl) hd) (h132.1 17 0 (l3 + (1 : Int32)).toNatClampNeg) h132 (sh_okB H) (fun v133 h134 H => ?_)))
        show wq_L d Q 1737 [oR 17 0, oR 11 0, oR 12 0, oI l3] [aI v133, aI v131] (sh_E h134)
        refine ai_WP_steps mc_L (sh_CM d) 1 (And.intro (fun c => ?_) (fun c => ?_))
        · replace H := sh_okT c H
          exact x_law_b2107 N hd hR k18 hk18 l3 h134 H
        · replace H := sh_okF c H
          show wq_L d Q 1740 [oR 17 0, oR 11 0, oR 12 0, oI l3] [] (sh_E h134)
          exact ai_WP_steps mc_L (sh_CM d) 2 (hR (ai_nar 1 (0 : Int32)) h134 H)
      replace H := sh_okF c H
      refine And.intro (fun c => ?_) (fun c => ?_)
      · replace H := sh_okT c H
        show wq_L d Q 1742 [oR 17 0, oR 11 0, oR 12 0, oI l3] [] (sh_E h)
        have c := sh_okG H
        replace H := sh_okH H
        refine ai_WP_steps mc_L (sh_CM d) 6 (And.intro c ?_)
        show wq_L d Q 1748 [oR 17 0, oR 11 0, oR 12 0, oI l3] [aI (h.1 17 0 (l3 + (1 : Int32)).toNatClampNeg), aR 11 0] (sh_E h)
        have c := sh_okG H
        replace H := sh_okH H
        refine ai_WP_steps mc_L (sh_CM d) 5 (And.intro c ?_)
        show wq_L d Q 1753 [oR 17 0, oR 11 0, oR 12 0, oI l3] [aI (h.1 17 0 (l3 + (2 : Int32)).toNatClampNeg), aI (h.1 17 0 (l3 + (1 : Int32)).toNatClampNeg), aR 11 0] (sh_E h)
        have c := sh_okG H
        replace H := sh_okH H
        refine ai_WP_steps mc_L (sh_CM d) 5 (And.intro c ?_)
        show wq_L d Q 1758 [oR 17 0, oR 11 0, oR 12 0, oI l3] [aI (h.1 17 0 (l3 + (3 : Int32)).toNatClampNeg), aI (h.1 17 0 (l3 + (2 : Int32)).toNatClampNeg), aI (h.1 17 0 (l3 + (1 : Int32)).toNatClampNeg), aR 11 0] (sh_E h)
        refine ai_WP_steps mc_L (sh_CM d) 1 (And.intro (fun c => ?_) (fun c => ?_))
        · replace H := sh_okT c H
          show wq_L d Q 1765 [oR 17 0, oR 11 0, oR 12 0, oI l3] [aI (h.1 17 0 (l3 + (2 : Int32)).toNatClampNeg), aI (h.1 17 0 (l3 + (1 : Int32)).toNatClampNeg), aR 11 0] (sh_E h)
          refine ai_WP_steps mc_L (sh_CM d) 1 ?_
          exact x_law_b1766 N hd hR k18 hk18 l3 (h.1 17 0 (l3 + (1 : Int32)).toNatClampNeg) (h.1 17 0 (l3 + (2 : Int32)).toNatClampNeg) (0 : Int32) h H
        · replace H := sh_okF c H
          show wq_L d Q 1761 [oR 17 0, oR 11 0, oR 12 0, oI l3] [aI (h.1 17 0 (l3 + (2 : Int32)).toNatClampNeg), aI (h.1 17 0 (l3 + (1 : Int32)).toNatClampNeg), aR 11 0] (sh_E h)
          refine ai_WP_steps mc_L (sh_CM d) 2 ?_
          exact x_law_b1766 N hd hR k18 hk18 l3 (h.1 17 0 (l3 + (1 : Int32)).toNatClampNeg) (h.1 17 0 (l3 + (2 : Int32)).toNatClampNeg) (1 : Int32) h H
      replace H := sh_okF c H
      refine And.intro (fun c => ?_) (fun c => ?_)
      · replace H := sh_okT c H
        show wq_L d Q 1802 [oR 17 0, oR 11 0, oR 12 0, oI l3] [] (sh_E h)
        have c := sh_okG H
        replace H := sh_okH H
        refine ai_WP_steps mc_L (sh_CM d) 6 (And.intro c ?_)
        show wq_L d Q 1808 [oR 17 0, oR 11 0, oR 12 0, oI l3] [aI (h.1 17 0 (l3 + (1 : Int32)).toNatClampNeg), aR 11 0] (sh_E h)
        have c := sh_okG H
        replace H := sh_okH H
        refine ai_WP_steps mc_L (sh_CM d) 5 (And.intro c ?_)
        show wq_L d Q 1813 [oR 17 0, oR 11 0, oR 12 0, oI l3] [aI (h.1 17 0 (l3 + (2 : Int32)).toNatClampNeg), aI (h.1 17 0 (l3 + (1 : Int32)).toNatClampNeg), aR 11 0] (sh_E h)
        have c := sh_okG H
        replace H := sh_okH H
        refine ai_WP_steps mc_L (sh_CM d) 5 (And.intro c ?_)
        show wq_L d Q 1818 [oR 17 0, oR 11 0, oR 12 0, oI l3] [aI (h.1 17 0 (l3 + (3 : Int32)).toNatClampNeg), aI (h.1 17 0 (l3 + (2 : Int32)).toNatClampNeg), aI (h.1 17 0 (l3 + (1 : Int32)).toNatClampNeg), aR 11 0] (sh_E h)
        have c := sh_okG H
        replace H := sh_okH H
        refine ai_WP_steps mc_L (sh_CM d) 5 (And.intro c ?_)
        show wq_L d Q 1823 [oR 17 0, oR 11 0, oR 12 0, oI l3] [aI (h.1 17 0 (l3 + (4 : Int32)).toNatClampNeg), aI (h.1 17 0 (l3 + (3 : Int32)).toNatClampNeg), aI (h.1 17 0 (l3 + (2 : Int32)).toNatClampNeg), aI (h.1 17 0 (l3 + (1 : Int32)).toNatClampNeg), aR 11 0] (sh_E h)
        refine ai_WP_steps mc_L (sh_CM d) 1 (And.intro (Nat.le_of_ble_eq_true rfl) (x_CB_trickle N (Nat.le_trans (Nat.le_of_ble_eq_true rfl) hd) (h.1 17 0 (l3 + (1 : Int32)).toNatClampNeg) (h.1 17 0 (l3 + (2 : Int32)).toNatClampNeg) (h.1 17 0 (l3 + (3 : Int32)).toNatClampNeg) (h.1 17 0 (l3 + (4 : Int32)).toNatClampNeg) h (sh_okB H) (fun v135 H => ?_)))
        show wq_L d Q 1826 [oR 17 0, oR 11 0, oR 12 0, oI l3] [aI v135] (sh_E h)
        have c := sh_okG H
        replace H := sh_okH H
        refine ai_WP_steps mc_L (sh_CM d) 6 (And.intro c ?_)
        show wq_L d Q 1832 [oR 17 0, oR 11 0, oR 12 0, oI l3] [aI (h.1 17 0 (l3 + (1 : Int32)).toNatClampNeg), aR 12 0, aI v135] (sh_E h)
        have c := sh_okG H
        replace H := sh_okH H
        refine ai_WP_steps mc_L (sh_CM d) 5 (And.intro c ?_)
        show wq_L d Q 1837 [oR 17 0, oR 11 0, oR 12 0, oI l3] [aI (h.1 17 0 (l3 + (2 : Int32)).toNatClampNeg), aI (h.1 17 0 (l3 + (1 : Int32)).toNatClampNeg), aR 12 0, aI v135] (sh_E h)
        have c := sh_okG H
        replace H := sh_okH H
        refine ai_WP_steps mc_L (sh_CM d) 5 (And.intro c ?_)
        show wq_L d Q 1842 [oR 17 0, oR 11 0, oR 12 0, oI l3] [aI (h.1 17 0 (l3 + (3 : Int32)).toNatClampNeg), aI (h.1 17 0 (l3 + (2 : Int32)).toNatClampNeg), aI (h.1 17 0 (l3 + (1 : Int32)).toNatClampNeg), aR 12 0, aI v135] (sh_E h)
        have c := sh_okG H
        replace H := sh_okH H
        refine ai_WP_steps mc_L (sh_CM d) 5 (And.intro c ?_)
        show wq_L d Q 1847 [oR 17 0, oR 11 0, oR 12 0, oI l3] [aI (h.1 17 0 (l3 + (4 : Int32)).toNatClampNeg), aI (h.1 17 0 (l3 + (3 : Int32)).toNatClampNeg), aI (h.1 17 0 (l3 + (2 : Int32)).toNatClampNeg), aI (h.1 17 0 (l3 + (1 : Int32)).toNatClampNeg), aR 12 0, aI v135] (sh_E h)
        refine ai_WP_steps mc_L (sh_CM d) 1 (And.intro (Nat.le_of_ble_eq_true rfl) (x_M_trickle N (Nat.le_trans (Nat.le_of_ble_eq_true rfl) hd) (h.1 17 0 (l3 + (1 : Int32)).toNatClampNeg) (h.1 17 0 (l3 + (2 : Int32)).toNatClampNeg) (h.1 17 0 (l3 + (3 : Int32)).toNatClampNeg) (h.1 17 0 (l3 + (4 : Int32)).toNatClampNeg) h (sh_okB H) (fun v136 H => ?_)))
        show wq_L d Q 1850 [oR 17 0, oR 11 0, oR 12 0, oI l3] [aI v136, aI v135] (sh_E h)
        refine ai_WP_steps mc_L (sh_CM d) 1 (And.intro (fun c => ?_) (fun c => ?_))
        · replace H := sh_okT c H
          exact x_law_b2107 N hd hR k18 hk18 l3 h H
        · replace H := sh_okF c H
          show wq_L d Q 1853 [oR 17 0, oR 11 0, oR 12 0, oI l3] [] (sh_E h)
          exact ai_WP_steps mc_L (sh_CM d) 2 (hR (ai_nar 1 (0 : Int32)) h H)
      replace H := sh_okF c H
      refine And.intro (fun c => ?_) (fun c => ?_)
      · replace H := sh_okT c H
        show wq_L d Q 1855 [oR 17 0, oR 11 0, oR 12 0, oI l3] [] (sh_E h)
        have c := sh_okG H
        replace H := sh_okH H
        refine ai_WP_steps mc_L (sh_CM d) 6 (And.intro c ?_)
        show wq_L d Q 1861 [oR 17 0, oR 11 0, oR 12 0, oI l3] [aI (h.1 17 0 (l3 + (1 : Int32)).toNatClampNeg), aR 11 0] (sh_E h)
        have c := sh_okG H
        replace H := sh_okH H
        refine ai_WP_steps mc_L (sh_CM d) 5 (And.intro c ?_)
        show wq_L d Q 1866 [oR 17 0, oR 11 0, oR 12 0, oI l3] [aI (h.1 17 0 (l3 + (2 : Int32)).toNatClampNeg), aI (h.1 17 0 (l3 + (1 : Int32)).toNatClampNeg), aR 11 0] (sh_E h)
        have c := sh_okG H
        replace H := sh_okH H
        refine ai_WP_steps mc_L (sh_CM d) 5 (And.intro c ?_)
        show wq_L d Q 1871 [oR 17 0, oR 11 0, oR 12 0, oI l3] [aI (h.1 17 0 (l3 + (3 : Int32)).toNatClampNeg), aI (h.1 17 0 (l3 + (2 : Int32)).toNatClampNeg), aI (h.1 17 0 (l3 + (1 : Int32)).toNatClampNeg), aR 11 0] (sh_E h)
        have c := sh_okG H
        replace H := sh_okH H
        refine ai_WP_steps mc_L (sh_CM d) 5 (And.intro c ?_)
        show wq_L d Q 1876 [oR 17 0, oR 11 0, oR 12 0, oI l3] [aI (h.1 17 0 (l3 + (4 : Int32)).toNatClampNeg), aI (h.1 17 0 (l3 + (3 : Int32)).toNatClampNeg), aI (h.1 17 0 (l3 + (2 : Int32)).toNatClampNeg), aI (h.1 17 0 (l3 + (1 : Int32)).toNatClampNeg), aR 11 0] (sh_E h)
        refine ai_WP_steps mc_L (sh_CM d) 1 (And.intro (Nat.le_of_ble_eq_true rfl) (x_CB_trickled N (Nat.le_trans (Nat.le_of_ble_eq_true rfl) hd) (h.1 17 0 (l3 + (1 : Int32)).toNatClampNeg) (h.1 17 0 (l3 + (2 : Int32)).toNatClampNeg) (h.1 17 0 (l3 + (3 : Int32)).toNatClampNeg) (h.1 17 0 (l3 + (4 : Int32)).toNatClampNeg) h (sh_okB H) (fun v137 H => ?_)))
        show wq_L d Q 1879 [oR 17 0, oR 11 0, oR 12 0, oI l3] [aI v137] (sh_E h)
        have c := sh_okG H
        replace H := sh_okH H
        refine ai_WP_steps mc_L (sh_CM d) 6 (And.intro c ?_)
        show wq_L d Q 1885 [oR 17 0, oR 11 0, oR 12 0, oI l3] [aI (h.1 17 0 (l3 + (1 : Int32)).toNatClampNeg), aR 12 0, aI v137] (sh_E h)
        have c := sh_okG H
        replace H := sh_okH H
        refine ai_WP_steps mc_L (sh_CM d) 5 (And.intro c ?_)
        show wq_L d Q 1890 [oR 17 0, oR 11 0, oR 12 0, oI l3] [aI (h.1 17 0 (l3 + (2 : Int32)).toNatClampNeg), aI (h.1 17 0 (l3 + (1 : Int32)).toNatClampNeg), aR 12 0, aI v137] (sh_E h)
        have c := sh_okG H
        replace H := sh_okH H
        refine ai_WP_steps mc_L (sh_CM d) 5 (And.intro c ?_)
        show wq_L d Q 1895 [oR 17 0, oR 11 0, oR 12 0, oI l3] [aI (h.1 17 0 (l3 + (3 : Int32)).toNatClampNeg), aI (h.1 17 0 (l3 + (2 : Int32)).toNatClampNeg), aI (h.1 17 0 (l3 + (1 : Int32)).toNatClampNeg), aR 12 0, aI v137] (sh_E h)
        have c := sh_okG H
        replace H := sh_okH H
        refine ai_WP_steps mc_L (sh_CM d) 5 (And.intro c ?_)
        show wq_L d Q 1900 [oR 17 0, oR 11 0, oR 12 0, oI l3] [aI (h.1 17 0 (l3 + (4 : Int32)).toNatClampNeg), aI (h.1 17 0 (l3 + (3 : Int32)).toNatClampNeg), aI (h.1 17 0 (l3 + (2 : Int32)).toNatClampNeg), aI (h.1 17 0 (l3 + (1 : Int32)).toNatClampNeg), aR 12 0, aI v137] (sh_E h)
        refine ai_WP_steps mc_L (sh_CM d) 1 (And.intro (Nat.le_of_ble_eq_true rfl) (x_M_trickled N (Nat.le_trans (Nat.le_of_ble_eq_true rfl) hd) (h.1 17 0 (l3 + (1 : Int32)).toNatClampNeg) (h.1 17 0 (l3 + (2 : Int32)).toNatClampNeg) (h.1 17 0 (l3 + (3 : Int32)).toNatClampNeg) (h.1 17 0 (l3 + (4 : Int32)).toNatClampNeg) h (sh_okB H) (fun v138 H => ?_)))
        show wq_L d Q 1903 [oR 17 0, oR 11 0, oR 12 0, oI l3] [aI v138, aI v137] (sh_E h)
        refine ai_WP_steps mc_L (sh_CM d) 1 (And.intro (fun c => ?_) (fun c => ?_))
        · replace H := sh_okT c H
          exact x_law_b2107 N hd hR k18 hk18 l3 h H
        · replace H := sh_okF c H
          show wq_L d Q 1906 [oR 17 0, oR 11 0, oR 12 0, oI l3] [] (sh_E h)
          exact ai_WP_steps mc_L (sh_CM d) 2 (hR (ai_nar 1 (0 : Int32)) h H)
      replace H := sh_okF c H
      refine And.intro (fun c => ?_) (fun c => ?_)
      · replace H := sh_okT c H
        show wq_L d Q 1908 [oR 17 0, oR 11 0, oR 12 0, oI l3] [] (sh_E h)
        have c := sh_okG H
        replace H := sh_okH H
        refine ai_WP_steps mc_L (sh_CM d) 6 (And.intro c ?_)
        show wq_L d Q 1914 [oR 17 0, oR 11 0, oR 12 0, oI l3] [aI (h.1 17 0 (l3 + (1 : Int32)).toNatClampNeg), aR 11 0] (sh_E h)
        have c := sh_okG H
        replace H := sh_okH H
        refine ai_WP_steps mc_L (sh_CM d) 5 (And.intro c ?_)
        show wq_L d Q 1919 [oR 17 0, oR 11 0, oR 12 0, oI l3] [aI (h.1 17 0 (l3 + (2 : Int32)).toNatClampNeg), aI (h.1 17 0 (l3 + (1 : Int32)).toNatClampNeg), aR 11 0] (sh_E h)
        have c := sh_okG H
        replace H := sh_okH H
        refine ai_WP_steps mc_L (sh_CM d) 5 (And.intro c ?_)
        show wq_L d Q 1924 [oR 17 0, oR 11 0, oR 12 0, oI l3] [aI (h.1 17 0 (l3 + (3 : Int32)).toNatClampNeg), aI (h.1 17 0 (l3 + (2 : Int32)).toNatClampNeg), aI (h.1 17 0 (l3 + (1 : Int32)).toNatClampNeg), aR 11 0] (sh_E h)
        refine ai_WP_steps mc_L (sh_CM d) 1 (And.intro (Nat.le_of_ble_eq_true rfl) (x_CB_burnAt N (Nat.le_trans (Nat.le_of_ble_eq_true rfl) hd) (h.1 17 0 (l3 + (1 : Int32)).toNatClampNeg) (h.1 17 0 (l3 + (2 : Int32)).toNatClampNeg) (h.1 17 0 (l3 + (3 : Int32)).toNatClampNeg) h (sh_okB H) (fun v139 H => ?_)))
        show wq_L d Q 1927 [oR 17 0, oR 11 0, oR 12 0, oI l3] [aI v139] (sh_E h)
        have c := sh_okG H
        replace H := sh_okH H
        refine ai_WP_steps mc_L (sh_CM d) 6 (And.intro c ?_)
        show wq_L d Q 1933 [oR 17 0, oR 11 0, oR 12 0, oI l3] [aI (h.1 17 0 (l3 + (1 : Int32)).toNatClampNeg), aR 12 0, aI v139] (sh_E h)
        have c := sh_okG H
        replace H := sh_okH H
        refine ai_WP_steps mc_L (sh_CM d) 5 (And.intro c ?_)
        show wq_L d Q 1938 [oR 17 0, oR 11 0, oR 12 0, oI l3] [aI (h.1 17 0 (l3 + (2 : Int32)).toNatClampNeg), aI (h.1 17 0 (l3 + (1 : Int32)).toNatClampNeg), aR 12 0, aI v139] (sh_E h)
        have c := sh_okG H
        replace H := sh_okH H
        refine ai_WP_steps mc_L (sh_CM d) 5 (And.intro c ?_)
        show wq_L d Q 1943 [oR 17 0, oR 11 0, oR 12 0, oI l3] [aI (h.1 17 0 (l3 + (3 : Int32)).toNatClampNeg), aI (h.1 17 0 (l3 + (2 : Int32)).toNatClampNeg), aI (h.1 17 0 (l3 + (1 : Int32)).toNatClampNeg), aR 12 0, aI v139] (sh_E h)
        refine ai_WP_steps mc_L (sh_CM d) 1 (And.intro (Nat.le_of_ble_eq_true rfl) (x_M_burnAt N (Nat.le_trans (Nat.le_of_ble_eq_true rfl) hd) (h.1 17 0 (l3 + (1 : Int32)).toNatClampNeg) (h.1 17 0 (l3 + (2 : Int32)).toNatClampNeg) (h.1 17 0 (l3 + (3 : Int32)).toNatClampNeg) h (sh_okB H) (fun v140 H => ?_)))
        show wq_L d Q 1946 [oR 17 0, oR 11 0, oR 12 0, oI l3] [aI v140, aI v139] (sh_E h)
        refine ai_WP_steps mc_L (sh_CM d) 1 (And.intro (fun c => ?_) (fun c => ?_))
        · replace H := sh_okT c H
          exact x_law_b2107 N hd hR k18 hk18 l3 h H
        · replace H := sh_okF c H
          show wq_L d Q 1949 [oR 17 0, oR 11 0, oR 12 0, oI l3] [] (sh_E h)
          exact ai_WP_steps mc_L (sh_CM d) 2 (hR (ai_nar 1 (0 : Int32)) h H)
      replace H := sh_okF c H
      refine And.intro (fun c => ?_) (fun c => ?_)
      · replace H := sh_okT c H
        show wq_L d Q 1951 [oR 17 0, oR 11 0, oR 12 0, oI l3] [] (sh_E h)
        have c := sh_okG H
        replace H := sh_okH H
        refine ai_WP_steps mc_L (sh_CM d) 6 (And.intro c ?_)
        show wq_L d Q 1957 [oR 17 0, oR 11 0, oR 12 0, oI l3] [aI (h.1 17 0 (l3 + (1 : Int32)).toNatClampNeg), aR 11 0] (sh_E h)
        have c := sh_okG H
        replace H := sh_okH H
        refine ai_WP_steps mc_L (sh_CM d) 5 (And.intro c ?_)
        show wq_L d Q 1962 [oR 17 0, oR 11 0, oR 12 0, oI l3] [aI (h.1 17 0 (l3 + (2 : Int32)).toNatClampNeg), aI (h.1 17 0 (l3 + (1 : Int32)).toNatClampNeg), aR 11 0] (sh_E h)
        have c := sh_okG H
        replace H := sh_okH H
        refine ai_WP_steps mc_L (sh_CM d) 5 (And.intro c ?_)
        show wq_L d Q 1967 [oR 17 0, oR 11 0, oR 12 0, oI l3] [aI (h.1 17 0 (l3 + (3 : Int32)).toNatClampNeg), aI (h.1 17 0 (l3 + (2 : Int32)).toNatClampNeg), aI (h.1 17 0 (l3 + (1 : Int32)).toNatClampNeg), aR 11 0] (sh_E h)
        have c := sh_okG H
        replace H := sh_okH H
        refine ai_WP_steps mc_L (sh_CM d) 5 (And.intro c ?_)
        show wq_L d Q 1972 [oR 17 0, oR 11 0, oR 12 0, oI l3] [aI (h.1 17 0 (l3 + (4 : Int32)).toNatClampNeg), aI (h.1 17 0 (l3 + (3 : Int32)).toNatClampNeg), aI (h.1 17 0 (l3 + (2 : Int32)).toNatClampNeg), aI (h.1 17 0 (l3 + (1 : Int32)).toNatClampNeg), aR 11 0] (sh_E h)
        have c := sh_okG H
        replace H := sh_okH H
        refine ai_WP_steps mc_L (sh_CM d) 5 (And.intro c ?_)
        show wq_L d Q 1977 [oR 17 0, oR 11 0, oR 12 0, oI l3] [aI (h.1 17 0 (l3 + (5 : Int32)).toNatClampNeg), aI (h.1 17 0 (l3 + (4 : Int32)).toNatClampNeg), aI (h.1 17 0 (l3 + (3 : Int32)).toNatClampNeg), aI (h.1 17 0 (l3 + (2 : Int32)).toNatClampNeg), aI (h.1 17 0 (l3 + (1 : Int32)).toNatClampNeg), aR 11 0] (sh_E h)
        have c := sh_okG H
        replace H := sh_okH H
        refine ai_WP_steps mc_L (sh_CM d) 5 (And.intro c ?_)
        show wq_L d Q 1983 [oR 17 0, oR 11 0, oR 12 0, oI l3] [aI (h.1 17 0 (l3 + (6 : Int32)).toNatClampNeg), aI (h.1 17 0 (l3 + (5 : Int32)).toNatClampNeg), aI (h.1 17 0 (l3 + (4 : Int32)).toNatClampNeg), aI (h.1 17 0 (l3 + (3 : Int32)).toNatClampNeg), aI (h.1 17 0 (l3 + (2 : Int32)).toNatClampNeg), aI (h.1 17 0 (l3 + (1 : Int32)).toNatClampNeg), aR 11 0] (sh_E h)
        have c := sh_okG H
        replace H := sh_okH H
        refine ai_WP_steps mc_L (sh_CM d) 5 (And.intro c ?_)
        show wq_L d Q 1989 [oR 17 0, oR 11 0, oR 12 0, oI l3] [aI (h.1 17 0 (l3 + (7 : Int32)).toNatClampNeg), aI (h.1 17 0 (l3 + (6 : Int32)).toNatClampNeg), aI (h.1 17 0 (l3 + (5 : Int32)).toNatClampNeg), aI (h.1 17 0 (l3 + (4 : Int32)).toNatClampNeg), aI (h.1 17 0 (l3 + (3 : Int32)).toNatClampNeg), aI (h.1 17 0 (l3 + (2 : Int32)).toNatClampNeg), aI (h.1 17 0 (l3 + (1 : Int32)).toNatClampNeg), aR 11 0] (sh_E h)
        refine ai_WP_steps mc_L (sh_CM d) 1 (And.intro (Nat.le_of_ble_eq_true rfl) (x_CB_sort (Nat.le_trans (Nat.le_of_ble_eq_true rfl) hd) (h.1 17 0 (l3 + (1 : Int32)).toNatClampNeg) (h.1 17 0 (l3 + (2 : Int32)).toNatClampNeg) (h.1 17 0 (l3 + (3 : Int32)).toNatClampNeg) (h.1 17 0 (l3 + (4 : Int32)).toNatClampNeg) (h.1 17 0 (l3 + (5 : Int32)).toNatClampNeg) (h.1 17 0 (l3 + (6 : Int32)).toNatClampNeg) (h.1 17 0 (l3 + (7 : Int32)).toNatClampNeg) h (sh_okB H) (fun v141 H => ?_)))
        show wq_L d Q 1992 [oR 17 0, oR 11 0, oR 12 0, oI l3] [aI v141] (sh_E h)
        have c := sh_okG H
        replace H := sh_okH H
        refine ai_WP_steps mc_L (sh_CM d) 6 (And.intro c ?_)
        show wq_L d Q 1998 [oR 17 0, oR 11 0, oR 12 0, oI l3] [aI (h.1 17 0 (l3 + (1 : Int32)).toNatClampNeg), aR 12 0, aI v141] (sh_E h)
        have c := sh_okG H
        replace H := sh_okH H
        refine ai_WP_steps mc_L (sh_CM d) 5 (And.intro c ?_)
        show wq_L d Q 2003 [oR 17 0, oR 11 0, oR 12 0, oI l3] [aI (h.1 17 0 (l3 + (2 : Int32)).toNatClampNeg), aI (h.1 17 0 (l3 + (1 : Int32)).toNatClampNeg), aR 12 0, aI v141] (sh_E h)
        have c := sh_okG H
        replace H := sh_okH H
        refine ai_WP_steps mc_L (sh_CM d) 5 (And.intro c ?_)
        show wq_L d Q 2008 [oR 17 0, oR 11 0, oR 12 0, oI l3] [aI (h.1 17 0 (l3 + (3 : Int32)).toNatClampNeg), aI (h.1 17 0 (l3 + (2 : Int32)).toNatClampNeg), aI (h.1 17 0 (l3 + (1 : Int32)).toNatClampNeg), aR 12 0, aI v141] (sh_E h)
        have c := sh_okG H
        replace H := sh_okH H
        refine ai_WP_steps mc_L (sh_CM d) 5 (And.intro c ?_)
        show wq_L d Q 2013 [oR 17 0, oR 11 0, oR 12 0, oI l3] [aI (h.1 17 0 (l3 + (4 : Int32)).toNatClampNeg), aI (h.1 17 0 (l3 + (3 : Int32)).toNatClampNeg), aI (h.1 17 0 (l3 + (2 : Int32)).toNatClampNeg), aI (h.1 17 0 (l3 + (1 : Int32)).toNatClampNeg), aR 12 0, aI v141] (sh_E h)
        have c := sh_okG H
        replace H := sh_okH H
        refine ai_WP_steps mc_L (sh_CM d) 5 (And.intro c ?_)
        show wq_L d Q 2018 [oR 17 0, oR 11 0, oR 12 0, oI l3] [aI (h.1 17 0 (l3 + (5 : Int32)).toNatClampNeg), aI (h.1 17 0 (l3 + (4 : Int32)).toNatClampNeg), aI (h.1 17 0 (l3 + (3 : Int32)).toNatClampNeg), aI (h.1 17 0 (l3 + (2 : Int32)).toNatClampNeg), aI (h.1 17 0 (l3 + (1 : Int32)).toNatClampNeg), aR 12 0, aI v141] (sh_E h)
        have c := sh_okG H
        replace H := sh_okH H
        refine ai_WP_steps mc_L (sh_CM d) 5 (And.intro c ?_)
        show wq_L d Q 2024 [oR 17 0, oR 11 0, oR 12 0, oI l3] [aI (h.1 17 0 (l3 + (6 : Int32)).toNatClampNeg), aI (h.1 17 0 (l3 + (5 : Int32)).toNatClampNeg), aI (h.1 17 0 (l3 + (4 : Int32)).toNatClampNeg), aI (h.1 17 0 (l3 + (3 : Int32)).toNatClampNeg), aI (h.1 17 0 (l3 + (2 : Int32)).toNatClampNeg), aI (h.1 17 0 (l3 + (1 : Int32)).toNatClampNeg), aR 12 0, aI v141] (sh_E h)
        have c := sh_okG H
        replace H := sh_okH H
        refine ai_WP_steps mc_L (sh_CM d) 5 (And.intro c ?_)
        show wq_L d Q 2030 [oR 17 0, oR 11 0, oR 12 0, oI l3] [aI (h.1 17 0 (l3 + (7 : Int32)).toNatClampNeg), aI (h.1 17 0 (l3 + (6 : Int32)).toNatClampNeg), aI (h.1 17 0 (l3 + (5 : Int32)).toNatClampNeg), aI (h.1 17 0 (l3 + (4 : Int32)).toNatClampNeg), aI (h.1 17 0 (l3 + (3 : Int32)).toNatClampNeg), aI (h.1 17 0 (l3 + (2 : Int32)).toNatClampNeg), aI (h.1 17 0 (l3 + (1 : Int32)).toNatClampNeg), aR 12 0, aI v141] (sh_E h)
        refine ai_WP_steps mc_L (sh_CM d) 1 (And.intro (Nat.le_of_ble_eq_true rfl) (x_M_sort (Nat.le_trans (Nat.le_of_ble_eq_true rfl) hd) (h.1 17 0 (l3 + (1 : Int32)).toNatClampNeg) (h.1 17 0 (l3 + (2 : Int32)).toNatClampNeg) (h.1 17 0 (l3 + (3 : Int32)).toNatClampNeg) (h.1 17 0 (l3 + (4 : Int32)).toNatClampNeg) (h.1 17 0 (l3 + (5 : Int32)).toNatClampNeg) (h.1 17 0 (l3 + (6 : Int32)).toNatClampNeg) (h.1 17 0 (l3 + (7 : Int32)).toNatClampNeg) h (sh_okB H) (fun v142 H => ?_)))
        show wq_L d Q 2033 [oR 17 0, oR 11 0, oR 12 0, oI l3] [aI v142, aI v141] (sh_E h)
        refine ai_WP_steps mc_L (sh_CM d) 1 (And.intro (fun c => ?_) (fun c => ?_))
        · replace H := sh_okT c H
          exact x_law_b2107 N hd hR k18 hk18 l3 h H
        · replace H := sh_okF c H
          show wq_L d Q 2036 [oR 17 0, oR 11 0, oR 12 0, oI l3] [] (sh_E h)
          exact ai_WP_steps mc_L (sh_CM d) 2 (hR (ai_nar 1 (0 : Int32)) h H)
      replace H := sh_okF c H
      refine And.intro (fun c => ?_) (fun c => ?_)
      · replace H := sh_okT c H
        show wq_L d Q 2038 [oR 17 0, oR 11 0, oR 12 0, oI l3] [] (sh_E h)
        have c := sh_okG H
        replace H := sh_okH H
        refine ai_WP_steps mc_L (sh_CM d) 6 (And.intro c ?_)
        show wq_L d Q 2044 [oR 17 0, oR 11 0, oR 12 0, oI l3] [aI (h.1 17 0 (l3 + (1 : Int32)).toNatClampNeg), aR 11 0] (sh_E h)
        refine ai_WP_steps mc_L (sh_CM d) 1 (And.intro (Nat.le_of_ble_eq_true rfl) (x_CB_hold N (Nat.le_trans (Nat.le_of_ble_eq_true rfl) hd) (h.1 17 0 (l3 + (1 : Int32)).toNatClampNeg) h (sh_okB H) (fun v143 h144 H => ?_)))
        show wq_L d Q 2047 [oR 17 0, oR 11 0, oR 12 0, oI l3] [aI v143] (sh_E h144)
        have c := sh_okG H
        replace H := sh_okH H
        refine ai_WP_steps mc_L (sh_CM d) 6 (And.intro c ?_)
        show wq_L d Q 2053 [oR 17 0, oR 11 0, oR 12 0, oI l3] [aI (h144.1 17 0 (l3 + (1 : Int32)).toNatClampNeg), aR 12 0, aI v143] (sh_E h144)
        refine ai_WP_steps mc_L (sh_CM d) 1 (And.intro (Nat.le_of_ble_eq_true rfl) (x_M_hold N (Nat.le_trans (Nat.le_of_ble_eq_true rfl) hd) (h144.1 17 0 (l3 + (1 : Int32)).toNatClampNeg) h144 (sh_okB H) (fun v145 h146 H => ?_)))
        show wq_L d Q 2056 [oR 17 0, oR 11 0, oR 12 0, oI l3] [aI v145, aI v143] (sh_E h146)
        refine ai_WP_steps mc_L (sh_CM d) 1 (And.intro (fun c => ?_) (fun c => ?_))
        · replace H := sh_okT c H
          exact x_law_b2107 N hd hR k18 hk18 l3 h146 H
        · replace H := sh_okF c H
          show wq_L d Q 2059 [oR 17 0, oR 11 0, oR 12 0, oI l3] [] (sh_E h146)
          exact ai_WP_steps mc_L (sh_CM d) 2 (hR (ai_nar 1 (0 : Int32)) h146 H)
      replace H := sh_okF c H
      refine And.intro (fun c => ?_) (fun c => ?_)
      · replace H := sh_okT c H
        show wq_L d Q 2061 [oR 17 0, oR 11 0, oR 12 0, oI l3] [] (sh_E h)
        have c := sh_okG H
        replace H := sh_okH H
        refine ai_WP_steps mc_L (sh_CM d) 6 (And.intro c ?_)
        show wq_L d Q 2067 [oR 17 0, oR 11 0, oR 12 0, oI l3] [aI (h.1 17 0 (l3 + (1 : Int32)).toNatClampNeg), aR 11 0] (sh_E h)
        refine ai_WP_steps mc_L (sh_CM d) 1 (And.intro (Nat.le_of_ble_eq_true rfl) (x_CB_restore N (Nat.le_trans (Nat.le_of_ble_eq_true rfl) hd) (h.1 17 0 (l3 + (1 : Int32)).toNatClampNeg) h (sh_okB H) (fun v147 h148 H => ?_)))
        show wq_L d Q 2070 [oR 17 0, oR 11 0, oR 12 0, oI l3] [aI v147] (sh_E h148)
        have c := sh_okG H
        replace H := sh_okH H
        refine ai_WP_steps mc_L (sh_CM d) 6 (And.intro c ?_)
        show wq_L d Q 2076 [oR 17 0, oR 11 0, oR 12 0, oI l3] [aI (h148.1 17 0 (l3 + (1 : Int32)).toNatClampNeg), aR 12 0, aI v147] (sh_E h148)
        refine ai_WP_steps mc_L (sh_CM d) 1 (And.intro (Nat.le_of_ble_eq_true rfl) (x_M_restore N (Nat.le_trans (Nat.le_of_ble_eq_true rfl) hd) (h148.1 17 0 (l3 + (1 : Int32)).toNatClampNeg) h148 (sh_okB H) (fun v149 h150 H => ?_)))
        show wq_L d Q 2079 [oR 17 0, oR 11 0, oR 12 0, oI l3] [aI v149, aI v147] (sh_E h150)
        refine ai_WP_steps mc_L (sh_CM d) 1 (And.intro (fun c => ?_) (fun c => ?_))
        · replace H := sh_okT c H
          exact x_law_b2107 N hd hR k18 hk18 l3 h150 H
        · replace H := sh_okF c H
          show wq_L d Q 2082 [oR 17 0, oR 11 0, oR 12 0, oI l3] [] (sh_E h150)
          exact ai_WP_steps mc_L (sh_CM d) 2 (hR (ai_nar 1 (0 : Int32)) h150 H)
      replace H := sh_okF c H
      refine And.intro (fun c => ?_) (fun c => ?_)
      · replace H := sh_okT c H
        show wq_L d Q 2084 [oR 17 0, oR 11 0, oR 12 0, oI l3] [] (sh_E h)
        have c := sh_okG H
        replace H := sh_okH H
        refine ai_WP_steps mc_L (sh_CM d) 6 (And.intro c ?_)
        show wq_L d Q 2090 [oR 17 0, oR 11 0, oR 12 0, oI l3] [aI (h.1 17 0 (l3 + (1 : Int32)).toNatClampNeg), aR 11 0] (sh_E h)
        refine ai_WP_steps mc_L (sh_CM d) 1 (And.intro (Nat.le_of_ble_eq_true rfl) (x_CB_count (Nat.le_trans (Nat.le_of_ble_eq_true rfl) hd) (h.1 17 0 (l3 + (1 : Int32)).toNatClampNeg) h (sh_okB H) (fun v151 H => ?_)))
        show wq_L d Q 2093 [oR 17 0, oR 11 0, oR 12 0, oI l3] [aI v151] (sh_E h)
        have c := sh_okG H
        replace H := sh_okH H
        refine ai_WP_steps mc_L (sh_CM d) 6 (And.intro c ?_)
        show wq_L d Q 2099 [oR 17 0, oR 11 0, oR 12 0, oI l3] [aI (h.1 17 0 (l3 + (1 : Int32)).toNatClampNeg), aR 12 0, aI v151] (sh_E h)
        refine ai_WP_steps mc_L (sh_CM d) 1 (And.intro (Nat.le_of_ble_eq_true rfl) (x_M_count (Nat.le_trans (Nat.le_of_ble_eq_true rfl) hd) (h.1 17 0 (l3 + (1 : Int32)).toNatClampNeg) h (sh_okB H) (fun v152 H => ?_)))
        show wq_L d Q 2102 [oR 17 0, oR 11 0, oR 12 0, oI l3] [aI v152, aI v151] (sh_E h)
        refine ai_WP_steps mc_L (sh_CM d) 1 (And.intro (fun c => ?_) (fun c => ?_))
        · replace H := sh_okT c H
          exact x_law_b2107 N hd hR k18 hk18 l3 h H
        · replace H := sh_okF c H
          show wq_L d Q 2105 [oR 17 0, oR 11 0, oR 12 0, oI l3] [] (sh_E h)
          exact ai_WP_steps mc_L (sh_CM d) 2 (hR (ai_nar 1 (0 : Int32)) h H)
      replace H := sh_okF c H
      exact x_law_b2107 N hd hR k18 hk18 l3 h H
def f_law (N : Nat)   (h : sh_H) : Option (Int32 × sh_H) := f_law_l18 N N (0 : Int32) h
theorem x_law (N : Nat) {d : Nat} (hd : 67 ≤ d) (h : sh_H) {Q : ai_Q} {R : Int32 × sh_H → Prop} (H : sh_ok (f_law N h) R) (hR : ∀ r h, R (r, h) → Q (some (aI r)) (sh_E h)) : wq_L d Q 16 [oR 17 0, oR 11 0, oR 12 0, none] [] (sh_E h) := by
  refine ai_WP_steps mc_L (sh_CM d) 2 ?_
  exact x_law_l18 N hd hR N (0 : Int32) h H
