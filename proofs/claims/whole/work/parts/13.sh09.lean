/-! shallow functions, written by program -/
def f_M_isJars_b31    (h : sh_H) : Option Int32 := (some (ai_nar 1 (0 : Int32)))
theorem x_M_isJars_b31 {d : Nat} (hd : 1 ≤ d) (h : sh_H) {Q : ai_Q} {R : Int32 → Prop} (hR : ∀ r, R r → Q (some (aI r)) (sh_E h))    {d0 d1 d2 d3 : Option ai_V} (H : sh_ok (f_M_isJars_b31 h) R) : wq_327 d Q 31 [d0, d1, d2, d3] [] (sh_E h) := by
  exact ai_WP_steps mc_327 (sh_CM d) 2 (hR (ai_nar 1 (0 : Int32)) H)
def f_M_isJars  (l1 : Int32) (l2 : Int32) (l3 : Int32) (h : sh_H) : Option Int32 := (Option.bind (f_M_isIsland l1 h) (fun v1 => (if v1 = 0 then f_M_isJars_b31 h else (Option.bind (f_M_isKnown l2 h) (fun v2 => (if v2 = 0 then f_M_isJars_b31 h else (Option.bind (f_M_isIn l3 (1 : Int32) (501 : Int32) h) (fun v3 => (if v3 = 0 then f_M_isJars_b31 h else (some (ai_nar 1 (1 : Int32))))))))))))
theorem x_M_isJars {d : Nat} (hd : 2 ≤ d) (l1 : Int32) (l2 : Int32) (l3 : Int32) (h : sh_H) {Q : ai_Q} {R : Int32 → Prop} (H : sh_ok (f_M_isJars l1 l2 l3 h) R) (hR : ∀ r, R r → Q (some (aI r)) (sh_E h)) : ai_Ex sh_T d 327 [aR 12 0, aI l1, aI l2, aI l3] (sh_E h) Q := by
  obtain ⟨d, rfl⟩ : ∃ e, d = e + 1 := ⟨d - 1, by omega⟩
  replace hd : 1 ≤ d := by omega
  refine And.intro (Nat.le_of_ble_eq_true rfl) ?_
  show wq_327 d Q 0 [oR 12 0, oI l1, oI l2, oI l3] [] (sh_E h)
  refine ai_WP_steps mc_327 (sh_CM d) 3 (And.intro (Nat.le_of_ble_eq_true rfl) (x_M_isIsland (Nat.le_trans (Nat.le_of_ble_eq_true rfl) hd) l1 h (sh_okB H) (fun v1 H => ?_)))
  show wq_327 d Q 5 [oR 12 0, oI l1, oI l2, oI l3] [aI v1] (sh_E h)
  refine ai_WP_steps mc_327 (sh_CM d) 1 (And.intro (fun c => ?_) (fun c => ?_))
  · replace H := sh_okT c H
    exact x_M_isJars_b31 hd h hR H
  · replace H := sh_okF c H
    show wq_327 d Q 8 [oR 12 0, oI l1, oI l2, oI l3] [] (sh_E h)
    refine ai_WP_steps mc_327 (sh_CM d) 3 (And.intro (Nat.le_of_ble_eq_true rfl) (x_M_isKnown (Nat.le_trans (Nat.le_of_ble_eq_true rfl) hd) l2 h (sh_okB H) (fun v2 H => ?_)))
    show wq_327 d Q 13 [oR 12 0, oI l1, oI l2, oI l3] [aI v2] (sh_E h)
    refine ai_WP_steps mc_327 (sh_CM d) 1 (And.intro (fun c => ?_) (fun c => ?_))
    · replace H := sh_okT c H
      exact x_M_isJars_b31 hd h hR H
    · replace H := sh_okF c H
      show wq_327 d Q 16 [oR 12 0, oI l1, oI l2, oI l3] [] (sh_E h)
      refine ai_WP_steps mc_327 (sh_CM d) 4 (And.intro (Nat.le_of_ble_eq_true rfl) (x_M_isIn (Nat.le_trans (Nat.le_of_ble_eq_true rfl) hd) l3 (1 : Int32) (501 : Int32) h (sh_okB H) (fun v3 H => ?_)))
      show wq_327 d Q 24 [oR 12 0, oI l1, oI l2, oI l3] [aI v3] (sh_E h)
      refine ai_WP_steps mc_327 (sh_CM d) 1 (And.intro (fun c => ?_) (fun c => ?_))
      · replace H := sh_okT c H
        exact x_M_isJars_b31 hd h hR H
      · replace H := sh_okF c H
        show wq_327 d Q 27 [oR 12 0, oI l1, oI l2, oI l3] [] (sh_E h)
        exact ai_WP_steps mc_327 (sh_CM d) 3 (hR (ai_nar 1 (1 : Int32)) H)
def f_M_jars_b95 (N : Nat)  (k50 : Int32 → Int32 → Int32 → Int32 → Int32 → Int32 → Int32 → sh_H → Option (Int32 × sh_H)) (l3 : Int32) (l4 : Int32) (l5 : Int32) (l6 : Int32) (l7 : Int32) (l8 : Int32) (l9 : Int32) (h : sh_H) : Option (Int32 × sh_H) := k50 l3 l4 l5 l6 l7 l8 (l9 + (1 : Int32)) h
theorem x_M_jars_b95 (N : Nat) {d : Nat} (hd : 3 ≤ d) {Q : ai_Q} {R : Int32 × sh_H → Prop} (hR : ∀ r h, R (r, h) → Q (some (aI r)) (sh_E h))  (k50 : Int32 → Int32 → Int32 → Int32 → Int32 → Int32 → Int32 → sh_H → Option (Int32 × sh_H)) (hk50 : ∀ (l3 : Int32) (l4 : Int32) (l5 : Int32) (l6 : Int32) (l7 : Int32) (l8 : Int32) (l9 : Int32) {d1 d2 d10 : Option ai_V} (h : sh_H), sh_ok (k50 l3 l4 l5 l6 l7 l8 l9 h) R → wq_328 d Q 50 [oR 12 0, d1, d2, oI l3, oI l4, oI l5, oI l6, oI l7, oI l8, oI l9, d10] [] (sh_E h)) (l3 : Int32) (l4 : Int32) (l5 : Int32) (l6 : Int32) (l7 : Int32) (l8 : Int32) (l9 : Int32) {d1 d2 d10 : Option ai_V} (h : sh_H) (H : sh_ok (f_M_jars_b95 N k50 l3 l4 l5 l6 l7 l8 l9 h) R) : wq_328 d Q 95 [oR 12 0, d1, d2, oI l3, oI l4, oI l5, oI l6, oI l7, oI l8, oI l9, d10] [] (sh_E h) := by
  refine ai_WP_steps mc_328 (sh_CM d) 2 ?_
  exact hk50 l3 l4 l5 l6 l7 l8 (l9 + (1 : Int32)) h H
def f_M_jars_b83 (N : Nat)  (k50 : Int32 → Int32 → Int32 → Int32 → Int32 → Int32 → Int32 → sh_H → Option (Int32 × sh_H)) (l3 : Int32) (l4 : Int32) (l8 : Int32) (l9 : Int32) (l10 : Int32) (h : sh_H) : Option (Int32 × sh_H) := f_M_jars_b95 N k50 l3 l4 l8 l9 l10 l8 l9 h
theorem x_M_jars_b83 (N : Nat) {d : Nat} (hd : 3 ≤ d) {Q : ai_Q} {R : Int32 × sh_H → Prop} (hR : ∀ r h, R (r, h) → Q (some (aI r)) (sh_E h))  (k50 : Int32 → Int32 → Int32 → Int32 → Int32 → Int32 → Int32 → sh_H → Option (Int32 × sh_H)) (hk50 : ∀ (l3 : Int32) (l4 : Int32) (l5 : Int32) (l6 : Int32) (l7 : Int32) (l8 : Int32) (l9 : Int32) {d1 d2 d10 : Option ai_V} (h : sh_H), sh_ok (k50 l3 l4 l5 l6 l7 l8 l9 h) R → wq_328 d Q 50 [oR 12 0, d1, d2, oI l3, oI l4, oI l5, oI l6, oI l7, oI l8, oI l9, d10] [] (sh_E h)) (l3 : Int32) (l4 : Int32) (l8 : Int32) (l9 : Int32) (l10 : Int32) {d1 d2 d5 d6 d7 : Option ai_V} (h : sh_H) (H : sh_ok (f_M_jars_b83 N k50 l3 l4 l8 l9 l10 h) R) : wq_328 d Q 83 [oR 12 0, d1, d2, oI l3, oI l4, d5, d6, d7, oI l8, oI l9, oI l10] [] (sh_E h) := by
  refine ai_WP_steps mc_328 (sh_CM d) 6 ?_
  exact x_M_jars_b95 N hd hR k50 hk50 l3 l4 l8 l9 l10 l8 l9 h H
def f_M_jars_l50 (N : Nat)  (k101 : Int32 → Int32 → Int32 → Int32 → Int32 → Int32 → sh_H → Option (Int32 × sh_H)) (n : Nat) : Int32 → Int32 → Int32 → Int32 → Int32 → Int32 → Int32 → sh_H → Option (Int32 × sh_H) := Nat.rec (motive := fun _ => Int32 → Int32 → Int32 → Int32 → Int32 → Int32 → Int32 → sh_H → Option (Int32 × sh_H)) (fun _ _ _ _ _ _ _ _ => none) (fun _ k50 l3 l4 l5 l6 l7 l8 l9 h => (if l9 < (11 : Int32) then (Option.bind (f_M_offBy N l8 l9 l3 h) (fun v1 => (if l7 < 0 then f_M_jars_b83 N k50 l3 l4 l8 l9 v1 h else (if v1 < l7 then f_M_jars_b83 N k50 l3 l4 l8 l9 v1 h else f_M_jars_b95 N k50 l3 l4 l5 l6 l7 l8 l9 h)))) else k101 l3 l4 l5 l6 l7 l8 h)) n
theorem x_M_jars_l50 (N : Nat) {d : Nat} (hd : 3 ≤ d) {Q : ai_Q} {R : Int32 × sh_H → Prop} (hR : ∀ r h, R (r, h) → Q (some (aI r)) (sh_E h))  (k101 : Int32 → Int32 → Int32 → Int32 → Int32 → Int32 → sh_H → Option (Int32 × sh_H)) (hk101 : ∀ (l3 : Int32) (l4 : Int32) (l5 : Int32) (l6 : Int32) (l7 : Int32) (l8 : Int32) {d1 d2 d9 d10 : Option ai_V} (h : sh_H), sh_ok (k101 l3 l4 l5 l6 l7 l8 h) R → wq_328 d Q 101 [oR 12 0, d1, d2, oI l3, oI l4, oI l5, oI l6, oI l7, oI l8, d9, d10] [] (sh_E h)) (n : Nat) : ∀ (l3 : Int32) (l4 : Int32) (l5 : Int32) (l6 : Int32) (l7 : Int32) (l8 : Int32) (l9 : Int32) {d1 d2 d10 : Option ai_V} (h : sh_H), sh_ok (f_M_jars_l50 N k101 n l3 l4 l5 l6 l7 l8 l9 h) R → wq_328 d Q 50 [oR 12 0, d1, d2, oI l3, oI l4, oI l5, oI l6, oI l7, oI l8, oI l9, d10] [] (sh_E h) := by
  induction n with
  | zero => intro l3 l4 l5 l6 l7 l8 l9 d1 d2 d10 h H; exact H.elim
  | succ n ih =>
    intro l3 l4 l5 l6 l7 l8 l9 d1 d2 d10 h H
    have hk50 := @ih
    revert hk50 H
    show sh_ok ((fun k50 l3 l4 l5 l6 l7 l8 l9 h => (if l9 < (11 : Int32) then (Option.bind (f_M_offBy N l8 l9 l3 h) (fun v1 => (if l7 < 0 then f_M_jars_b83 N k50 l3 l4 l8 l9 v1 h else (if v1 < l7 then f_M_jars_b83 N k50 l3 l4 l8 l9 v1 h else f_M_jars_b95 N k50 l3 l4 l5 l6 l7 l8 l9 h)))) else k101 l3 l4 l5 l6 l7 l8 h)) (f_M_jars_l50 N k101 n) l3 l4 l5 l6 l7 l8 l9 h) R → _
    generalize f_M_jars_l50 N k101 n = k50
    intro H hk50
    refine ai_WP_steps mc_328 (sh_CM d) 3 (And.intro (fun c => ?_) (fun c => ?_))
    · replace H := sh_okT c H
      show wq_328 d Q 57 [oR 12 0, _, _, oI l3, oI l4, oI l5, oI l6, oI l7, oI l8, oI l9, _] [] (sh_E h)
      refine ai_WP_steps mc_328 (sh_CM d) 5 (And.intro (Nat.le_of_ble_eq_true rfl) (x_M_offBy N (Nat.le_trans (Nat.le_of_ble_eq_true rfl) hd) l8 l9 l3 h (sh_okB H) (fun v1 H => ?_)))
      show wq_328 d Q 66 [oR 12 0, _, _, oI l3, oI l4, oI l5, oI l6, oI l7, oI l8, oI l9, _] [aI v1] (sh_E h)
      refine ai_WP_steps mc_328 (sh_CM d) 3 (And.intro (fun c => ?_) (fun c => ?_))
      · replace H := sh_okT c H
        exact x_M_jars_b83 N hd hR k50 hk50 l3 l4 l8 l9 v1 h H
      · replace H := sh_okF c H
        show wq_328 d Q 73 [oR 12 0, _, _, oI l3, oI l4, oI l5, oI l6, oI l7, oI l8, oI l9, oI v1] [] (sh_E h)
        refine ai_WP_steps mc_328 (sh_CM d) 3 (And.intro (fun c => ?_) (fun c => ?_))
        · replace H := sh_okT c H
          exact x_M_jars_b83 N hd hR k50 hk50 l3 l4 l8 l9 v1 h H
        · replace H := sh_okF c H
          show wq_328 d Q 80 [oR 12 0, _, _, oI l3, oI l4, oI l5, oI l6, oI l7, oI l8, oI l9, oI v1] [] (sh_E h)
          refine ai_WP_steps mc_328 (sh_CM d) 1 ?_
          exact x_M_jars_b95 N hd hR k50 hk50 l3 l4 l5 l6 l7 l8 l9 h H
    · replace H := sh_okF c H
      exact hk101 l3 l4 l5 l6 l7 l8 h H
def f_M_jars_b101 (N : Nat)  (k40 : Int32 → Int32 → Int32 → Int32 → Int32 → Int32 → sh_H → Option (Int32 × sh_H)) (l3 : Int32) (l4 : Int32) (l5 : Int32) (l6 : Int32) (l7 : Int32) (l8 : Int32) (h : sh_H) : Option (Int32 × sh_H) := k40 l3 l4 l5 l6 l7 (l8 + (1 : Int32)) h
theorem x_M_jars_b101 (N : Nat) {d : Nat} (hd : 3 ≤ d) {Q : ai_Q} {R : Int32 × sh_H → Prop} (hR : ∀ r h, R (r, h) → Q (some (aI r)) (sh_E h))  (k40 : Int32 → Int32 → Int32 → Int32 → Int32 → Int32 → sh_H → Option (Int32 × sh_H)) (hk40 : ∀ (l3 : Int32) (l4 : Int32) (l5 : Int32) (l6 : Int32) (l7 : Int32) (l8 : Int32) {d1 d2 d9 d10 : Option ai_V} (h : sh_H), sh_ok (k40 l3 l4 l5 l6 l7 l8 h) R → wq_328 d Q 40 [oR 12 0, d1, d2, oI l3, oI l4, oI l5, oI l6, oI l7, oI l8, d9, d10] [] (sh_E h)) (l3 : Int32) (l4 : Int32) (l5 : Int32) (l6 : Int32) (l7 : Int32) (l8 : Int32) {d1 d2 d9 d10 : Option ai_V} (h : sh_H) (H : sh_ok (f_M_jars_b101 N k40 l3 l4 l5 l6 l7 l8 h) R) : wq_328 d Q 101 [oR 12 0, d1, d2, oI l3, oI l4, oI l5, oI l6, oI l7, oI l8, d9, d10] [] (sh_E h) := by
  refine ai_WP_steps mc_328 (sh_CM d) 2 ?_
  exact hk40 l3 l4 l5 l6 l7 (l8 + (1 : Int32)) h H
def f_M_jars_l40 (N : Nat)  (k107 : Int32 → Int32 → Int32 → Int32 → sh_H → Option (Int32 × sh_H)) (n : Nat) : Int32 → Int32 → Int32 → Int32 → Int32 → Int32 → sh_H → Option (Int32 × sh_H) := Nat.rec (motive := fun _ => Int32 → Int32 → Int32 → Int32 → Int32 → Int32 → sh_H → Option (Int32 × sh_H)) (fun _ _ _ _ _ _ _ => none) (fun _ k40 l3 l4 l5 l6 l7 l8 h => (if l8 < (11 : Int32) then f_M_jars_l50 N (f_M_jars_b101 N k40) N l3 l4 l5 l6 l7 l8 (0 : Int32) h else k107 l4 l5 l6 l7 h)) n
theorem x_M_jars_l40 (N : Nat) {d : Nat} (hd : 3 ≤ d) {Q : ai_Q} {R : Int32 × sh_H → Prop} (hR : ∀ r h, R (r, h) → Q (some (aI r)) (sh_E h))  (k107 : Int32 → Int32 → Int32 → Int32 → sh_H → Option (Int32 × sh_H)) (hk107 : ∀ (l4 : Int32) (l5 : Int32) (l6 : Int32) (l7 : Int32) {d0 d1 d2 d3 d8 d9 d10 : Option ai_V} (h : sh_H), sh_ok (k107 l4 l5 l6 l7 h) R → wq_328 d Q 107 [d0, d1, d2, d3, oI l4, oI l5, oI l6, oI l7, d8, d9, d10] [] (sh_E h)) (n : Nat) : ∀ (l3 : Int32) (l4 : Int32) (l5 : Int32) (l6 : Int32) (l7 : Int32) (l8 : Int32) {d1 d2 d9 d10 : Option ai_V} (h : sh_H), sh_ok (f_M_jars_l40 N k107 n l3 l4 l5 l6 l7 l8 h) R → wq_328 d Q 40 [oR 12 0, d1, d2, oI l3, oI l4, oI l5, oI l6, oI l7, oI l8, d9, d10] [] (sh_E h) := by
  induction n with
  | zero => intro l3 l4 l5 l6 l7 l8 d1 d2 d9 d10 h H; exact H.elim
  | succ n ih =>
    intro l3 l4 l5 l6 l7 l8 d1 d2 d9 d10 h H
    have hk40 := @ih
    revert hk40 H
    show sh_ok ((fun k40 l3 l4 l5 l6 l7 l8 h => (if l8 < (11 : Int32) then f_M_jars_l50 N (f_M_jars_b101 N k40) N l3 l4 l5 l6 l7 l8 (0 : Int32) h else k107 l4 l5 l6 l7 h)) (f_M_jars_l40 N k107 n) l3 l4 l5 l6 l7 l8 h) R → _
    generalize f_M_jars_l40 N k107 n = k40
    intro H hk40
    refine ai_WP_steps mc_328 (sh_CM d) 3 (And.intro (fun c => ?_) (fun c => ?_))
    · replace H := sh_okT c H
      show wq_328 d Q 47 [oR 12 0, _, _, oI l3, oI l4, oI l5, oI l6, oI l7, oI l8, _, _] [] (sh_E h)
      refine ai_WP_steps mc_328 (sh_CM d) 2 ?_
      exact x_M_jars_l50 N hd hR (f_M_jars_b101 N k40) (fun z0 z1 z2 z3 z4 z5 {e1} {e2} {e9} {e10} h H => x_M_jars_b101 N hd hR k40 hk40 z0 z1 z2 z3 z4 z5 h H) N l3 l4 l5 l6 l7 l8 (0 : Int32) h H
    · replace H := sh_okF c H
      exact hk107 l4 l5 l6 l7 h H
def f_M_jars_b107 (N : Nat)   (l4 : Int32) (l5 : Int32) (l6 : Int32) (l7 : Int32) (h : sh_H) : Option (Int32 × sh_H) := (if l4 = 0 then (some (l5, h)) else (if l4 = (1 : Int32) then (some (l6, h)) else (some (l7, h))))
theorem x_M_jars_b107 (N : Nat) {d : Nat} (hd : 3 ≤ d) {Q : ai_Q} {R : Int32 × sh_H → Prop} (hR : ∀ r h, R (r, h) → Q (some (aI r)) (sh_E h))   (l4 : Int32) (l5 : Int32) (l6 : Int32) (l7 : Int32) {d0 d1 d2 d3 d8 d9 d10 : Option ai_V} (h : sh_H) (H : sh_ok (f_M_jars_b107 N l4 l5 l6 l7 h) R) : wq_328 d Q 107 [d0, d1, d2, d3, oI l4, oI l5, oI l6, oI l7, d8, d9, d10] [] (sh_E h) := by
  refine ai_WP_steps mc_328 (sh_CM d) 2 (And.intro (fun c => ?_) (fun c => ?_))
  · replace H := sh_okT c H
    show wq_328 d Q 112 [_, _, _, _, oI l4, oI l5, oI l6, oI l7, _, _, _] [] (sh_E h)
    exact ai_WP_steps mc_328 (sh_CM d) 3 (hR l5 h H)
  · replace H := sh_okF c H
    show wq_328 d Q 117 [_, _, _, _, oI l4, oI l5, oI l6, oI l7, _, _, _] [] (sh_E h)
    refine ai_WP_steps mc_328 (sh_CM d) 3 (And.intro (fun c => ?_) (fun c => ?_))
    · replace H := sh_okT c H
      show wq_328 d Q 123 [_, _, _, _, oI l4, oI l5, oI l6, oI l7, _, _, _] [] (sh_E h)
      exact ai_WP_steps mc_328 (sh_CM d) 3 (hR l6 h H)
    · replace H := sh_okF c H
      show wq_328 d Q 128 [_, _, _, _, oI l4, oI l5, oI l6, oI l7, _, _, _] [] (sh_E h)
      exact ai_WP_steps mc_328 (sh_CM d) 2 (hR l7 h H)
def f_M_jars (N : Nat)  (l1 : Int32) (l2 : Int32) (l3 : Int32) (l4 : Int32) (h : sh_H) : Option (Int32 × sh_H) := (Option.bind (f_M_isJars l1 l2 l3 h) (fun v2 => (if v2 = 0 then (some ((-1 : Int32), h)) else (Option.bind (f_M_isIn l4 (0 : Int32) (2 : Int32) h) (fun v3 => (if v3 = 0 then (some ((-1 : Int32), h)) else (Option.bind (f_M_layBooks N l1 l2 h) (fun h4 => f_M_jars_l40 N (f_M_jars_b107 N) N l3 l4 (0 : Int32) (0 : Int32) (-1 : Int32) (0 : Int32) h4))))))))
theorem x_M_jars (N : Nat) {d : Nat} (hd : 4 ≤ d) (l1 : Int32) (l2 : Int32) (l3 : Int32) (l4 : Int32) (h : sh_H) {Q : ai_Q} {R : Int32 × sh_H → Prop} (H : sh_ok (f_M_jars N l1 l2 l3 l4 h) R) (hR : ∀ r h, R (r, h) → Q (some (aI r)) (sh_E h)) : ai_Ex sh_T d 328 [aR 12 0, aI l1, aI l2, aI l3, aI l4] (sh_E h) Q := by
  obtain ⟨d, rfl⟩ : ∃ e, d = e + 1 := ⟨d - 1, by omega⟩
  replace hd : 3 ≤ d := by omega
  refine And.intro (Nat.le_of_ble_eq_true rfl) ?_
  show wq_328 d Q 0 [oR 12 0, oI l1, oI l2, oI l3, oI l4, none, none, none, none, none, none] [] (sh_E h)
  refine ai_WP_steps mc_328 (sh_CM d) 5 (And.intro (Nat.le_of_ble_eq_true rfl) (x_M_isJars (Nat.le_trans (Nat.le_of_ble_eq_true rfl) hd) l1 l2 l3 h (sh_okB H) (fun v2 H => ?_)))
  show wq_328 d Q 7 [oR 12 0, oI l1, oI l2, oI l3, oI l4, _, _, _, _, _, _] [aI v2] (sh_E h)
  refine ai_WP_steps mc_328 (sh_CM d) 1 (And.intro (fun c => ?_) (fun c => ?_))
  · replace H := sh_okT c H
    show wq_328 d Q 20 [oR 12 0, oI l1, oI l2, oI l3, oI l4, _, _, _, _, _, _] [] (sh_E h)
    exact ai_WP_steps mc_328 (sh_CM d) 2 (hR (-1 : Int32) h H)
  · replace H := sh_okF c H
    show wq_328 d Q 10 [oR 12 0, oI l1, oI l2, oI l3, oI l4, _, _, _, _, _, _] [] (sh_E h)
    refine ai_WP_steps mc_328 (sh_CM d) 4 (And.intro (Nat.le_of_ble_eq_true rfl) (x_M_isIn (Nat.le_trans (Nat.le_of_ble_eq_true rfl) hd) l4 (0 : Int32) (2 : Int32) h (sh_okB H) (fun v3 H => ?_)))
    show wq_328 d Q 17 [oR 12 0, oI l1, oI l2, oI l3, oI l4, _, _, _, _, _, _] [aI v3] (sh_E h)
    refine ai_WP_steps mc_328 (sh_CM d) 1 (And.intro (fun c => ?_) (fun c => ?_))
    · replace H := sh_okT c H
      show wq_328 d Q 20 [oR 12 0, oI l1, oI l2, oI l3, oI l4, _, _, _, _, _, _] [] (sh_E h)
      exact ai_WP_steps mc_328 (sh_CM d) 2 (hR (-1 : Int32) h H)
    · replace H := sh_okF c H
      show wq_328 d Q 22 [oR 12 0, oI l1, oI l2, oI l3, oI l4, _, _, _, _, _, _] [] (sh_E h)
      refine ai_WP_steps mc_328 (sh_CM d) 4 (And.intro (Nat.le_of_ble_eq_true rfl) (x_M_layBooks N (Nat.le_trans (Nat.le_of_ble_eq_true rfl) hd) l1 l2 h (sh_okB H) (fun h4 H => ?_)))
      show wq_328 d Q 28 [oR 12 0, oI l1, oI l2, oI l3, oI l4, _, _, _, _, _, _] [] (sh_E h4)
      refine ai_WP_steps mc_328 (sh_CM d) 8 ?_
      exact x_M_jars_l40 N hd hR (f_M_jars_b107 N) (fun z0 z1 z2 z3 {e0} {e1} {e2} {e3} {e8} {e9} {e10} h H => x_M_jars_b107 N hd hR z0 z1 z2 z3 h H) N l3 l4 (0 : Int32) (0 : Int32) (-1 : Int32) (0 : Int32) h4 H
def f_M_ends_b83 (N : Nat)  (k52 : Int32 → Int32 → Int32 → Int32 → Int32 → Int32 → Int32 → sh_H → Option (Int32 × sh_H)) (l3 : Int32) (l4 : Int32) (l5 : Int32) (l6 : Int32) (l7 : Int32) (l9 : Int32) (s0 : Int32) (h : sh_H) : Option (Int32 × sh_H) := k52 l3 l4 l5 l6 l7 s0 (l9 + (1 : Int32)) h
theorem x_M_ends_b83 (N : Nat) {d : Nat} (hd : 3 ≤ d) {Q : ai_Q} {R : Int32 × sh_H → Prop} (hR : ∀ r h, R (r, h) → Q (some (aI r)) (sh_E h))  (k52 : Int32 → Int32 → Int32 → Int32 → Int32 → Int32 → Int32 → sh_H → Option (Int32 × sh_H)) (hk52 : ∀ (l3 : Int32) (l4 : Int32) (l5 : Int32) (l6 : Int32) (l7 : Int32) (l8 : Int32) (l9 : Int32) {d1 d2 : Option ai_V} (h : sh_H), sh_ok (k52 l3 l4 l5 l6 l7 l8 l9 h) R → wq_329 d Q 52 [oR 12 0, d1, d2, oI l3, oI l4, oI l5, oI l6, oI l7, oI l8, oI l9] [] (sh_E h)) (l3 : Int32) (l4 : Int32) (l5 : Int32) (l6 : Int32) (l7 : Int32) (l9 : Int32) (s0 : Int32) {d1 d2 d8 : Option ai_V} (h : sh_H) (H : sh_ok (f_M_ends_b83 N k52 l3 l4 l5 l6 l7 l9 s0 h) R) : wq_329 d Q 83 [oR 12 0, d1, d2, oI l3, oI l4, oI l5, oI l6, oI l7, d8, oI l9] [aI s0] (sh_E h) := by
  refine ai_WP_steps mc_329 (sh_CM d) 3 ?_
  exact hk52 l3 l4 l5 l6 l7 s0 (l9 + (1 : Int32)) h H
def f_M_ends_l52 (N : Nat)  (k91 : Int32 → Int32 → Int32 → Int32 → Int32 → Int32 → sh_H → Option (Int32 × sh_H)) (n : Nat) : Int32 → Int32 → Int32 → Int32 → Int32 → Int32 → Int32 → sh_H → Option (Int32 × sh_H) := Nat.rec (motive := fun _ => Int32 → Int32 → Int32 → Int32 → Int32 → Int32 → Int32 → sh_H → Option (Int32 × sh_H)) (fun _ _ _ _ _ _ _ _ => none) (fun _ k52 l3 l4 l5 l6 l7 l8 l9 h => (if l9 < (11 : Int32) then (if l8 = 0 then (Option.bind (f_M_offBy N l7 l9 l3 h) (fun v1 => (if l4 < v1 then f_M_ends_b83 N k52 l3 l4 l5 l6 l7 l9 (0 : Int32) h else f_M_ends_b83 N k52 l3 l4 l5 l6 l7 l9 (1 : Int32) h))) else k91 l3 l4 l5 l6 l7 l8 h) else k91 l3 l4 l5 l6 l7 l8 h)) n
theorem x_M_ends_l52 (N : Nat) {d : Nat} (hd : 3 ≤ d) {Q : ai_Q} {R : Int32 × sh_H → Prop} (hR : ∀ r h, R (r, h) → Q (some (aI r)) (sh_E h))  (k91 : Int32 → Int32 → Int32 → Int32 → Int32 → Int32 → sh_H → Option (Int32 × sh_H)) (hk91 : ∀ (l3 : Int32) (l4 : Int32) (l5 : Int32) (l6 : Int32) (l7 : Int32) (l8 : Int32) {d1 d2 d9 : Option ai_V} (h : sh_H), sh_ok (k91 l3 l4 l5 l6 l7 l8 h) R → wq_329 d Q 91 [oR 12 0, d1, d2, oI l3, oI l4, oI l5, oI l6, oI l7, oI l8, d9] [] (sh_E h)) (n : Nat) : ∀ (l3 : Int32) (l4 : Int32) (l5 : Int32) (l6 : Int32) (l7 : Int32) (l8 : Int32) (l9 : Int32) {d1 d2 : Option ai_V} (h : sh_H), sh_ok (f_M_ends_l52 N k91 n l3 l4 l5 l6 l7 l8 l9 h) R → wq_329 d Q 52 [oR 12 0, d1, d2, oI l3, oI l4, oI l5, oI l6, oI l7, oI l8, oI l9] [] (sh_E h) := by
  induction n with
  | zero => intro l3 l4 l5 l6 l7 l8 l9 d1 d2 h H; exact H.elim
  | succ n ih =>
    intro l3 l4 l5 l6 l7 l8 l9 d1 d2 h H
    have hk52 := @ih
    revert hk52 H
    show sh_ok ((fun k52 l3 l4 l5 l6 l7 l8 l9 h => (if l9 < (11 : Int32) then (if l8 = 0 then (Option.bind (f_M_offBy N l7 l9 l3 h) (fun v1 => (if l4 < v1 then f_M_ends_b83 N k52 l3 l4 l5 l6 l7 l9 (0 : Int32) h else f_M_ends_b83 N k52 l3 l4 l5 l6 l7 l9 (1 : Int32) h))) else k91 l3 l4 l5 l6 l7 l8 h) else k91 l3 l4 l5 l6 l7 l8 h)) (f_M_ends_l52 N k91 n) l3 l4 l5 l6 l7 l8 l9 h) R → _
    generalize f_M_ends_l52 N k91 n = k52
    intro H hk52
    refine ai_WP_steps mc_329 (sh_CM d) 3 (And.intro (fun c => ?_) (fun c => ?_))
    · replace H := sh_okT c H
      show wq_329 d Q 59 [oR 12 0, _, _, oI l3, oI l4, oI l5, oI l6, oI l7, oI l8, oI l9] [] (sh_E h)
      refine ai_WP_steps mc_329 (sh_CM d) 2 (And.intro (fun c => ?_) (fun c => ?_))
      · replace H := sh_okT c H
        show wq_329 d Q 64 [oR 12 0, _, _, oI l3, oI l4, oI l5, oI l6, oI l7, oI l8, oI l9] [] (sh_E h)
        refine ai_WP_steps mc_329 (sh_CM d) 5 (And.intro (Nat.le_of_ble_eq_true rfl) (x_M_offBy N (Nat.le_trans (Nat.le_of_ble_eq_true rfl) hd) l7 l9 l3 h (sh_okB H) (fun v1 H => ?_)))
        show wq_329 d Q 73 [oR 12 0, _, _, oI l3, oI l4, oI l5, oI l6, oI l7, oI l8, oI l9] [aI v1] (sh_E h)
        refine ai_WP_steps mc_329 (sh_CM d) 2 (And.intro (fun c => ?_) (fun c => ?_))
        · replace H := sh_okT c H
          show wq_329 d Q 82 [oR 12 0, _, _, oI l3, oI l4, oI l5, oI l6, oI l7, oI l8, oI l9] [] (sh_E h)
          refine ai_WP_steps mc_329 (sh_CM d) 1 ?_
          exact x_M_ends_b83 N hd hR k52 hk52 l3 l4 l5 l6 l7 l9 (0 : Int32) h H
        · replace H := sh_okF c H
          show wq_329 d Q 78 [oR 12 0, _, _, oI l3, oI l4, oI l5, oI l6, oI l7, oI l8, oI l9] [] (sh_E h)
          refine ai_WP_steps mc_329 (sh_CM d) 2 ?_
          exact x_M_ends_b83 N hd hR k52 hk52 l3 l4 l5 l6 l7 l9 (1 : Int32) h H
      · replace H := sh_okF c H
        exact hk91 l3 l4 l5 l6 l7 l8 h H
    · replace H := sh_okF c H
      exact hk91 l3 l4 l5 l6 l7 l8 h H
def f_M_ends_b112 (N : Nat)  (k39 : Int32 → Int32 → Int32 → Int32 → Int32 → sh_H → Option (Int32 × sh_H)) (l3 : Int32) (l4 : Int32) (l5 : Int32) (l6 : Int32) (l7 : Int32) (h : sh_H) : Option (Int32 × sh_H) := k39 l3 l4 l5 l6 (l7 + (1 : Int32)) h
theorem x_M_ends_b112 (N : Nat) {d : Nat} (hd : 3 ≤ d) {Q : ai_Q} {R : Int32 × sh_H → Prop} (hR : ∀ r h, R (r, h) → Q (some (aI r)) (sh_E h))  (k39 : Int32 → Int32 → Int32 → Int32 → Int32 → sh_H → Option (Int32 × sh_H)) (hk39 : ∀ (l3 : Int32) (l4 : Int32) (l5 : Int32) (l6 : Int32) (l7 : Int32) {d1 d2 d8 d9 : Option ai_V} (h : sh_H), sh_ok (k39 l3 l4 l5 l6 l7 h) R → wq_329 d Q 39 [oR 12 0, d1, d2, oI l3, oI l4, oI l5, oI l6, oI l7, d8, d9] [] (sh_E h)) (l3 : Int32) (l4 : Int32) (l5 : Int32) (l6 : Int32) (l7 : Int32) {d1 d2 d8 d9 : Option ai_V} (h : sh_H) (H : sh_ok (f_M_ends_b112 N k39 l3 l4 l5 l6 l7 h) R) : wq_329 d Q 112 [oR 12 0, d1, d2, oI l3, oI l4, oI l5, oI l6, oI l7, d8, d9] [] (sh_E h) := by
  refine ai_WP_steps mc_329 (sh_CM d) 2 ?_
  exact hk39 l3 l4 l5 l6 (l7 + (1 : Int32)) h H
def f_M_ends_b108 (N : Nat)  (k39 : Int32 → Int32 → Int32 → Int32 → Int32 → sh_H → Option (Int32 × sh_H)) (l3 : Int32) (l4 : Int32) (l5 : Int32) (l7 : Int32) (h : sh_H) : Option (Int32 × sh_H) := f_M_ends_b112 N k39 l3 l4 l5 l7 l7 h
theorem x_M_ends_b108 (N : Nat) {d : Nat} (hd : 3 ≤ d) {Q : ai_Q} {R : Int32 × sh_H → Prop} (hR : ∀ r h, R (r, h) → Q (some (aI r)) (sh_E h))  (k39 : Int32 → Int32 → Int32 → Int32 → Int32 → sh_H → Option (Int32 × sh_H)) (hk39 : ∀ (l3 : Int32) (l4 : Int32) (l5 : Int32) (l6 : Int32) (l7 : Int32) {d1 d2 d8 d9 : Option ai_V} (h : sh_H), sh_ok (k39 l3 l4 l5 l6 l7 h) R → wq_329 d Q 39 [oR 12 0, d1, d2, oI l3, oI l4, oI l5, oI l6, oI l7, d8, d9] [] (sh_E h)) (l3 : Int32) (l4 : Int32) (l5 : Int32) (l7 : Int32) {d1 d2 d6 d8 d9 : Option ai_V} (h : sh_H) (H : sh_ok (f_M_ends_b108 N k39 l3 l4 l5 l7 h) R) : wq_329 d Q 108 [oR 12 0, d1, d2, oI l3, oI l4, oI l5, d6, oI l7, d8, d9] [] (sh_E h) := by
  refine ai_WP_steps mc_329 (sh_CM d) 2 ?_
  exact x_M_ends_b112 N hd hR k39 hk39 l3 l4 l5 l7 l7 h H
def f_M_ends_b91 (N : Nat)  (k39 : Int32 → Int32 → Int32 → Int32 → Int32 → sh_H → Option (Int32 × sh_H)) (l3 : Int32) (l4 : Int32) (l5 : Int32) (l6 : Int32) (l7 : Int32) (l8 : Int32) (h : sh_H) : Option (Int32 × sh_H) := (if l8 = 0 then f_M_ends_b112 N k39 l3 l4 l5 l6 l7 h else (if l5 < 0 then f_M_ends_b108 N k39 l3 l4 l7 l7 h else f_M_ends_b108 N k39 l3 l4 l5 l7 h))
theorem x_M_ends_b91 (N : Nat) {d : Nat} (hd : 3 ≤ d) {Q : ai_Q} {R : Int32 × sh_H → Prop} (hR : ∀ r h, R (r, h) → Q (some (aI r)) (sh_E h))  (k39 : Int32 → Int32 → Int32 → Int32 → Int32 → sh_H → Option (Int32 × sh_H)) (hk39 : ∀ (l3 : Int32) (l4 : Int32) (l5 : Int32) (l6 : Int32) (l7 : Int32) {d1 d2 d8 d9 : Option ai_V} (h : sh_H), sh_ok (k39 l3 l4 l5 l6 l7 h) R → wq_329 d Q 39 [oR 12 0, d1, d2, oI l3, oI l4, oI l5, oI l6, oI l7, d8, d9] [] (sh_E h)) (l3 : Int32) (l4 : Int32) (l5 : Int32) (l6 : Int32) (l7 : Int32) (l8 : Int32) {d1 d2 d9 : Option ai_V} (h : sh_H) (H : sh_ok (f_M_ends_b91 N k39 l3 l4 l5 l6 l7 l8 h) R) : wq_329 d Q 91 [oR 12 0, d1, d2, oI l3, oI l4, oI l5, oI l6, oI l7, oI l8, d9] [] (sh_E h) := by
  refine ai_WP_steps mc_329 (sh_CM d) 2 (And.intro (fun c => ?_) (fun c => ?_))
  · replace H := sh_okT c H
    show wq_329 d Q 96 [oR 12 0, _, _, oI l3, oI l4, oI l5, oI l6, oI l7, oI l8, _] [] (sh_E h)
    refine ai_WP_steps mc_329 (sh_CM d) 1 ?_
    exact x_M_ends_b112 N hd hR k39 hk39 l3 l4 l5 l6 l7 h H
  · replace H := sh_okF c H
    show wq_329 d Q 99 [oR 12 0, _, _, oI l3, oI l4, oI l5, oI l6, oI l7, oI l8, _] [] (sh_E h)
    refine ai_WP_steps mc_329 (sh_CM d) 2 (And.intro (fun c => ?_) (fun c => ?_))
    · replace H := sh_okT c H
      show wq_329 d Q 104 [oR 12 0, _, _, oI l3, oI l4, oI l5, oI l6, oI l7, oI l8, _] [] (sh_E h)
      refine ai_WP_steps mc_329 (sh_CM d) 2 ?_
      exact x_M_ends_b108 N hd hR k39 hk39 l3 l4 l7 l7 h H
    · replace H := sh_okF c H
      exact x_M_ends_b108 N hd hR k39 hk39 l3 l4 l5 l7 h H
def f_M_ends_l39 (N : Nat)  (k118 : Int32 → Int32 → sh_H → Option (Int32 × sh_H)) (n : Nat) : Int32 → Int32 → Int32 → Int32 → Int32 → sh_H → Option (Int32 × sh_H) := Nat.rec (motive := fun _ => Int32 → Int32 → Int32 → Int32 → Int32 → sh_H → Option (Int32 × sh_H)) (fun _ _ _ _ _ _ => none) (fun _ k39 l3 l4 l5 l6 l7 h => (if l7 < (11 : Int32) then f_M_ends_l52 N (f_M_ends_b91 N k39) N l3 l4 l5 l6 l7 (0 : Int32) (0 : Int32) h else k118 l5 l6 h)) n
theorem x_M_ends_l39 (N : Nat) {d : Nat} (hd : 3 ≤ d) {Q : ai_Q} {R : Int32 × sh_H → Prop} (hR : ∀ r h, R (r, h) → Q (some (aI r)) (sh_E h))  (k118 : Int32 → Int32 → sh_H → Option (Int32 × sh_H)) (hk118 : ∀ (l5 : Int32) (l6 : Int32) {d0 d1 d2 d3 d4 d7 d8 d9 : Option ai_V} (h : sh_H), sh_ok (k118 l5 l6 h) R → wq_329 d Q 118 [d0, d1, d2, d3, d4, oI l5, oI l6, d7, d8, d9] [] (sh_E h)) (n : Nat) : ∀ (l3 : Int32) (l4 : Int32) (l5 : Int32) (l6 : Int32) (l7 : Int32) {d1 d2 d8 d9 : Option ai_V} (h : sh_H), sh_ok (f_M_ends_l39 N k118 n l3 l4 l5 l6 l7 h) R → wq_329 d Q 39 [oR 12 0, d1, d2, oI l3, oI l4, oI l5, oI l6, oI l7, d8, d9] [] (sh_E h) := by
  induction n with
  | zero => intro l3 l4 l5 l6 l7 d1 d2 d8 d9 h H; exact H.elim
  | succ n ih =>
    intro l3 l4 l5 l6 l7 d1 d2 d8 d9 h H
    have hk39 := @ih
    revert hk39 H
    show sh_ok ((fun k39 l3 l4 l5 l6 l7 h => (if l7 < (11 : Int32) then f_M_ends_l52 N (f_M_ends_b91 N k39) N l3 l4 l5 l6 l7 (0 : Int32) (0 : Int32) h else k118 l5 l6 h)) (f_M_ends_l39 N k118 n) l3 l4 l5 l6 l7 h) R → _
    generalize f_M_ends_l39 N k118 n = k39
    intro H hk39
    refine ai_WP_steps mc_329 (sh_CM d) 3 (And.intro (fun c => ?_) (fun c => ?_))
    · replace H := sh_okT c H
      show wq_329 d Q 46 [oR 12 0, _, _, oI l3, oI l4, oI l5, oI l6, oI l7, _, _] [] (sh_E h)
      refine ai_WP_steps mc_329 (sh_CM d) 4 ?_
      exact x_M_ends_l52 N hd hR (f_M_ends_b91 N k39) (fun z0 z1 z2 z3 z4 z5 {e1} {e2} {e9} h H => x_M_ends_b91 N hd hR k39 hk39 z0 z1 z2 z3 z4 z5 h H) N l3 l4 l5 l6 l7 (0 : Int32) (0 : Int32) h H
    · replace H := sh_okF c H
      exact hk118 l5 l6 h H
def f_M_ends_b118 (N : Nat)   (l5 : Int32) (l6 : Int32) (h : sh_H) : Option (Int32 × sh_H) := (if l5 < 0 then (some ((-2 : Int32), h)) else (some ((((100 : Int32) * l5) + l6), h)))
theorem x_M_ends_b118 (N : Nat) {d : Nat} (hd : 3 ≤ d) {Q : ai_Q} {R : Int32 × sh_H → Prop} (hR : ∀ r h, R (r, h) → Q (some (aI r)) (sh_E h))   (l5 : Int32) (l6 : Int32) {d0 d1 d2 d3 d4 d7 d8 d9 : Option ai_V} (h : sh_H) (H : sh_ok (f_M_ends_b118 N l5 l6 h) R) : wq_329 d Q 118 [d0, d1, d2, d3, d4, oI l5, oI l6, d7, d8, d9] [] (sh_E h) := by
  refine ai_WP_steps mc_329 (sh_CM d) 2 (And.intro (fun c => ?_) (fun c => ?_))
  · replace H := sh_okT c H
    show wq_329 d Q 123 [_, _, _, _, _, oI l5, oI l6, _, _, _] [] (sh_E h)
    exact ai_WP_steps mc_329 (sh_CM d) 3 (hR (-2 : Int32) h H)
  · replace H := sh_okF c H
    show wq_329 d Q 128 [_, _, _, _, _, oI l5, oI l6, _, _, _] [] (sh_E h)
    exact ai_WP_steps mc_329 (sh_CM d) 6 (hR (((100 : Int32) * l5) + l6) h H)
def f_M_ends (N : Nat)  (l1 : Int32) (l2 : Int32) (l3 : Int32) (l4 : Int32) (h : sh_H) : Option (Int32 × sh_H) := (Option.bind (f_M_isJars l1 l2 l3 h) (fun v2 => (if v2 = 0 then (some ((-1 : Int32), h)) else (Option.bind (f_M_isIn l4 (0 : Int32) (99999 : Int32) h) (fun v3 => (if v3 = 0 then (some ((-1 : Int32), h)) else (Option.bind (f_M_layBooks N l1 l2 h) (fun h4 => f_M_ends_l39 N (f_M_ends_b118 N) N l3 l4 (-1 : Int32) (-1 : Int32) (0 : Int32) h4))))))))
theorem x_M_ends (N : Nat) {d : Nat} (hd : 4 ≤ d) (l1 : Int32) (l2 : Int32) (l3 : Int32) (l4 : Int32) (h : sh_H) {Q : ai_Q} {R : Int32 × sh_H → Prop} (H : sh_ok (f_M_ends N l1 l2 l3 l4 h) R) (hR : ∀ r h, R (r, h) → Q (some (aI r)) (sh_E h)) : ai_Ex sh_T d 329 [aR 12 0, aI l1, aI l2, aI l3, aI l4] (sh_E h) Q := by
  obtain ⟨d, rfl⟩ : ∃ e, d = e + 1 := ⟨d - 1, by omega⟩
  replace hd : 3 ≤ d := by omega
  refine And.intro (Nat.le_of_ble_eq_true rfl) ?_
  show wq_329 d Q 0 [oR 12 0, oI l1, oI l2, oI l3, oI l4, none, none, none, none, none] [] (sh_E h)
  refine ai_WP_steps mc_329 (sh_CM d) 5 (And.intro (Nat.le_of_ble_eq_true rfl) (x_M_isJars (Nat.le_trans (Nat.le_of_ble_eq_true rfl) hd) l1 l2 l3 h (sh_okB H) (fun v2 H => ?_)))
  show wq_329 d Q 7 [oR 12 0, oI l1, oI l2, oI l3, oI l4, _, _, _, _, _] [aI v2] (sh_E h)
  refine ai_WP_steps mc_329 (sh_CM d) 1 (And.intro (fun c => ?_) (fun c => ?_))
  · replace H := sh_okT c H
    show wq_329 d Q 22 [oR 12 0, oI l1, oI l2, oI l3, oI l4, _, _, _, _, _] [] (sh_E h)
    exact ai_WP_steps mc_329 (sh_CM d) 2 (hR (-1 : Int32) h H)
  · replace H := sh_okF c H
    show wq_329 d Q 10 [oR 12 0, oI l1, oI l2, oI l3, oI l4, _, _, _, _, _] [] (sh_E h)
    refine ai_WP_steps mc_329 (sh_CM d) 4 (And.intro (Nat.le_of_ble_eq_true rfl) (x_M_isIn (Nat.le_trans (Nat.le_of_ble_eq_true rfl) hd) l4 (0 : Int32) (99999 : Int32) h (sh_okB H) (fun v3 H => ?_)))
    show wq_329 d Q 19 [oR 12 0, oI l1, oI l2, oI l3, oI l4, _, _, _, _, _] [aI v3] (sh_E h)
    refine ai_WP_steps mc_329 (sh_CM d) 1 (And.intro (fun c => ?_) (fun c => ?_))
    · replace H := sh_okT c H
      show wq_329 d Q 22 [oR 12 0, oI l1, oI l2, oI l3, oI l4, _, _, _, _, _] [] (sh_E h)
      exact ai_WP_steps mc_329 (sh_CM d) 2 (hR (-1 : Int32) h H)
    · replace H := sh_okF c H
      show wq_329 d Q 24 [oR 12 0, oI l1, oI l2, oI l3, oI l4, _, _, _, _, _] [] (sh_E h)
      refine ai_WP_steps mc_329 (sh_CM d) 4 (And.intro (Nat.le_of_ble_eq_true rfl) (x_M_layBooks N (Nat.le_trans (Nat.le_of_ble_eq_true rfl) hd) l1 l2 h (sh_okB H) (fun h4 H => ?_)))
      show wq_329 d Q 30 [oR 12 0, oI l1, oI l2, oI l3, oI l4, _, _, _, _, _] [] (sh_E h4)
      refine ai_WP_steps mc_329 (sh_CM d) 6 ?_
      exact x_M_ends_l39 N hd hR (f_M_ends_b118 N) (fun z0 z1 {e0} {e1} {e2} {e3} {e4} {e7} {e8} {e9} h H => x_M_ends_b118 N hd hR z0 z1 h H) N l3 l4 (-1 : Int32) (-1 : Int32) (0 : Int32) h4 H
def f_M_layFalse_l12 (N : Nat)  (k37 : Int32 → sh_H → Option sh_H) (n : Nat) : Int32 → Int32 → sh_H → Option sh_H := Nat.rec (motive := fun _ => Int32 → Int32 → sh_H → Option sh_H) (fun _ _ _ => none) (fun _ k12 l1 l2 h => (if l2 < (5 : Int32) then (if ai_in l2 5 then (sh_let (sh_pI h 13 60 l2.toNatClampNeg (0 : Int32)) (fun h1 => (if ai_in l2 5 then (sh_let (sh_pI h1 13 61 l2.toNatClampNeg (0 : Int32)) (fun h2 => k12 l1 (l2 + (1 : Int32)) h2)) else none))) else none) else k37 l1 h)) n
theorem x_M_layFalse_l12 (N : Nat) {d : Nat} (hd : 1 ≤ d) {Q : ai_Q} {R : sh_H → Prop} (hR : ∀ h, R h → Q none (sh_E h))  (k37 : Int32 → sh_H → Option sh_H) (hk37 : ∀ (l1 : Int32) {d2 d3 : Option ai_V} (h : sh_H), sh_ok (k37 l1 h) R → wq_330 d Q 37 [oR 12 0, oI l1, d2, d3] [] (sh_E h)) (n : Nat) : ∀ (l1 : Int32) (l2 : Int32) {d3 : Option ai_V} (h : sh_H), sh_ok (f_M_layFalse_l12 N k37 n l1 l2 h) R → wq_330 d Q 12 [oR 12 0, oI l1, oI l2, d3] [] (sh_E h) := by
  induction n with
  | zero => intro l1 l2 d3 h H; exact H.elim
  | succ n ih =>
    intro l1 l2 d3 h H
    have hk12 := @ih
    revert hk12 H
    show sh_ok ((fun k12 l1 l2 h => (if l2 < (5 : Int32) then (if ai_in l2 5 then (sh_let (sh_pI h 13 60 l2.toNatClampNeg (0 : Int32)) (fun h1 => (if ai_in l2 5 then (sh_let (sh_pI h1 13 61 l2.toNatClampNeg (0 : Int32)) (fun h2 => k12 l1 (l2 + (1 : Int32)) h2)) else none))) else none) else k37 l1 h)) (f_M_layFalse_l12 N k37 n) l1 l2 h) R → _
    generalize f_M_layFalse_l12 N k37 n = k12
    intro H hk12
    refine ai_WP_steps mc_330 (sh_CM d) 3 (And.intro (fun c => ?_) (fun c => ?_))
    · replace H := sh_okT c H
      show wq_330 d Q 17 [oR 12 0, oI l1, oI l2, _] [] (sh_E h)
      have c := sh_okG H
      replace H := sh_okH H
      refine ai_WP_steps mc_330 (sh_CM d) 5 (And.intro c ?_)
      show wq_330 d Q 24 [oR 12 0, oI l1, oI l2, _] [] (sh_E (sh_pI h 13 60 l2.toNatClampNeg (0 : Int32)))
      replace H := sh_okL H
      generalize sh_pI h 13 60 l2.toNatClampNeg (0 : Int32) = h1 at H ⊢
      have c := sh_okG H
      replace H := sh_okH H
      refine ai_WP_steps mc_330 (sh_CM d) 5 (And.intro c ?_)
      show wq_330 d Q 31 [oR 12 0, oI l1, oI l2, _] [] (sh_E (sh_pI h1 13 61 l2.toNatClampNeg (0 : Int32)))
      replace H := sh_okL H
      generalize sh_pI h1 13 61 l2.toNatClampNeg (0 : Int32) = h2 at H ⊢
      refine ai_WP_steps mc_330 (sh_CM d) 2 ?_
      exact hk12 l1 (l2 + (1 : Int32)) h2 H
    · replace H := sh_okF c H
      exact hk37 l1 h H
def f_M_layFalse_b156 (N : Nat)  (k39 : Int32 → Int32 → sh_H → Option sh_H) (l1 : Int32) (l2 : Int32) (h : sh_H) : Option sh_H := k39 l1 (l2 + (1 : Int32)) h
theorem x_M_layFalse_b156 (N : Nat) {d : Nat} (hd : 1 ≤ d) {Q : ai_Q} {R : sh_H → Prop} (hR : ∀ h, R h → Q none (sh_E h))  (k39 : Int32 → Int32 → sh_H → Option sh_H) (hk39 : ∀ (l1 : Int32) (l2 : Int32) {d3 : Option ai_V} (h : sh_H), sh_ok (k39 l1 l2 h) R → wq_330 d Q 39 [oR 12 0, oI l1, oI l2, d3] [] (sh_E h)) (l1 : Int32) (l2 : Int32) {d3 : Option ai_V} (h : sh_H) (H : sh_ok (f_M_layFalse_b156 N k39 l1 l2 h) R) : wq_330 d Q 156 [oR 12 0, oI l1, oI l2, d3] [] (sh_E h) := by
  refine ai_WP_steps mc_330 (sh_CM d) 2 ?_
  exact hk39 l1 (l2 + (1 : Int32)) h H
def f_M_layFalse_l39 (N : Nat)  (k162 : sh_H → Option sh_H) (n : Nat) : Int32 → Int32 → sh_H → Option sh_H := Nat.rec (motive := fun _ => Int32 → Int32 → sh_H → Option sh_H) (fun _ _ _ => none) (fun _ k39 l1 l2 h => (if l2 < l1 then (if ai_in ((550 : Int32) + ((4 : Int32) * l2)) 8000 then (if (h.1 13 46 ((550 : Int32) + ((4 : Int32) * l2)).toNatClampNeg) = (2 : Int32) then (Option.bind (f_M_isLive N l2 l1 h) (fun v3 => (if v3 = 0 then f_M_layFalse_b156 N k39 l1 l2 h else (if ai_in (((550 : Int32) + ((4 : Int32) * l2)) + (2 : Int32)) 8000 then (sh_let (sh_pI h 12 0 40 ((h.1 12 0 40) + (h.1 13 46 (((550 : Int32) + ((4 : Int32) * l2)) + (2 : Int32)).toNatClampNeg))) (fun h4 => (if ai_in (((550 : Int32) + ((4 : Int32) * l2)) + (3 : Int32)) 8000 then (sh_let (sh_pI h4 12 0 41 ((h4.1 12 0 41) + (h4.1 13 46 (((550 : Int32) + ((4 : Int32) * l2)) + (3 : Int32)).toNatClampNeg))) (fun h5 => (if ai_in (((550 : Int32) + ((4 : Int32) * l2)) + (1 : Int32)) 8000 then (if ai_in (h5.1 13 46 (((550 : Int32) + ((4 : Int32) * l2)) + (1 : Int32)).toNatClampNeg) 5 then (if ai_in (((550 : Int32) + ((4 : Int32) * l2)) + (2 : Int32)) 8000 then (if ai_in (h5.1 13 46 (((550 : Int32) + ((4 : Int32) * l2)) + (1 : Int32)).toNatClampNeg) 5 then (sh_let (sh_pI h5 13 60 (h5.1 13 46 (((550 : Int32) + ((4 : Int32) * l2)) + (1 : Int32)).toNatClampNeg).toNatClampNeg ((h5.1 13 60 (h5.1 13 46 (((550 : Int32) + ((4 : Int32) * l2)) + (1 : Int32)).toNatClampNeg).toNatClampNeg) + (h5.1 13 46 (((550 : Int32) + ((4 : Int32) * l2)) + (2 : Int32)).toNatClampNeg))) (fun h6 => (if ai_in (((550 : Int32) + ((4 : Int32) * l2)) + (1 : Int32)) 8000 then (if ai_in (h6.1 13 46 (((550 : Int32) + ((4 : Int32) * l2)) + (1 : Int32)).toNatClampNeg) 5 then (if ai_in (((550 : Int32) + ((4 : Int32) * l2)) + (3 : Int32)) 8000 then (if ai_in (h6.1 13 46 (((550 : Int32) + ((4 : Int32) * l2)) + (1 : Int32)).toNatClampNeg) 5 then (sh_let (sh_pI h6 13 61 (h6.1 13 46 (((550 : Int32) + ((4 : Int32) * l2)) + (1 : Int32)).toNatClampNeg).toNatClampNeg ((h6.1 13 61 (h6.1 13 46 (((550 : Int32) + ((4 : Int32) * l2)) + (1 : Int32)).toNatClampNeg).toNatClampNeg) + (h6.1 13 46 (((550 : Int32) + ((4 : Int32) * l2)) + (3 : Int32)).toNatClampNeg))) (fun h7 => f_M_layFalse_b156 N k39 l1 l2 h7)) else none) else none) else none) else none))) else none) else none) else none) else none))) else none))) else none)))) else f_M_layFalse_b156 N k39 l1 l2 h) else none) else k162 h)) n
theorem x_M_layFalse_l39 (N : Nat) {d : Nat} (hd : 1 ≤ d) {Q : ai_Q} {R : sh_H → Prop} (hR : ∀ h, R h → Q none (sh_E h))  (k162 : sh_H → Option sh_H) (hk162 : ∀ {d0 d1 d2 d3 : Option ai_V} (h : sh_H), sh_ok (k162 h) R → wq_330 d Q 162 [d0, d1, d2, d3] [] (sh_E h)) (n : Nat) : ∀ (l1 : Int32) (l2 : Int32) {d3 : Option ai_V} (h : sh_H), sh_ok (f_M_layFalse_l39 N k162 n l1 l2 h) R → wq_330 d Q 39 [oR 12 0, oI l1, oI l2, d3] [] (sh_E h) := by
  induction n with
  | zero => intro l1 l2 d3 h H; exact H.elim
  | succ n ih =>
    intro l1 l2 d3 h H
    have hk39 := @ih
    revert hk39 H
    show sh_ok ((fun k39 l1 l2 h => (if l2 < l1 then (if ai_in ((550 : Int32) + ((4 : Int32) * l2)) 8000 then (if (h.1 13 46 ((550 : Int32) + ((4 : Int32) * l2)).toNatClampNeg) = (2 : Int32) then (Option.bind (f_M_isLive N l2 l1 h) (fun v3 => (if v3 = 0 then f_M_layFalse_b156 N k39 l1 l2 h else (if ai_in (((550 : Int32) + ((4 : Int32) * l2)) + (2 : Int32)) 8000 then (sh_let (sh_pI h 12 0 40 ((h.1 12 0 40) + (h.1 13 46 (((550 : Int32) + ((4 : Int32) * l2)) + (2 : Int32)).toNatClampNeg))) (fun h4 => (if ai_in (((550 : Int32) + ((4 : Int32) * l2)) + (3 : Int32)) 8000 then (sh_let (sh_pI h4 12 0 41 ((h4.1 12 0 41) + (h4.1 13 46 (((550 : Int32) + ((4 : Int32) * l2)) + (3 : Int32)).toNatClampNeg))) (fun h5 => (if ai_in (((550 : Int32) + ((4 : Int32) * l2)) + (1 : Int32)) 8000 then (if ai_in (h5.1 13 46 (((550 : Int32) + ((4 : Int32) * l2)) + (1 : Int32)).toNatClampNeg) 5 then (if ai_in (((550 : Int32) + ((4 : Int32) * l2)) + (2 : Int32)) 8000 then (if ai_in (h5.1 13 46 (((550 : Int32) + ((4 : Int32) * l2)) + (1 : Int32)).toNatClampNeg) 5 then (sh_let (sh_pI h5 13 60 (h5.1 13 46 (((550 : Int32) + ((4 : Int32) * l2)) + (1 : Int32)).toNatClampNeg).toNatClampNeg ((h5.1 13 60 (h5.1 13 46 (((550 : Int32) + ((4 : Int32) * l2)) + (1 : Int32)).toNatClampNeg).toNatClampNeg) + (h5.1 13 46 (((550 : Int32) + ((4 : Int32) * l2)) + (2 : Int32)).toNatClampNeg))) (fun h6 => (if ai_in (((550 : Int32) + ((4 : Int32) * l2)) + (1 : Int32)) 8000 then (if ai_in (h6.1 13 46 (((550 : Int32) + ((4 : Int32) * l2)) + (1 : Int32)).toNatClampNeg) 5 then (if ai_in (((550 : Int32) + ((4 : Int32) * l2)) + (3 : Int32)) 8000 then (if ai_in (h6.1 13 46 (((550 : Int32) + ((4 : Int32) * l2)) + (1 : Int32)).toNatClampNeg) 5 then (sh_let (sh_pI h6 13 61 (h6.1 13 46 (((550 : Int32) + ((4 : Int32) * l2)) + (1 : Int32)).toNatClampNeg).toNatClampNeg ((h6.1 13 61 (h6.1 13 46 (((550 : Int32) + ((4 : Int32) * l2)) + (1 : Int32)).toNatClampNeg).toNatClampNeg) + (h6.1 13 46 (((550 : Int32) + ((4 : Int32) * l2)) + (3 : Int32)).toNatClampNeg))) (fun h7 => f_M_layFalse_b156 N k39 l1 l2 h7)) else none) else none) else none) else none))) else none) else none) else none) else none))) else none))) else none)))) else f_M_layFalse_b156 N k39 l1 l2 h) else none) else k162 h)) (f_M_layFalse_l39 N k162 n) l1 l2 h) R → _
    generalize f_M_layFalse_l39 N k162 n = k39
    intro H hk39
    refine ai_WP_steps mc_330 (sh_CM d) 3 (And.intro (fun c => ?_) (fun c => ?_))
    · replace H := sh_okT c H
      show wq_330 d Q 44 [oR 12 0, oI l1, oI l2, _] [] (sh_E h)
      have c := sh_okG H
      replace H := sh_okH H
      refine ai_WP_steps mc_330 (sh_CM d) 10 (And.intro c ?_)
      show wq_330 d Q 58 [oR 12 0, oI l1, oI l2, oI ((550 : Int32) + ((4 : Int32) * l2))] [aI (h.1 13 46 ((550 : Int32) + ((4 : Int32) * l2)).toNatClampNeg)] (sh_E h)
      refine ai_WP_steps mc_330 (sh_CM d) 2 (And.intro (fun c => ?_) (fun c => ?_))
      · replace H := sh_okT c H
        show wq_330 d Q 62 [oR 12 0, oI l1, oI l2, oI ((550 : Int32) + ((4 : Int32) * l2))] [] (sh_E h)
        refine ai_WP_steps mc_330 (sh_CM d) 4 (And.intro (Nat.le_of_ble_eq_true rfl) (x_M_isLive N (Nat.le_trans (Nat.le_of_ble_eq_true rfl) hd) l2 l1 h (sh_okB H) (fun v3 H => ?_)))
        show wq_330 d Q 68 [oR 12 0, oI l1, oI l2, oI ((550 : Int32) + ((4 : Int32) * l2))] [aI v3] (sh_E h)
        refine ai_WP_steps mc_330 (sh_CM d) 1 (And.intro (fun c => ?_) (fun c => ?_))
        · replace H := sh_okT c H
          show wq_330 d Q 71 [oR 12 0, oI l1, oI l2, oI ((550 : Int32) + ((4 : Int32) * l2))] [] (sh_E h)
          refine ai_WP_steps mc_330 (sh_CM d) 1 ?_
          exact x_M_layFalse_b156 N hd hR k39 hk39 l1 l2 h H
        · replace H := sh_okF c H
          show wq_330 d Q 74 [oR 12 0, oI l1, oI l2, oI ((550 : Int32) + ((4 : Int32) * l2))] [] (sh_E h)
          have c := sh_okG H
          replace H := sh_okH H
          refine ai_WP_steps mc_330 (sh_CM d) 9 (And.intro c ?_)
          show wq_330 d Q 87 [oR 12 0, oI l1, oI l2, oI ((550 : Int32) + ((4 : Int32) * l2))] [aI (h.1 13 46 (((550 : Int32) + ((4 : Int32) * l2)) + (2 : Int32)).toNatClampNeg), aI (h.1 12 0 40), aR 12 0] (sh_E h)
          refine ai_WP_steps mc_330 (sh_CM d) 2 (And.intro trivial ?_)
          show wq_330 d Q 91 [oR 12 0, oI l1, oI l2, oI ((550 : Int32) + ((4 : Int32) * l2))] [] (sh_E (sh_pI h 12 0 40 ((h.1 12 0 40) + (h.1 13 46 (((550 : Int32) + ((4 : Int32) * l2)) + (2 : Int32)).toNatClampNeg))))
          replace H := sh_okL H
          generalize sh_pI h 12 0 40 ((h.1 12 0 40) + (h.1 13 46 (((550 : Int32) + ((4 : Int32) * l2)) + (2 : Int32)).toNatClampNeg)) = h4 at H ⊢
          have c := sh_okG H
          replace H := sh_okH H
          refine ai_WP_steps mc_330 (sh_CM d) 9 (And.intro c ?_)
          show wq_330 d Q 104 [oR 12 0, oI l1, oI l2, oI ((550 : Int32) + ((4 : Int32) * l2))] [aI (h4.1 13 46 (((550 : Int32) + ((4 : Int32) * l2)) + (3 : Int32)).toNatClampNeg), aI (h4.1 12 0 41), aR 12 0] (sh_E h4)
          refine ai_WP_steps mc_330 (sh_CM d) 2 (And.intro trivial ?_)
          show wq_330 d Q 108 [oR 12 0, oI l1, oI l2, oI ((550 : Int32) + ((4 : Int32) * l2))] [] (sh_E (sh_pI h4 12 0 41 ((h4.1 12 0 41) + (h4.1 13 46 (((550 : Int32) + ((4 : Int32) * l2)) + (3 : Int32)).toNatClampNeg))))
          replace H := sh_okL H
          generalize sh_pI h4 12 0 41 ((h4.1 12 0 41) + (h4.1 13 46 (((550 : Int32) + ((4 : Int32) * l2)) + (3 : Int32)).toNatClampNeg)) = h5 at H ⊢
          have c := sh_okG H
          replace H := sh_okH H
          refine ai_WP_steps mc_330 (sh_CM d) 8 (And.intro c ?_)
          show wq_330 d Q 120 [oR 12 0, oI l1, oI l2, oI ((550 : Int32) + ((4 : Int32) * l2))] [aI (h5.1 13 46 (((550 : Int32) + ((4 : Int32) * l2)) + (1 : Int32)).toNatClampNeg), aR 13 60] (sh_E h5)
          have c := sh_okG H
          replace H := sh_okH H
          refine ai_WP_steps mc_330 (sh_CM d) 2 (And.intro c ?_)
          show wq_330 d Q 122 [oR 12 0, oI l1, oI l2, oI ((550 : Int32) + ((4 : Int32) * l2))] [aI (h5.1 13 60 (h5.1 13 46 (((550 : Int32) + ((4 : Int32) * l2)) + (1 : Int32)).toNatClampNeg).toNatClampNeg), aI (h5.1 13 46 (((550 : Int32) + ((4 : Int32) * l2)) + (1 : Int32)).toNatClampNeg), aR 13 60] (sh_E h5)
          have c := sh_okG H
          replace H := sh_okH H
          refine ai_WP_steps mc_330 (sh_CM d) 6 (And.intro c ?_)
          show wq_330 d Q 130 [oR 12 0, oI l1, oI l2, oI ((550 : Int32) + ((4 : Int32) * l2))] [aI (h5.1 13 46 (((550 : Int32) + ((4 : Int32) * l2)) + (2 : Int32)).toNatClampNeg), aI (h5.1 13 60 (h5.1 13 46 (((550 : Int32) + ((4 : Int32) * l2)) + (1 : Int32)).toNatClampNeg).toNatClampNeg), aI (h5.1 13 46 (((550 : Int32) + ((4 : Int32) * l2)) + (1 : Int32)).toNatClampNeg), aR 13 60] (sh_E h5)
          have c := sh_okG H
          replace H := sh_okH H
          refine ai_WP_steps mc_330 (sh_CM d) 2 (And.intro c ?_)
          show wq_330 d Q 132 [oR 12 0, oI l1, oI l2, oI ((550 : Int32) + ((4 : Int32) * l2))] [] (sh_E (sh_pI h5 13 60 (h5.1 13 46 (((550 : Int32) + ((4 : Int32) * l2)) + (1 : Int32)).toNatClampNeg).toNatClampNeg ((h5.1 13 60 (h5.1 13 46 (((550 : Int32) + ((4 : Int32) * l2)) + (1 : Int32)).toNatClampNeg).toNatClampNeg) + (h5.1 13 46 (((550 : Int32) + ((4 : Int32) * l2)) + (2 : Int32)).toNatClampNeg))))
          replace H := sh_okL H
          generalize sh_pI h5 13 60 (h5.1 13 46 (((550 : Int32) + ((4 : Int32) * l2)) + (1 : Int32)).toNatClampNeg).toNatClampNeg ((h5.1 13 60 (h5.1 13 46 (((550 : Int32) + ((4 : Int32) * l2)) + (1 : Int32)).toNatClampNeg).toNatClampNeg) + (h5.1 13 46 (((550 : Int32) + ((4 : Int32) * l2)) + (2 : Int32)).toNatClampNeg)) = h6 at H ⊢
          have c := sh_okG H
          replace H := sh_okH H
          refine ai_WP_steps mc_330 (sh_CM d) 8 (And.intro c ?_)
          show wq_330 d Q 144 [oR 12 0, oI l1, oI l2, oI ((550 : Int32) + ((4 : Int32) * l2))] [aI (h6.1 13 46 (((550 : Int32) + ((4 : Int32) * l2)) + (1 : Int32)).toNatClampNeg), aR 13 61] (sh_E h6)
          have c := sh_okG H
          replace H := sh_okH H
          refine ai_WP_steps mc_330 (sh_CM d) 2 (And.intro c ?_)
          show wq_330 d Q 146 [oR 12 0, oI l1, oI l2, oI ((550 : Int32) + ((4 : Int32) * l2))] [aI (h6.1 13 61 (h6.1 13 46 (((550 : Int32) + ((4 : Int32) * l2)) + (1 : Int32)).toNatClampNeg).toNatClampNeg), aI (h6.1 13 46 (((550 : Int32) + ((4 : Int32) * l2)) + (1 : Int32)).toNatClampNeg), aR 13 61] (sh_E h6)
          have c := sh_okG H
          replace H := sh_okH H
          refine ai_WP_steps mc_330 (sh_CM d) 6 (And.intro c ?_)
          show wq_330 d Q 154 [oR 12 0, oI l1, oI l2, oI ((550 : Int32) + ((4 : Int32) * l2))] [aI (h6.1 13 46 (((550 : Int32) + ((4 : Int32) * l2)) + (3 : Int32)).toNatClampNeg), aI (h6.1 13 61 (h6.1 13 46 (((550 : Int32) + ((4 : Int32) * l2)) + (1 : Int32)).toNatClampNeg).toNatClampNeg), aI (h6.1 13 46 (((550 : Int32) + ((4 : Int32) * l2)) + (1 : Int32)).toNatClampNeg), aR 13 61] (sh_E h6)
          have c := sh_okG H
          replace H := sh_okH H
          refine ai_WP_steps mc_330 (sh_CM d) 2 (And.intro c ?_)
          show wq_330 d Q 156 [oR 12 0, oI l1, oI l2, oI ((550 : Int32) + ((4 : Int32) * l2))] [] (sh_E (sh_pI h6 13 61 (h6.1 13 46 (((550 : Int32) + ((4 : Int32) * l2)) + (1 : Int32)).toNatClampNeg).toNatClampNeg ((h6.1 13 61 (h6.1 13 46 (((550 : Int32) + ((4 : Int32) * l2)) + (1 : Int32)).toNatClampNeg).toNatClampNeg) + (h6.1 13 46 (((550 : Int32) + ((4 : Int32) * l2)) + (3 : Int32)).toNatClampNeg))))
          replace H := sh_okL H
          generalize sh_pI h6 13 61 (h6.1 13 46 (((550 : Int32) + ((4 : Int32) * l2)) + (1 : Int32)).toNatClampNeg).toNatClampNeg ((h6.1 13 61 (h6.1 13 46 (((550 : Int32) + ((4 : Int32) * l2)) + (1 : Int32)).toNatClampNeg).toNatClampNeg) + (h6.1 13 46 (((550 : Int32) + ((4 : Int32) * l2)) + (3 : Int32)).toNatClampNeg)) = h7 at H ⊢
          exact x_M_layFalse_b156 N hd hR k39 hk39 l1 l2 h7 H
      · replace H := sh_okF c H
        exact x_M_layFalse_b156 N hd hR k39 hk39 l1 l2 h H
    · replace H := sh_okF c H
      exact hk162 h H
def f_M_layFalse_b162 (N : Nat)    (h : sh_H) : Option sh_H := (some h)
theorem x_M_layFalse_b162 (N : Nat) {d : Nat} (hd : 1 ≤ d) {Q : ai_Q} {R : sh_H → Prop} (hR : ∀ h, R h → Q none (sh_E h))    {d0 d1 d2 d3 : Option ai_V} (h : sh_H) (H : sh_ok (f_M_layFalse_b162 N h) R) : wq_330 d Q 162 [d0, d1, d2, d3] [] (sh_E h) := by
  exact ai_WP_steps mc_330 (sh_CM d) 1 (hR h H)
def f_M_layFalse_b37 (N : Nat)   (l1 : Int32) (h : sh_H) : Option sh_H := f_M_layFalse_l39 N (f_M_layFalse_b162 N) N l1 (0 : Int32) h
theorem x_M_layFalse_b37 (N : Nat) {d : Nat} (hd : 1 ≤ d) {Q : ai_Q} {R : sh_H → Prop} (hR : ∀ h, R h → Q none (sh_E h))   (l1 : Int32) {d2 d3 : Option ai_V} (h : sh_H) (H : sh_ok (f_M_layFalse_b37 N l1 h) R) : wq_330 d Q 37 [oR 12 0, oI l1, d2, d3] [] (sh_E h) := by
  refine ai_WP_steps mc_330 (sh_CM d) 2 ?_
  exact x_M_layFalse_l39 N hd hR (f_M_layFalse_b162 N) (fun {e0} {e1} {e2} {e3} h H => x_M_layFalse_b162 N hd hR  h H) N l1 (0 : Int32) h H
def f_M_layFalse (N : Nat)  (l1 : Int32) (h : sh_H) : Option sh_H := (sh_let (sh_pI h 12 0 40 (0 : Int32)) (fun h8 => (sh_let (sh_pI h8 12 0 41 (0 : Int32)) (fun h9 => f_M_layFalse_l12 N (f_M_layFalse_b37 N) N l1 (0 : Int32) h9))))
theorem x_M_layFalse (N : Nat) {d : Nat} (hd : 2 ≤ d) (l1 : Int32) (h : sh_H) {Q : ai_Q} {R : sh_H → Prop} (H : sh_ok (f_M_layFalse N l1 h) R) (hR : ∀ h, R h → Q none (sh_E h)) : ai_Ex sh_T d 330 [aR 12 0, aI l1] (sh_E h) Q := by
  obtain ⟨d, rfl⟩ : ∃ e, d = e + 1 := ⟨d - 1, by omega⟩
  replace hd : 1 ≤ d := by omega
  refine And.intro (Nat.le_of_ble_eq_true rfl) ?_
  show wq_330 d Q 0 [oR 12 0, oI l1, none, none] [] (sh_E h)
  refine ai_WP_steps mc_330 (sh_CM d) 3 (And.intro trivial ?_)
  show wq_330 d Q 5 [oR 12 0, oI l1, _, _] [] (sh_E (sh_pI h 12 0 40 (0 : Int32)))
  replace H := sh_okL H
  generalize sh_pI h 12 0 40 (0 : Int32) = h8 at H ⊢
  refine ai_WP_steps mc_330 (sh_CM d) 3 (And.intro trivial ?_)
  show wq_330 d Q 10 [oR 12 0, oI l1, _, _] [] (sh_E (sh_pI h8 12 0 41 (0 : Int32)))
  replace H := sh_okL H
  generalize sh_pI h8 12 0 41 (0 : Int32) = h9 at H ⊢
  refine ai_WP_steps mc_330 (sh_CM d) 2 ?_
  exact x_M_layFalse_l12 N hd hR (f_M_layFalse_b37 N) (fun z0 {e2} {e3} h H => x_M_layFalse_b37 N hd hR z0 h H) N l1 (0 : Int32) h9 H
def f_M_chosen_l31 (N : Nat)  (k83 : Int64 → sh_H → Option Int64) (n : Nat) : Int32 → Int32 → Int64 → Int32 → sh_H → Option Int64 := Nat.rec (motive := fun _ => Int32 → Int32 → Int64 → Int32 → sh_H → Option Int64) (fun _ _ _ _ _ => none) (fun _ k31 l0 l2 l3 l5 h => (if l2 < l5 then k83 l3 h else (if ¬ l5.toInt64 = 0 then (if ¬ l5.toInt64 = 0 then (if ¬ l5.toInt64 = 0 then k31 l0 l2 (((l3 / l5.toInt64) * ((l0 - l2) + l5).toInt64) + (((l3 - l3 / l5.toInt64 * l5.toInt64) * ((l0 - l2) + l5).toInt64) / l5.toInt64)) (l5 + (1 : Int32)) h else none) else none) else none))) n
theorem x_M_chosen_l31 (N : Nat) {d : Nat} (hd : 0 ≤ d) (h : sh_H) {Q : ai_Q} {R : Int64 → Prop} (hR : ∀ r, R r → Q (some (aL r)) (sh_E h))  (k83 : Int64 → sh_H → Option Int64) (hk83 : ∀ (l3 : Int64) {d0 d1 d2 d4 d5 d6 d7 d8 d9 : Option ai_V}, sh_ok (k83 l3 h) R → wq_331 d Q 83 [d0, d1, d2, oL l3, d4, d5, d6, d7, d8, d9] [] (sh_E h)) (n : Nat) : ∀ (l0 : Int32) (l2 : Int32) (l3 : Int64) (l5 : Int32) {d1 d4 d6 d7 d8 d9 : Option ai_V}, sh_ok (f_M_chosen_l31 N k83 n l0 l2 l3 l5 h) R → wq_331 d Q 31 [oI l0, d1, oI l2, oL l3, d4, oI l5, d6, d7, d8, d9] [] (sh_E h) := by
  induction n with
  | zero => intro l0 l2 l3 l5 d1 d4 d6 d7 d8 d9 H; exact H.elim
  | succ n ih =>
    intro l0 l2 l3 l5 d1 d4 d6 d7 d8 d9 H
    have hk31 := @ih
    revert hk31 H
    show sh_ok ((fun k31 l0 l2 l3 l5 h => (if l2 < l5 then k83 l3 h else (if ¬ l5.toInt64 = 0 then (if ¬ l5.toInt64 = 0 then (if ¬ l5.toInt64 = 0 then k31 l0 l2 (((l3 / l5.toInt64) * ((l0 - l2) + l5).toInt64) + (((l3 - l3 / l5.toInt64 * l5.toInt64) * ((l0 - l2) + l5).toInt64) / l5.toInt64)) (l5 + (1 : Int32)) h else none) else none) else none))) (f_M_chosen_l31 N k83 n) l0 l2 l3 l5 h) R → _
    generalize f_M_chosen_l31 N k83 n = k31
    intro H hk31
    refine ai_WP_steps mc_331 (sh_CM d) 3 (And.intro (fun c => ?_) (fun c => ?_))
    · replace H := sh_okT c H
      exact hk83 l3 H
    · replace H := sh_okF c H
      show wq_331 d Q 37 [oI l0, _, oI l2, oL l3, _, oI l5, _, _, _, _] [] (sh_E h)
      have c := sh_okG H
      replace H := sh_okH H
      refine ai_WP_steps mc_331 (sh_CM d) 4 (And.intro c ?_)
      show wq_331 d Q 42 [oI l0, _, oI l2, oL l3, _, oI l5, _, _, _, _] [aL (l3 / l5.toInt64)] (sh_E h)
      have c := sh_okG H
      replace H := sh_okH H
      refine ai_WP_steps mc_331 (sh_CM d) 5 (And.intro c ?_)
      show wq_331 d Q 49 [oI l0, _, oI l2, oL l3, _, oI l5, oL (l3 / l5.toInt64), _, _, _] [aL (l3 - l3 / l5.toInt64 * l5.toInt64)] (sh_E h)
      have c := sh_okG H
      replace H := sh_okH H
      refine ai_WP_steps mc_331 (sh_CM d) 20 (And.intro c ?_)
      show wq_331 d Q 75 [oI l0, _, oI l2, oL l3, _, oI l5, oL (l3 / l5.toInt64), _, oL (l3 - l3 / l5.toInt64 * l5.toInt64), _] [aL (((l3 - l3 / l5.toInt64 * l5.toInt64) * ((l0 - l2) + l5).toInt64) / l5.toInt64), aL ((l3 / l5.toInt64) * ((l0 - l2) + l5).toInt64)] (sh_E h)
      refine ai_WP_steps mc_331 (sh_CM d) 4 ?_
      exact hk31 l0 l2 (((l3 / l5.toInt64) * ((l0 - l2) + l5).toInt64) + (((l3 - l3 / l5.toInt64 * l5.toInt64) * ((l0 - l2) + l5).toInt64) / l5.toInt64)) (l5 + (1 : Int32)) H
def f_M_chosen_b83 (N : Nat)   (l3 : Int64) (h : sh_H) : Option Int64 := (some l3)
theorem x_M_chosen_b83 (N : Nat) {d : Nat} (hd : 0 ≤ d) (h : sh_H) {Q : ai_Q} {R : Int64 → Prop} (hR : ∀ r, R r → Q (some (aL r)) (sh_E h))   (l3 : Int64) {d0 d1 d2 d4 d5 d6 d7 d8 d9 : Option ai_V} (H : sh_ok (f_M_chosen_b83 N l3 h) R) : wq_331 d Q 83 [d0, d1, d2, oL l3, d4, d5, d6, d7, d8, d9] [] (sh_E h) := by
  exact ai_WP_steps mc_331 (sh_CM d) 2 (hR l3 H)
def f_M_chosen_b25 (N : Nat)   (l0 : Int32) (s0 : Int32) (h : sh_H) : Option Int64 := f_M_chosen_l31 N (f_M_chosen_b83 N) N l0 s0 (1 : Int64) (1 : Int32) h
theorem x_M_chosen_b25 (N : Nat) {d : Nat} (hd : 0 ≤ d) (h : sh_H) {Q : ai_Q} {R : Int64 → Prop} (hR : ∀ r, R r → Q (some (aL r)) (sh_E h))   (l0 : Int32) (s0 : Int32) {d1 d2 d3 d4 d5 d6 d7 d8 d9 : Option ai_V} (H : sh_ok (f_M_chosen_b25 N l0 s0 h) R) : wq_331 d Q 25 [oI l0, d1, d2, d3, d4, d5, d6, d7, d8, d9] [aI s0] (sh_E h) := by
  refine ai_WP_steps mc_331 (sh_CM d) 5 ?_
  exact x_M_chosen_l31 N hd h hR (f_M_chosen_b83 N) (fun z0 {e0} {e1} {e2} {e4} {e5} {e6} {e7} {e8} {e9} H => x_M_chosen_b83 N hd h hR z0 H) N l0 s0 (1 : Int64) (1 : Int32) H
def f_M_chosen (N : Nat)  (l0 : Int32) (l1 : Int32) (h : sh_H) : Option Int64 := (if l1 < 0 then (some (0 : Int64)) else (if l0 < l1 then (some (0 : Int64)) else (if (l0 - l1) < l1 then f_M_chosen_b25 N l0 (l0 - l1) h else f_M_chosen_b25 N l0 l1 h)))
theorem x_M_chosen (N : Nat) {d : Nat} (hd : 1 ≤ d) (l0 : Int32) (l1 : Int32) (h : sh_H) {Q : ai_Q} {R : Int64 → Prop} (H : sh_ok (f_M_chosen N l0 l1 h) R) (hR : ∀ r, R r → Q (some (aL r)) (sh_E h)) : ai_Ex sh_T d 331 [aI l0, aI l1] (sh_E h) Q := by
  obtain ⟨d, rfl⟩ : ∃ e, d = e + 1 := ⟨d - 1, by omega⟩
  replace hd : 0 ≤ d := by omega
  refine And.intro (Nat.le_of_ble_eq_true rfl) ?_
  show wq_331 d Q 0 [oI l0, oI l1, none, none, none, none, none, none, none, none] [] (sh_E h)
  refine ai_WP_steps mc_331 (sh_CM d) 2 (And.intro (fun c => ?_) (fun c => ?_))
  · replace H := sh_okT c H
    show wq_331 d Q 9 [oI l0, oI l1, _, _, _, _, _, _, _, _] [] (sh_E h)
    exact ai_WP_steps mc_331 (sh_CM d) 2 (hR (0 : Int64) H)
  · replace H := sh_okF c H
    show wq_331 d Q 4 [oI l0, oI l1, _, _, _, _, _, _, _, _] [] (sh_E h)
    refine ai_WP_steps mc_331 (sh_CM d) 3 (And.intro (fun c => ?_) (fun c => ?_))
    · replace H := sh_okT c H
      show wq_331 d Q 9 [oI l0, oI l1, _, _, _, _, _, _, _, _] [] (sh_E h)
      exact ai_WP_steps mc_331 (sh_CM d) 2 (hR (0 : Int64) H)
    · replace H := sh_okF c H
      show wq_331 d Q 11 [oI l0, oI l1, _, _, _, _, _, _, _, _] [] (sh_E h)
      refine ai_WP_steps mc_331 (sh_CM d) 5 (And.intro (fun c => ?_) (fun c => ?_))
      · replace H := sh_okT c H
        show wq_331 d Q 18 [oI l0, oI l1, _, _, _, _, _, _, _, _] [] (sh_E h)
        refine ai_WP_steps mc_331 (sh_CM d) 4 ?_
        exact x_M_chosen_b25 N hd h hR l0 (l0 - l1) H
      · replace H := sh_okF c H
        show wq_331 d Q 24 [oI l0, oI l1, _, _, _, _, _, _, _, _] [] (sh_E h)
        refine ai_WP_steps mc_331 (sh_CM d) 1 ?_
        exact x_M_chosen_b25 N hd h hR l0 l1 H
def f_M_falseWays_l10 (N : Nat)  (k70 : Int64 → sh_H → Option Int64) (n : Nat) : Int32 → Int64 → Int32 → sh_H → Option Int64 := Nat.rec (motive := fun _ => Int32 → Int64 → Int32 → sh_H → Option Int64) (fun _ _ _ _ => none) (fun _ k10 l1 l2 l4 h => (if (h.1 12 0 41) < l4 then k70 l2 h else (if ai_in l1 5 then (if (h.1 13 60 l1.toNatClampNeg) < l4 then k70 l2 h else (Option.bind (f_M_chosen N (h.1 12 0 41) l4 h) (fun v1 => (if ai_in l1 5 then (Option.bind (f_M_chosen N ((h.1 12 0 40) - (h.1 12 0 41)) ((h.1 13 60 l1.toNatClampNeg) - l4) h) (fun v2 => k10 l1 (l2 + (v1 * v2)) (l4 + (1 : Int32)) h)) else none)))) else none))) n
theorem x_M_falseWays_l10 (N : Nat) {d : Nat} (hd : 1 ≤ d) (h : sh_H) {Q : ai_Q} {R : Int64 → Prop} (hR : ∀ r, R r → Q (some (aL r)) (sh_E h))  (k70 : Int64 → sh_H → Option Int64) (hk70 : ∀ (l2 : Int64) {d0 d1 d3 d4 : Option ai_V}, sh_ok (k70 l2 h) R → wq_332 d Q 70 [d0, d1, oL l2, d3, d4] [] (sh_E h)) (n : Nat) : ∀ (l1 : Int32) (l2 : Int64) (l4 : Int32) {d3 : Option ai_V}, sh_ok (f_M_falseWays_l10 N k70 n l1 l2 l4 h) R → wq_332 d Q 10 [oR 12 0, oI l1, oL l2, d3, oI l4] [] (sh_E h) := by
  induction n with
  | zero => intro l1 l2 l4 d3 H; exact H.elim
  | succ n ih =>
    intro l1 l2 l4 d3 H
    have hk10 := @ih
    revert hk10 H
    show sh_ok ((fun k10 l1 l2 l4 h => (if (h.1 12 0 41) < l4 then k70 l2 h else (if ai_in l1 5 then (if (h.1 13 60 l1.toNatClampNeg) < l4 then k70 l2 h else (Option.bind (f_M_chosen N (h.1 12 0 41) l4 h) (fun v1 => (if ai_in l1 5 then (Option.bind (f_M_chosen N ((h.1 12 0 40) - (h.1 12 0 41)) ((h.1 13 60 l1.toNatClampNeg) - l4) h) (fun v2 => k10 l1 (l2 + (v1 * v2)) (l4 + (1 : Int32)) h)) else none)))) else none))) (f_M_falseWays_l10 N k70 n) l1 l2 l4 h) R → _
    generalize f_M_falseWays_l10 N k70 n = k10
    intro H hk10
    refine ai_WP_steps mc_332 (sh_CM d) 4 (And.intro (fun c => ?_) (fun c => ?_))
    · replace H := sh_okT c H
      exact hk70 l2 H
    · replace H := sh_okF c H
      show wq_332 d Q 19 [oR 12 0, oI l1, oL l2, _, oI l4] [] (sh_E h)
      have c := sh_okG H
      replace H := sh_okH H
      refine ai_WP_steps mc_332 (sh_CM d) 5 (And.intro c ?_)
      show wq_332 d Q 27 [oR 12 0, oI l1, oL l2, _, oI l4] [aI (h.1 13 60 l1.toNatClampNeg), aI l4] (sh_E h)
      refine ai_WP_steps mc_332 (sh_CM d) 1 (And.intro (fun c => ?_) (fun c => ?_))
      · replace H := sh_okT c H
        exact hk70 l2 H
      · replace H := sh_okF c H
        show wq_332 d Q 30 [oR 12 0, oI l1, oL l2, _, oI l4] [] (sh_E h)
        refine ai_WP_steps mc_332 (sh_CM d) 5 (And.intro (Nat.le_of_ble_eq_true rfl) (x_M_chosen N (Nat.le_trans (Nat.le_of_ble_eq_true rfl) hd) (h.1 12 0 41) l4 h (sh_okB H) (fun v1 H => ?_)))
        show wq_332 d Q 40 [oR 12 0, oI l1, oL l2, _, oI l4] [aL v1, aL l2] (sh_E h)
        have c := sh_okG H
        replace H := sh_okH H
        refine ai_WP_steps mc_332 (sh_CM d) 9 (And.intro c ?_)
        show wq_332 d Q 55 [oR 12 0, oI l1, oL l2, _, oI l4] [aI (h.1 13 60 l1.toNatClampNeg), aI ((h.1 12 0 40) - (h.1 12 0 41)), aL v1, aL l2] (sh_E h)
        refine ai_WP_steps mc_332 (sh_CM d) 3 (And.intro (Nat.le_of_ble_eq_true rfl) (x_M_chosen N (Nat.le_trans (Nat.le_of_ble_eq_true rfl) hd) ((h.1 12 0 40) - (h.1 12 0 41)) ((h.1 13 60 l1.toNatClampNeg) - l4) h (sh_okB H) (fun v2 H => ?_)))
        show wq_332 d Q 61 [oR 12 0, oI l1, oL l2, _, oI l4] [aL v2, aL v1, aL l2] (sh_E h)
        refine ai_WP_steps mc_332 (sh_CM d) 5 ?_
        exact hk10 l1 (l2 + (v1 * v2)) (l4 + (1 : Int32)) H
def f_M_falseWays_b70 (N : Nat)   (l2 : Int64) (h : sh_H) : Option Int64 := (some l2)
theorem x_M_falseWays_b70 (N : Nat) {d : Nat} (hd : 1 ≤ d) (h : sh_H) {Q : ai_Q} {R : Int64 → Prop} (hR : ∀ r, R r → Q (some (aL r)) (sh_E h))   (l2 : Int64) {d0 d1 d3 d4 : Option ai_V} (H : sh_ok (f_M_falseWays_b70 N l2 h) R) : wq_332 d Q 70 [d0, d1, oL l2, d3, d4] [] (sh_E h) := by
  exact ai_WP_steps mc_332 (sh_CM d) 2 (hR l2 H)
def f_M_falseWays (N : Nat)  (l1 : Int32) (h : sh_H) : Option Int64 := (if ai_in l1 5 then f_M_falseWays_l10 N (f_M_falseWays_b70 N) N l1 (0 : Int64) (h.1 13 61 l1.toNatClampNeg) h else none)
theorem x_M_falseWays (N : Nat) {d : Nat} (hd : 2 ≤ d) (l1 : Int32) (h : sh_H) {Q : ai_Q} {R : Int64 → Prop} (H : sh_ok (f_M_falseWays N l1 h) R) (hR : ∀ r, R r → Q (some (aL r)) (sh_E h)) : ai_Ex sh_T d 332 [aR 12 0, aI l1] (sh_E h) Q := by
  obtain ⟨d, rfl⟩ : ∃ e, d = e + 1 := ⟨d - 1, by omega⟩
  replace hd : 1 ≤ d := by omega
  refine And.intro (Nat.le_of_ble_eq_true rfl) ?_
  show wq_332 d Q 0 [oR 12 0, oI l1, none, none, none] [] (sh_E h)
  have c := sh_okG H
  replace H := sh_okH H
  refine ai_WP_steps mc_332 (sh_CM d) 6 (And.intro c ?_)
  show wq_332 d Q 8 [oR 12 0, oI l1, oL (0 : Int64), _, _] [aI (h.1 13 61 l1.toNatClampNeg)] (sh_E h)
  refine ai_WP_steps mc_332 (sh_CM d) 1 ?_
  exact x_M_falseWays_l10 N hd h hR (f_M_falseWays_b70 N) (fun z0 {e0} {e1} {e3} {e4} H => x_M_falseWays_b70 N hd h hR z0 H) N l1 (0 : Int64) (h.1 13 61 l1.toNatClampNeg) H
def f_M_isLess_b164 (N : Nat)  (k17 : Int64 → Int64 → Int64 → Int64 → Int32 → sh_H → Option Int32) (l8 : Int64) (l10 : Int64) (l12 : Int64) (l14 : Int64) (s0 : Int32) (h : sh_H) : Option Int32 := k17 l8 l10 l12 l14 s0 h
theorem x_M_isLess_b164 (N : Nat) {d : Nat} (hd : 0 ≤ d) (h : sh_H) {Q : ai_Q} {R : Int32 → Prop} (hR : ∀ r, R r → Q (some (aI r)) (sh_E h))  (k17 : Int64 → Int64 → Int64 → Int64 → Int32 → sh_H → Option Int32) (hk17 : ∀ (l8 : Int64) (l10 : Int64) (l12 : Int64) (l14 : Int64) (l16 : Int32) {d0 d1 d2 d3 d4 d5 d6 d7 d9 d11 d13 d15 d17 d18 d19 d20 d21 d22 : Option ai_V}, sh_ok (k17 l8 l10 l12 l14 l16 h) R → wq_333 d Q 17 [d0, d1, d2, d3, d4, d5, d6, d7, oL l8, d9, oL l10, d11, oL l12, d13, oL l14, d15, oI l16, d17, d18, d19, d20, d21, d22] [] (sh_E h)) (l8 : Int64) (l10 : Int64) (l12 : Int64) (l14 : Int64) (s0 : Int32) {d0 d1 d2 d3 d4 d5 d6 d7 d9 d11 d13 d15 d16 d17 d18 d19 d20 d21 d22 : Option ai_V} (H : sh_ok (f_M_isLess_b164 N k17 l8 l10 l12 l14 s0 h) R) : wq_333 d Q 164 [d0, d1, d2, d3, d4, d5, d6, d7, oL l8, d9, oL l10, d11, oL l12, d13, oL l14, d15, d16, d17, d18, d19, d20, d21, d22] [aI s0] (sh_E h) := by
  refine ai_WP_steps mc_333 (sh_CM d) 2 ?_
  exact hk17 l8 l10 l12 l14 s0 H
def f_M_isLess_b93 (N : Nat)  (k17 : Int64 → Int64 → Int64 → Int64 → Int32 → sh_H → Option Int32) (k107 : Int64 → Int32 → sh_H → Option Int32) (l8 : Int64) (l10 : Int64) (l12 : Int64) (l14 : Int64) (l16 : Int32) (h : sh_H) : Option Int32 := (if (lg_cmp l8 (0 : Int64)) = 0 then k107 l8 l16 h else (if (lg_cmp l12 (0 : Int64)) = 0 then k107 l8 l16 h else (if l16 = 0 then f_M_isLess_b164 N k17 l10 l8 l14 l12 (1 : Int32) h else f_M_isLess_b164 N k17 l10 l8 l14 l12 (0 : Int32) h)))
theorem x_M_isLess_b93 (N : Nat) {d : Nat} (hd : 0 ≤ d) (h : sh_H) {Q : ai_Q} {R : Int32 → Prop} (hR : ∀ r, R r → Q (some (aI r)) (sh_E h))  (k17 : Int64 → Int64 → Int64 → Int64 → Int32 → sh_H → Option Int32) (hk17 : ∀ (l8 : Int64) (l10 : Int64) (l12 : Int64) (l14 : Int64) (l16 : Int32) {d0 d1 d2 d3 d4 d5 d6 d7 d9 d11 d13 d15 d17 d18 d19 d20 d21 d22 : Option ai_V}, sh_ok (k17 l8 l10 l12 l14 l16 h) R → wq_333 d Q 17 [d0, d1, d2, d3, d4, d5, d6, d7, oL l8, d9, oL l10, d11, oL l12, d13, oL l14, d15, oI l16, d17, d18, d19, d20, d21, d22] [] (sh_E h)) (k107 : Int64 → Int32 → sh_H → Option Int32) (hk107 : ∀ (l8 : Int64) (l16 : Int32) {d0 d1 d2 d3 d4 d5 d6 d7 d9 d10 d11 d12 d13 d14 d15 d17 d18 d19 d20 d21 d22 : Option ai_V}, sh_ok (k107 l8 l16 h) R → wq_333 d Q 107 [d0, d1, d2, d3, d4, d5, d6, d7, oL l8, d9, d10, d11, d12, d13, d14, d15, oI l16, d17, d18, d19, d20, d21, d22] [] (sh_E h)) (l8 : Int64) (l10 : Int64) (l12 : Int64) (l14 : Int64) (l16 : Int32) {d0 d1 d2 d3 d4 d5 d6 d7 d9 d11 d13 d15 d17 d18 d19 d20 d21 d22 : Option ai_V} (H : sh_ok (f_M_isLess_b93 N k17 k107 l8 l10 l12 l14 l16 h) R) : wq_333 d Q 93 [d0, d1, d2, d3, d4, d5, d6, d7, oL l8, d9, oL l10, d11, oL l12, d13, oL l14, d15, oI l16, d17, d18, d19, d20, d21, d22] [] (sh_E h) := by
  refine ai_WP_steps mc_333 (sh_CM d) 4 (And.intro (fun c => ?_) (fun c => ?_))
  · replace H := sh_okT c H
    exact hk107 l8 l16 H
  · replace H := sh_okF c H
    show wq_333 d Q 100 [_, _, _, _, _, _, _, _, oL l8, _, oL l10, _, oL l12, _, oL l14, _, oI l16, _, _, _, _, _, _] [] (sh_E h)
    refine ai_WP_steps mc_333 (sh_CM d) 4 (And.intro (fun c => ?_) (fun c => ?_))
    · replace H := sh_okT c H
      exact hk107 l8 l16 H
    · replace H := sh_okF c H
      show wq_333 d Q 130 [_, _, _, _, _, _, _, _, oL l8, _, oL l10, _, oL l12, _, oL l14, _, oI l16, _, _, _, _, _, _] [] (sh_E h)
      refine ai_WP_steps mc_333 (sh_CM d) 14 (And.intro (fun c => ?_) (fun c => ?_))
      · replace H := sh_okT c H
        show wq_333 d Q 159 [_, _, _, _, _, _, _, _, oL l10, _, oL l8, _, oL l14, _, oL l12, _, oI l16, _, _, _, _, oL l12, _] [] (sh_E h)
        refine ai_WP_steps mc_333 (sh_CM d) 2 ?_
        exact x_M_isLess_b164 N hd h hR k17 hk17 l10 l8 l14 l12 (1 : Int32) H
      · replace H := sh_okF c H
        show wq_333 d Q 163 [_, _, _, _, _, _, _, _, oL l10, _, oL l8, _, oL l14, _, oL l12, _, oI l16, _, _, _, _, oL l12, _] [] (sh_E h)
        refine ai_WP_steps mc_333 (sh_CM d) 1 ?_
        exact x_M_isLess_b164 N hd h hR k17 hk17 l10 l8 l14 l12 (0 : Int32) H
def f_M_isLess_l17 (N : Nat)  (k39 : Int32 → Int64 → Int64 → sh_H → Option Int32) (k91 : sh_H → Option Int32) (k107 : Int64 → Int32 → sh_H → Option Int32) (n : Nat) : Int64 → Int64 → Int64 → Int64 → Int32 → sh_H → Option Int32 := Nat.rec (motive := fun _ => Int64 → Int64 → Int64 → Int64 → Int32 → sh_H → Option Int32) (fun _ _ _ _ _ _ => none) (fun _ k17 l8 l10 l12 l14 l16 h => (if ¬ l10 = 0 then (if ¬ l14 = 0 then (if (lg_cmp (l8 / l10) (l12 / l14)) = 0 then (if ¬ l10 = 0 then (if ¬ l14 = 0 then (if (lg_cmp (l8 - l8 / l10 * l10) (0 : Int64)) = 0 then (if (lg_cmp (l12 - l12 / l14 * l14) (0 : Int64)) = 0 then k91 h else f_M_isLess_b93 N k17 k107 (l8 - l8 / l10 * l10) l10 (l12 - l12 / l14 * l14) l14 l16 h) else f_M_isLess_b93 N k17 k107 (l8 - l8 / l10 * l10) l10 (l12 - l12 / l14 * l14) l14 l16 h) else none) else none) else k39 l16 (l8 / l10) (l12 / l14) h) else none) else none)) n
theorem x_M_isLess_l17 (N : Nat) {d : Nat} (hd : 0 ≤ d) (h : sh_H) {Q : ai_Q} {R : Int32 → Prop} (hR : ∀ r, R r → Q (some (aI r)) (sh_E h))  (k39 : Int32 → Int64 → Int64 → sh_H → Option Int32) (hk39 : ∀ (l16 : Int32) (l17 : Int64) (l19 : Int64) {d0 d1 d2 d3 d4 d5 d6 d7 d8 d9 d10 d11 d12 d13 d14 d15 d18 d20 d21 d22 : Option ai_V}, sh_ok (k39 l16 l17 l19 h) R → wq_333 d Q 39 [d0, d1, d2, d3, d4, d5, d6, d7, d8, d9, d10, d11, d12, d13, d14, d15, oI l16, oL l17, d18, oL l19, d20, d21, d22] [] (sh_E h)) (k91 : sh_H → Option Int32) (hk91 : ∀ {d0 d1 d2 d3 d4 d5 d6 d7 d8 d9 d10 d11 d12 d13 d14 d15 d16 d17 d18 d19 d20 d21 d22 : Option ai_V}, sh_ok (k91 h) R → wq_333 d Q 91 [d0, d1, d2, d3, d4, d5, d6, d7, d8, d9, d10, d11, d12, d13, d14, d15, d16, d17, d18, d19, d20, d21, d22] [] (sh_E h)) (k107 : Int64 → Int32 → sh_H → Option Int32) (hk107 : ∀ (l8 : Int64) (l16 : Int32) {d0 d1 d2 d3 d4 d5 d6 d7 d9 d10 d11 d12 d13 d14 d15 d17 d18 d19 d20 d21 d22 : Option ai_V}, sh_ok (k107 l8 l16 h) R → wq_333 d Q 107 [d0, d1, d2, d3, d4, d5, d6, d7, oL l8, d9, d10, d11, d12, d13, d14, d15, oI l16, d17, d18, d19, d20, d21, d22] [] (sh_E h)) (n : Nat) : ∀ (l8 : Int64) (l10 : Int64) (l12 : Int64) (l14 : Int64) (l16 : Int32) {d0 d1 d2 d3 d4 d5 d6 d7 d9 d11 d13 d15 d17 d18 d19 d20 d21 d22 : Option ai_V}, sh_ok (f_M_isLess_l17 N k39 k91 k107 n l8 l10 l12 l14 l16 h) R → wq_333 d Q 17 [d0, d1, d2, d3, d4, d5, d6, d7, oL l8, d9, oL l10, d11, oL l12, d13, oL l14, d15, oI l16, d17, d18, d19, d20, d21, d22] [] (sh_E h) := by
  induction n with
  | zero => intro l8 l10 l12 l14 l16 d0 d1 d2 d3 d4 d5 d6 d7 d9 d11 d13 d15 d17 d18 d19 d20 d21 d22 H; exact H.elim
  | succ n ih =>
    intro l8 l10 l12 l14 l16 d0 d1 d2 d3 d4 d5 d6 d7 d9 d11 d13 d15 d17 d18 d19 d20 d21 d22 H
    have hk17 := @ih
    revert hk17 H
    show sh_ok ((fun k17 l8 l10 l12 l14 l16 h => (if ¬ l10 = 0 then (if ¬ l14 = 0 then (if (lg_cmp (l8 / l10) (l12 / l14)) = 0 then (if ¬ l10 = 0 then (if ¬ l14 = 0 then (if (lg_cmp (l8 - l8 / l10 * l10) (0 : Int64)) = 0 then (if (lg_cmp (l12 - l12 / l14 * l14) (0 : Int64)) = 0 then k91 h else f_M_isLess_b93 N k17 k107 (l8 - l8 / l10 * l10) l10 (l12 - l12 / l14 * l14) l14 l16 h) else f_M_isLess_b93 N k17 k107 (l8 - l8 / l10 * l10) l10 (l12 - l12 / l14 * l14) l14 l16 h) else none) else none) else k39 l16 (l8 / l10) (l12 / l14) h) else none) else none)) (f_M_isLess_l17 N k39 k91 k107 n) l8 l10 l12 l14 l16 h) R → _
    generalize f_M_isLess_l17 N k39 k91 k107 n = k17
    intro H hk17
    have c := sh_okG H
    replace H := sh_okH H
    refine ai_WP_steps mc_333 (sh_CM d) 3 (And.intro c ?_)
    show wq_333 d Q 22 [_, _, _, _, _, _, _, _, oL l8, _, oL l10, _, oL l12, _, oL l14, _, oI l16, _, _, _, _, _, _] [aL (l8 / l10)] (sh_E h)
    have c := sh_okG H
    replace H := sh_okH H
    refine ai_WP_steps mc_333 (sh_CM d) 4 (And.intro c ?_)
    show wq_333 d Q 29 [_, _, _, _, _, _, _, _, oL l8, _, oL l10, _, oL l12, _, oL l14, _, oI l16, oL (l8 / l10), _, _, _, _, _] [aL (l12 / l14)] (sh_E h)
    refine ai_WP_steps mc_333 (sh_CM d) 5 (And.intro (fun c => ?_) (fun c => ?_))
    · replace H := sh_okT c H
      show wq_333 d Q 63 [_, _, _, _, _, _, _, _, oL l8, _, oL l10, _, oL l12, _, oL l14, _, oI l16, oL (l8 / l10), _, oL (l12 / l14), _, _, _] [] (sh_E h)
      have c := sh_okG H
      replace H := sh_okH H
      refine ai_WP_steps mc_333 (sh_CM d) 3 (And.intro c ?_)
      show wq_333 d Q 68 [_, _, _, _, _, _, _, _, oL l8, _, oL l10, _, oL l12, _, oL l14, _, oI l16, oL (l8 / l10), _, oL (l12 / l14), _, _, _] [aL (l8 - l8 / l10 * l10)] (sh_E h)
      have c := sh_okG H
      replace H := sh_okH H
      refine ai_WP_steps mc_333 (sh_CM d) 4 (And.intro c ?_)
      show wq_333 d Q 75 [_, _, _, _, _, _, _, _, oL (l8 - l8 / l10 * l10), _, oL l10, _, oL l12, _, oL l14, _, oI l16, oL (l8 / l10), _, oL (l12 / l14), _, _, _] [aL (l12 - l12 / l14 * l14)] (sh_E h)
      refine ai_WP_steps mc_333 (sh_CM d) 5 (And.intro (fun c => ?_) (fun c => ?_))
      · replace H := sh_okT c H
        show wq_333 d Q 84 [_, _, _, _, _, _, _, _, oL (l8 - l8 / l10 * l10), _, oL l10, _, oL (l12 - l12 / l14 * l14), _, oL l14, _, oI l16, oL (l8 / l10), _, oL (l12 / l14), _, _, _] [] (sh_E h)
        refine ai_WP_steps mc_333 (sh_CM d) 4 (And.intro (fun c => ?_) (fun c => ?_))
        · replace H := sh_okT c H
          exact hk91 H
        · replace H := sh_okF c H
          exact x_M_isLess_b93 N hd h hR k17 hk17 k107 hk107 (l8 - l8 / l10 * l10) l10 (l12 - l12 / l14 * l14) l14 l16 H
      · replace H := sh_okF c H
        exact x_M_isLess_b93 N hd h hR k17 hk17 k107 hk107 (l8 - l8 / l10 * l10) l10 (l12 - l12 / l14 * l14) l14 l16 H
    · replace H := sh_okF c H
      exact hk39 l16 (l8 / l10) (l12 / l14) H
def f_M_isLess_b54 (N : Nat)   (s0 : Int32) (s1 : Int32) (h : sh_H) : Option Int32 := (if s0 = s1 then (some (ai_nar 1 (0 : Int32))) else (some (ai_nar 1 (1 : Int32))))
theorem x_M_isLess_b54 (N : Nat) {d : Nat} (hd : 0 ≤ d) (h : sh_H) {Q : ai_Q} {R : Int32 → Prop} (hR : ∀ r, R r → Q (some (aI r)) (sh_E h))   (s0 : Int32) (s1 : Int32) {d0 d1 d2 d3 d4 d5 d6 d7 d8 d9 d10 d11 d12 d13 d14 d15 d16 d17 d18 d19 d20 d21 d22 : Option ai_V} (H : sh_ok (f_M_isLess_b54 N s0 s1 h) R) : wq_333 d Q 54 [d0, d1, d2, d3, d4, d5, d6, d7, d8, d9, d10, d11, d12, d13, d14, d15, d16, d17, d18, d19, d20, d21, d22] [aI s1, aI s0] (sh_E h) := by
  refine ai_WP_steps mc_333 (sh_CM d) 1 (And.intro (fun c => ?_) (fun c => ?_))
  · replace H := sh_okT c H
    show wq_333 d Q 61 [_, _, _, _, _, _, _, _, _, _, _, _, _, _, _, _, _, _, _, _, _, _, _] [] (sh_E h)
    exact ai_WP_steps mc_333 (sh_CM d) 2 (hR (ai_nar 1 (0 : Int32)) H)
  · replace H := sh_okF c H
    show wq_333 d Q 57 [_, _, _, _, _, _, _, _, _, _, _, _, _, _, _, _, _, _, _, _, _, _, _] [] (sh_E h)
    exact ai_WP_steps mc_333 (sh_CM d) 3 (hR (ai_nar 1 (1 : Int32)) H)
def f_M_isLess_b39 (N : Nat)   (l16 : Int32) (l17 : Int64) (l19 : Int64) (h : sh_H) : Option Int32 := (if (lg_cmp l17 l19) < 0 then f_M_isLess_b54 N l16 (1 : Int32) h else f_M_isLess_b54 N l16 (0 : Int32) h)
theorem x_M_isLess_b39 (N : Nat) {d : Nat} (hd : 0 ≤ d) (h : sh_H) {Q : ai_Q} {R : Int32 → Prop} (hR : ∀ r, R r → Q (some (aI r)) (sh_E h))   (l16 : Int32) (l17 : Int64) (l19 : Int64) {d0 d1 d2 d3 d4 d5 d6 d7 d8 d9 d10 d11 d12 d13 d14 d15 d18 d20 d21 d22 : Option ai_V} (H : sh_ok (f_M_isLess_b39 N l16 l17 l19 h) R) : wq_333 d Q 39 [d0, d1, d2, d3, d4, d5, d6, d7, d8, d9, d10, d11, d12, d13, d14, d15, oI l16, oL l17, d18, oL l19, d20, d21, d22] [] (sh_E h) := by
  refine ai_WP_steps mc_333 (sh_CM d) 5 (And.intro (fun c => ?_) (fun c => ?_))
  · replace H := sh_okT c H
    show wq_333 d Q 49 [_, _, _, _, _, _, _, _, _, _, _, _, _, _, _, _, oI l16, oL l17, _, oL l19, _, _, _] [aI l16] (sh_E h)
    refine ai_WP_steps mc_333 (sh_CM d) 2 ?_
    exact x_M_isLess_b54 N hd h hR l16 (1 : Int32) H
  · replace H := sh_okF c H
    show wq_333 d Q 53 [_, _, _, _, _, _, _, _, _, _, _, _, _, _, _, _, oI l16, oL l17, _, oL l19, _, _, _] [aI l16] (sh_E h)
    refine ai_WP_steps mc_333 (sh_CM d) 1 ?_
    exact x_M_isLess_b54 N hd h hR l16 (0 : Int32) H
def f_M_isLess_b91 (N : Nat)    (h : sh_H) : Option Int32 := (some (ai_nar 1 (0 : Int32)))
theorem x_M_isLess_b91 (N : Nat) {d : Nat} (hd : 0 ≤ d) (h : sh_H) {Q : ai_Q} {R : Int32 → Prop} (hR : ∀ r, R r → Q (some (aI r)) (sh_E h))    {d0 d1 d2 d3 d4 d5 d6 d7 d8 d9 d10 d11 d12 d13 d14 d15 d16 d17 d18 d19 d20 d21 d22 : Option ai_V} (H : sh_ok (f_M_isLess_b91 N h) R) : wq_333 d Q 91 [d0, d1, d2, d3, d4, d5, d6, d7, d8, d9, d10, d11, d12, d13, d14, d15, d16, d17, d18, d19, d20, d21, d22] [] (sh_E h) := by
  exact ai_WP_steps mc_333 (sh_CM d) 2 (hR (ai_nar 1 (0 : Int32)) H)
def f_M_isLess_b121 (N : Nat)   (s0 : Int32) (s1 : Int32) (h : sh_H) : Option Int32 := (if s0 = s1 then (some (ai_nar 1 (0 : Int32))) else (some (ai_nar 1 (1 : Int32))))
theorem x_M_isLess_b121 (N : Nat) {d : Nat} (hd : 0 ≤ d) (h : sh_H) {Q : ai_Q} {R : Int32 → Prop} (hR : ∀ r, R r → Q (some (aI r)) (sh_E h))   (s0 : Int32) (s1 : Int32) {d0 d1 d2 d3 d4 d5 d6 d7 d8 d9 d10 d11 d12 d13 d14 d15 d16 d17 d18 d19 d20 d21 d22 : Option ai_V} (H : sh_ok (f_M_isLess_b121 N s0 s1 h) R) : wq_333 d Q 121 [d0, d1, d2, d3, d4, d5, d6, d7, d8, d9, d10, d11, d12, d13, d14, d15, d16, d17, d18, d19, d20, d21, d22] [aI s1, aI s0] (sh_E h) := by
  refine ai_WP_steps mc_333 (sh_CM d) 1 (And.intro (fun c => ?_) (fun c => ?_))
  · replace H := sh_okT c H
    show wq_333 d Q 128 [_, _, _, _, _, _, _, _, _, _, _, _, _, _, _, _, _, _, _, _, _, _, _] [] (sh_E h)
    exact ai_WP_steps mc_333 (sh_CM d) 2 (hR (ai_nar 1 (0 : Int32)) H)
  · replace H := sh_okF c H
    show wq_333 d Q 124 [_, _, _, _, _, _, _, _, _, _, _, _, _, _, _, _, _, _, _, _, _, _, _] [] (sh_E h)
    exact ai_WP_steps mc_333 (sh_CM d) 3 (hR (ai_nar 1 (1 : Int32)) H)
def f_M_isLess_b107 (N : Nat)   (l8 : Int64) (l16 : Int32) (h : sh_H) : Option Int32 := (if (lg_cmp l8 (0 : Int64)) = 0 then f_M_isLess_b121 N l16 (1 : Int32) h else f_M_isLess_b121 N l16 (0 : Int32) h)
theorem x_M_isLess_b107 (N : Nat) {d : Nat} (hd : 0 ≤ d) (h : sh_H) {Q : ai_Q} {R : Int32 → Prop} (hR : ∀ r, R r → Q (some (aI r)) (sh_E h))   (l8 : Int64) (l16 : Int32) {d0 d1 d2 d3 d4 d5 d6 d7 d9 d10 d11 d12 d13 d14 d15 d17 d18 d19 d20 d21 d22 : Option ai_V} (H : sh_ok (f_M_isLess_b107 N l8 l16 h) R) : wq_333 d Q 107 [d0, d1, d2, d3, d4, d5, d6, d7, oL l8, d9, d10, d11, d12, d13, d14, d15, oI l16, d17, d18, d19, d20, d21, d22] [] (sh_E h) := by
  refine ai_WP_steps mc_333 (sh_CM d) 5 (And.intro (fun c => ?_) (fun c => ?_))
  · replace H := sh_okT c H
    show wq_333 d Q 116 [_, _, _, _, _, _, _, _, oL l8, _, _, _, _, _, _, _, oI l16, _, _, _, _, _, _] [aI l16] (sh_E h)
    refine ai_WP_steps mc_333 (sh_CM d) 2 ?_
    exact x_M_isLess_b121 N hd h hR l16 (1 : Int32) H
  · replace H := sh_okF c H
    show wq_333 d Q 120 [_, _, _, _, _, _, _, _, oL l8, _, _, _, _, _, _, _, oI l16, _, _, _, _, _, _] [aI l16] (sh_E h)
    refine ai_WP_steps mc_333 (sh_CM d) 1 ?_
    exact x_M_isLess_b121 N hd h hR l16 (0 : Int32) H
def f_M_isLess (N : Nat)  (l0 : Int64) (l2 : Int64) (l4 : Int64) (l6 : Int64) (h : sh_H) : Option Int32 := f_M_isLess_l17 N (f_M_isLess_b39 N) (f_M_isLess_b91 N) (f_M_isLess_b107 N) N l0 l2 l4 l6 (0 : Int32) h
theorem x_M_isLess (N : Nat) {d : Nat} (hd : 1 ≤ d) (l0 : Int64) (l2 : Int64) (l4 : Int64) (l6 : Int64) (h : sh_H) {Q : ai_Q} {R : Int32 → Prop} (H : sh_ok (f_M_isLess N l0 l2 l4 l6 h) R) (hR : ∀ r, R r → Q (some (aI r)) (sh_E h)) : ai_Ex sh_T d 333 [aL l0, aL l2, aL l4, aL l6] (sh_E h) Q := by
  obtain ⟨d, rfl⟩ : ∃ e, d = e + 1 := ⟨d - 1, by omega⟩
  replace hd : 0 ≤ d := by omega
  refine And.intro (Nat.le_of_ble_eq_true rfl) ?_
  show wq_333 d Q 0 [oL l0, none, oL l2, none, oL l4, none, oL l6, none, none, none, none, none, none, none, none, none, none, none, none, none, none, none, none] [] (sh_E h)
  refine ai_WP_steps mc_333 (sh_CM d) 10 ?_
  exact x_M_isLess_l17 N hd h hR (f_M_isLess_b39 N) (fun z0 z1 z2 {e0} {e1} {e2} {e3} {e4} {e5} {e6} {e7} {e8} {e9} {e10} {e11} {e12} {e13} {e14} {e15} {e18} {e20} {e21} {e22} H => x_M_isLess_b39 N hd h hR z0 z1 z2 H) (f_M_isLess_b91 N) (fun {e0} {e1} {e2} {e3} {e4} {e5} {e6} {e7} {e8} {e9} {e10} {e11} {e12} {e13} {e14} {e15} {e16} {e17} {e18} {e19} {e20} {e21} {e22} H => x_M_isLess_b91 N hd h hR  H) (f_M_isLess_b107 N) (fun z0 z1 {e0} {e1} {e2} {e3} {e4} {e5} {e6} {e7} {e9} {e10} {e11} {e12} {e13} {e14} {e15} {e17} {e18} {e19} {e20} {e21} {e22} H => x_M_isLess_b107 N hd h hR z0 z1 H) N l0 l2 l4 l6 (0 : Int32) H
def f_M_whose_b123 (N : Nat)  (k45 : Int32 → Int64 → Int64 → Int32 → sh_H → Option (Int32 × sh_H)) (l2 : Int32) (l3 : Int64) (l5 : Int64) (l7 : Int32) (h : sh_H) : Option (Int32 × sh_H) := k45 l2 l3 l5 (l7 + (1 : Int32)) h
theorem x_M_whose_b123 (N : Nat) {d : Nat} (hd : 2 ≤ d) {Q : ai_Q} {R : Int32 × sh_H → Prop} (hR : ∀ r h, R (r, h) → Q (some (aI r)) (sh_E h))  (k45 : Int32 → Int64 → Int64 → Int32 → sh_H → Option (Int32 × sh_H)) (hk45 : ∀ (l2 : Int32) (l3 : Int64) (l5 : Int64) (l7 : Int32) {d1 d4 d6 d8 d9 d10 d11 : Option ai_V} (h : sh_H), sh_ok (k45 l2 l3 l5 l7 h) R → wq_334 d Q 45 [oR 12 0, d1, oI l2, oL l3, d4, oL l5, d6, oI l7, d8, d9, d10, d11] [] (sh_E h)) (l2 : Int32) (l3 : Int64) (l5 : Int64) (l7 : Int32) {d1 d4 d6 d8 d9 d10 d11 : Option ai_V} (h : sh_H) (H : sh_ok (f_M_whose_b123 N k45 l2 l3 l5 l7 h) R) : wq_334 d Q 123 [oR 12 0, d1, oI l2, oL l3, d4, oL l5, d6, oI l7, d8, d9, d10, d11] [] (sh_E h) := by
  refine ai_WP_steps mc_334 (sh_CM d) 2 ?_
  exact hk45 l2 l3 l5 (l7 + (1 : Int32)) h H
def f_M_whose_b113 (N : Nat)  (k45 : Int32 → Int64 → Int64 → Int32 → sh_H → Option (Int32 × sh_H)) (l7 : Int32) (l8 : Int64) (l10 : Int64) (h : sh_H) : Option (Int32 × sh_H) := f_M_whose_b123 N k45 l7 l8 l10 l7 h
theorem x_M_whose_b113 (N : Nat) {d : Nat} (hd : 2 ≤ d) {Q : ai_Q} {R : Int32 × sh_H → Prop} (hR : ∀ r h, R (r, h) → Q (some (aI r)) (sh_E h))  (k45 : Int32 → Int64 → Int64 → Int32 → sh_H → Option (Int32 × sh_H)) (hk45 : ∀ (l2 : Int32) (l3 : Int64) (l5 : Int64) (l7 : Int32) {d1 d4 d6 d8 d9 d10 d11 : Option ai_V} (h : sh_H), sh_ok (k45 l2 l3 l5 l7 h) R → wq_334 d Q 45 [oR 12 0, d1, oI l2, oL l3, d4, oL l5, d6, oI l7, d8, d9, d10, d11] [] (sh_E h)) (l7 : Int32) (l8 : Int64) (l10 : Int64) {d1 d2 d3 d4 d5 d6 d9 d11 : Option ai_V} (h : sh_H) (H : sh_ok (f_M_whose_b113 N k45 l7 l8 l10 h) R) : wq_334 d Q 113 [oR 12 0, d1, d2, d3, d4, d5, d6, oI l7, oL l8, d9, oL l10, d11] [] (sh_E h) := by
  refine ai_WP_steps mc_334 (sh_CM d) 6 ?_
  exact x_M_whose_b123 N hd hR k45 hk45 l7 l8 l10 l7 h H
def f_M_whose_l45 (N : Nat)  (k129 : Int32 → sh_H → Option (Int32 × sh_H)) (n : Nat) : Int32 → Int64 → Int64 → Int32 → sh_H → Option (Int32 × sh_H) := Nat.rec (motive := fun _ => Int32 → Int64 → Int64 → Int32 → sh_H → Option (Int32 × sh_H)) (fun _ _ _ _ _ => none) (fun _ k45 l2 l3 l5 l7 h => (if ai_in (1 : Int32) 8000 then (if (h.1 13 46 (1 : Int32).toNatClampNeg) < l7 then k129 l2 h else (if ai_in l7 5 then (if (h.1 13 60 l7.toNatClampNeg) = 0 then f_M_whose_b123 N k45 l2 l3 l5 l7 h else (Option.bind (f_M_falseWays N l7 h) (fun v1 => (if ai_in l7 5 then (Option.bind (f_M_chosen N (h.1 12 0 40) (h.1 13 60 l7.toNatClampNeg) h) (fun v2 => (if l2 < 0 then f_M_whose_b113 N k45 l7 v1 v2 h else (Option.bind (f_M_isLess N v1 v2 l3 l5 h) (fun v3 => (if v3 = 0 then f_M_whose_b123 N k45 l2 l3 l5 l7 h else f_M_whose_b113 N k45 l7 v1 v2 h)))))) else none)))) else none)) else none)) n
theorem x_M_whose_l45 (N : Nat) {d : Nat} (hd : 2 ≤ d) {Q : ai_Q} {R : Int32 × sh_H → Prop} (hR : ∀ r h, R (r, h) → Q (some (aI r)) (sh_E h))  (k129 : Int32 → sh_H → Option (Int32 × sh_H)) (hk129 : ∀ (l2 : Int32) {d0 d1 d3 d4 d5 d6 d7 d8 d9 d10 d11 : Option ai_V} (h : sh_H), sh_ok (k129 l2 h) R → wq_334 d Q 129 [d0, d1, oI l2, d3, d4, d5, d6, d7, d8, d9, d10, d11] [] (sh_E h)) (n : Nat) : ∀ (l2 : Int32) (l3 : Int64) (l5 : Int64) (l7 : Int32) {d1 d4 d6 d8 d9 d10 d11 : Option ai_V} (h : sh_H), sh_ok (f_M_whose_l45 N k129 n l2 l3 l5 l7 h) R → wq_334 d Q 45 [oR 12 0, d1, oI l2, oL l3, d4, oL l5, d6, oI l7, d8, d9, d10, d11] [] (sh_E h) := by
  induction n with
  | zero => intro l2 l3 l5 l7 d1 d4 d6 d8 d9 d10 d11 h H; exact H.elim
  | succ n ih =>
    intro l2 l3 l5 l7 d1 d4 d6 d8 d9 d10 d11 h H
    have hk45 := @ih
    revert hk45 H
    show sh_ok ((fun k45 l2 l3 l5 l7 h => (if ai_in (1 : Int32) 8000 then (if (h.1 13 46 (1 : Int32).toNatClampNeg) < l7 then k129 l2 h else (if ai_in l7 5 then (if (h.1 13 60 l7.toNatClampNeg) = 0 then f_M_whose_b123 N k45 l2 l3 l5 l7 h else (Option.bind (f_M_falseWays N l7 h) (fun v1 => (if ai_in l7 5 then (Option.bind (f_M_chosen N (h.1 12 0 40) (h.1 13 60 l7.toNatClampNeg) h) (fun v2 => (if l2 < 0 then f_M_whose_b113 N k45 l7 v1 v2 h else (Option.bind (f_M_isLess N v1 v2 l3 l5 h) (fun v3 => (if v3 = 0 then f_M_whose_b123 N k45 l2 l3 l5 l7 h else f_M_whose_b113 N k45 l7 v1 v2 h)))))) else none)))) else none)) else none)) (f_M_whose_l45 N k129 n) l2 l3 l5 l7 h) R → _
    generalize f_M_whose_l45 N k129 n = k45
    intro H hk45
    have c := sh_okG H
    replace H := sh_okH H
    refine ai_WP_steps mc_334 (sh_CM d) 5 (And.intro c ?_)
    show wq_334 d Q 53 [oR 12 0, _, oI l2, oL l3, _, oL l5, _, oI l7, _, _, _, _] [aI (h.1 13 46 (1 : Int32).toNatClampNeg), aI l7] (sh_E h)
    refine ai_WP_steps mc_334 (sh_CM d) 1 (And.intro (fun c => ?_) (fun c => ?_))
    · replace H := sh_okT c H
      exact hk129 l2 h H
    · replace H := sh_okF c H
      show wq_334 d Q 56 [oR 12 0, _, oI l2, oL l3, _, oL l5, _, oI l7, _, _, _, _] [] (sh_E h)
      have c := sh_okG H
      replace H := sh_okH H
      refine ai_WP_steps mc_334 (sh_CM d) 4 (And.intro c ?_)
      show wq_334 d Q 63 [oR 12 0, _, oI l2, oL l3, _, oL l5, _, oI l7, _, _, _, _] [aI (h.1 13 60 l7.toNatClampNeg)] (sh_E h)
      refine ai_WP_steps mc_334 (sh_CM d) 1 (And.intro (fun c => ?_) (fun c => ?_))
      · replace H := sh_okT c H
        show wq_334 d Q 66 [oR 12 0, _, oI l2, oL l3, _, oL l5, _, oI l7, _, _, _, _] [] (sh_E h)
        refine ai_WP_steps mc_334 (sh_CM d) 1 ?_
        exact x_M_whose_b123 N hd hR k45 hk45 l2 l3 l5 l7 h H
      · replace H := sh_okF c H
        show wq_334 d Q 69 [oR 12 0, _, oI l2, oL l3, _, oL l5, _, oI l7, _, _, _, _] [] (sh_E h)
        refine ai_WP_steps mc_334 (sh_CM d) 3 (And.intro (Nat.le_of_ble_eq_true rfl) (x_M_falseWays N (Nat.le_trans (Nat.le_of_ble_eq_true rfl) hd) l7 h (sh_okB H) (fun v1 H => ?_)))
        show wq_334 d Q 75 [oR 12 0, _, oI l2, oL l3, _, oL l5, _, oI l7, _, _, _, _] [aL v1] (sh_E h)
        have c := sh_okG H
        replace H := sh_okH H
        refine ai_WP_steps mc_334 (sh_CM d) 7 (And.intro c ?_)
        show wq_334 d Q 88 [oR 12 0, _, oI l2, oL l3, _, oL l5, _, oI l7, oL v1, _, _, _] [aI (h.1 13 60 l7.toNatClampNeg), aI (h.1 12 0 40)] (sh_E h)
        refine ai_WP_steps mc_334 (sh_CM d) 1 (And.intro (Nat.le_of_ble_eq_true rfl) (x_M_chosen N (Nat.le_trans (Nat.le_of_ble_eq_true rfl) hd) (h.1 12 0 40) (h.1 13 60 l7.toNatClampNeg) h (sh_okB H) (fun v2 H => ?_)))
        show wq_334 d Q 91 [oR 12 0, _, oI l2, oL l3, _, oL l5, _, oI l7, oL v1, _, _, _] [aL v2] (sh_E h)
        refine ai_WP_steps mc_334 (sh_CM d) 3 (And.intro (fun c => ?_) (fun c => ?_))
        · replace H := sh_okT c H
          exact x_M_whose_b113 N hd hR k45 hk45 l7 v1 v2 h H
        · replace H := sh_okF c H
          show wq_334 d Q 97 [oR 12 0, _, oI l2, oL l3, _, oL l5, _, oI l7, oL v1, _, oL v2, _] [] (sh_E h)
          refine ai_WP_steps mc_334 (sh_CM d) 5 (And.intro (Nat.le_of_ble_eq_true rfl) (x_M_isLess N (Nat.le_trans (Nat.le_of_ble_eq_true rfl) hd) v1 v2 l3 l5 h (sh_okB H) (fun v3 H => ?_)))
          show wq_334 d Q 107 [oR 12 0, _, oI l2, oL l3, _, oL l5, _, oI l7, oL v1, _, oL v2, _] [aI v3] (sh_E h)
          refine ai_WP_steps mc_334 (sh_CM d) 1 (And.intro (fun c => ?_) (fun c => ?_))
          · replace H := sh_okT c H
            show wq_334 d Q 110 [oR 12 0, _, oI l2, oL l3, _, oL l5, _, oI l7, oL v1, _, oL v2, _] [] (sh_E h)
            refine ai_WP_steps mc_334 (sh_CM d) 1 ?_
            exact x_M_whose_b123 N hd hR k45 hk45 l2 l3 l5 l7 h H
          · replace H := sh_okF c H
            exact x_M_whose_b113 N hd hR k45 hk45 l7 v1 v2 h H
def f_M_whose_b129 (N : Nat)   (l2 : Int32) (h : sh_H) : Option (Int32 × sh_H) := (some (l2, h))
theorem x_M_whose_b129 (N : Nat) {d : Nat} (hd : 2 ≤ d) {Q : ai_Q} {R : Int32 × sh_H → Prop} (hR : ∀ r h, R (r, h) → Q (some (aI r)) (sh_E h))   (l2 : Int32) {d0 d1 d3 d4 d5 d6 d7 d8 d9 d10 d11 : Option ai_V} (h : sh_H) (H : sh_ok (f_M_whose_b129 N l2 h) R) : wq_334 d Q 129 [d0, d1, oI l2, d3, d4, d5, d6, d7, d8, d9, d10, d11] [] (sh_E h) := by
  exact ai_WP_steps mc_334 (sh_CM d) 2 (hR l2 h H)
def f_M_whose (N : Nat)  (l1 : Int32) (h : sh_H) : Option (Int32 × sh_H) := (Option.bind (f_M_isKnown l1 h) (fun v4 => (if v4 = 0 then (some ((-1 : Int32), h)) else (Option.bind (f_M_layFalse N l1 h) (fun h5 => (if (h5.1 12 0 40) = 0 then (some ((-2 : Int32), h5)) else (if (60 : Int32) < (h5.1 12 0 40) then (some ((-2 : Int32), h5)) else f_M_whose_l45 N (f_M_whose_b129 N) N (-2 : Int32) (0 : Int64) (1 : Int64) (1 : Int32) h5)))))))
theorem x_M_whose (N : Nat) {d : Nat} (hd : 3 ≤ d) (l1 : Int32) (h : sh_H) {Q : ai_Q} {R : Int32 × sh_H → Prop} (H : sh_ok (f_M_whose N l1 h) R) (hR : ∀ r h, R (r, h) → Q (some (aI r)) (sh_E h)) : ai_Ex sh_T d 334 [aR 12 0, aI l1] (sh_E h) Q := by
  obtain ⟨d, rfl⟩ : ∃ e, d = e + 1 := ⟨d - 1, by omega⟩
  replace hd : 2 ≤ d := by omega
  refine And.intro (Nat.le_of_ble_eq_true rfl) ?_
  show wq_334 d Q 0 [oR 12 0, oI l1, none, none, none, none, none, none, none, none, none, none] [] (sh_E h)
  refine ai_WP_steps mc_334 (sh_CM d) 3 (And.intro (Nat.le_of_ble_eq_true rfl) (x_M_isKnown (Nat.le_trans (Nat.le_of_ble_eq_true rfl) hd) l1 h (sh_okB H) (fun v4 H => ?_)))
  show wq_334 d Q 5 [oR 12 0, oI l1, _, _, _, _, _, _, _, _, _, _] [aI v4] (sh_E h)
  refine ai_WP_steps mc_334 (sh_CM d) 1 (And.intro (fun c => ?_) (fun c => ?_))
  · replace H := sh_okT c H
    show wq_334 d Q 8 [oR 12 0, oI l1, _, _, _, _, _, _, _, _, _, _] [] (sh_E h)
    exact ai_WP_steps mc_334 (sh_CM d) 2 (hR (-1 : Int32) h H)
  · replace H := sh_okF c H
    show wq_334 d Q 10 [oR 12 0, oI l1, _, _, _, _, _, _, _, _, _, _] [] (sh_E h)
    refine ai_WP_steps mc_334 (sh_CM d) 3 (And.intro (Nat.le_of_ble_eq_true rfl) (x_M_layFalse N (Nat.le_trans (Nat.le_of_ble_eq_true rfl) hd) l1 h (sh_okB H) (fun h5 H => ?_)))
    show wq_334 d Q 15 [oR 12 0, oI l1, _, _, _, _, _, _, _, _, _, _] [] (sh_E h5)
    refine ai_WP_steps mc_334 (sh_CM d) 3 (And.intro (fun c => ?_) (fun c => ?_))
    · replace H := sh_okT c H
      show wq_334 d Q 31 [oR 12 0, oI l1, _, _, _, _, _, _, _, _, _, _] [] (sh_E h5)
      exact ai_WP_steps mc_334 (sh_CM d) 2 (hR (-2 : Int32) h5 H)
    · replace H := sh_okF c H
      show wq_334 d Q 22 [oR 12 0, oI l1, _, _, _, _, _, _, _, _, _, _] [] (sh_E h5)
      refine ai_WP_steps mc_334 (sh_CM d) 4 (And.intro (fun c => ?_) (fun c => ?_))
      · replace H := sh_okT c H
        show wq_334 d Q 31 [oR 12 0, oI l1, _, _, _, _, _, _, _, _, _, _] [] (sh_E h5)
        exact ai_WP_steps mc_334 (sh_CM d) 2 (hR (-2 : Int32) h5 H)
      · replace H := sh_okF c H
        show wq_334 d Q 34 [oR 12 0, oI l1, _, _, _, _, _, _, _, _, _, _] [] (sh_E h5)
        refine ai_WP_steps mc_334 (sh_CM d) 8 ?_
        exact x_M_whose_l45 N hd hR (f_M_whose_b129 N) (fun z0 {e0} {e1} {e3} {e4} {e5} {e6} {e7} {e8} {e9} {e10} {e11} h H => x_M_whose_b129 N hd hR z0 h H) N (-2 : Int32) (0 : Int64) (1 : Int64) (1 : Int32) h5 H
def f_M_whoseWays_b16 (N : Nat)    (h : sh_H) : Option (Int64 × sh_H) := (some ((-1 : Int64), h))
theorem x_M_whoseWays_b16 (N : Nat) {d : Nat} (hd : 2 ≤ d) {Q : ai_Q} {R : Int64 × sh_H → Prop} (hR : ∀ r h, R (r, h) → Q (some (aL r)) (sh_E h))    {d0 d1 d2 d3 : Option ai_V} (h : sh_H) (H : sh_ok (f_M_whoseWays_b16 N h) R) : wq_335 d Q 16 [d0, d1, d2, d3] [] (sh_E h) := by
  exact ai_WP_steps mc_335 (sh_CM d) 2 (hR (-1 : Int64) h H)
def f_M_whoseWays_b50 (N : Nat)    (h : sh_H) : Option (Int64 × sh_H) := (some ((-2 : Int64), h))
theorem x_M_whoseWays_b50 (N : Nat) {d : Nat} (hd : 2 ≤ d) {Q : ai_Q} {R : Int64 × sh_H → Prop} (hR : ∀ r h, R (r, h) → Q (some (aL r)) (sh_E h))    {d0 d1 d2 d3 : Option ai_V} (h : sh_H) (H : sh_ok (f_M_whoseWays_b50 N h) R) : wq_335 d Q 50 [d0, d1, d2, d3] [] (sh_E h) := by
  exact ai_WP_steps mc_335 (sh_CM d) 2 (hR (-2 : Int64) h H)
def f_M_whoseWays (N : Nat)  (l1 : Int32) (l2 : Int32) (l3 : Int32) (h : sh_H) : Option (Int64 × sh_H) := (Option.bind (f_M_isIsland l1 h) (fun v1 => (if v1 = 0 then f_M_whoseWays_b16 N h else (Option.bind (f_M_isKnown l2 h) (fun v2 => (if v2 = 0 then f_M_whoseWays_b16 N h else (Option.bind (f_M_layFalse N l2 h) (fun h3 => (if (h3.1 12 0 40) = 0 then f_M_whoseWays_b50 N h3 else (if (60 : Int32) < (h3.1 12 0 40) then f_M_whoseWays_b50 N h3 else (if ai_in l1 5 then (if (h3.1 13 60 l1.toNatClampNeg) = 0 then f_M_whoseWays_b50 N h3 else (if l3 = 0 then (if ai_in l1 5 then (Option.bind (f_M_chosen N (h3.1 12 0 40) (h3.1 13 60 l1.toNatClampNeg) h3) (fun v4 => (some (v4, h3)))) else none) else (Option.bind (f_M_falseWays N l1 h3) (fun v5 => (some (v5, h3)))))) else none)))))))))))
theorem x_M_whoseWays (N : Nat) {d : Nat} (hd : 3 ≤ d) (l1 : Int32) (l2 : Int32) (l3 : Int32) (h : sh_H) {Q : ai_Q} {R : Int64 × sh_H → Prop} (H : sh_ok (f_M_whoseWays N l1 l2 l3 h) R) (hR : ∀ r h, R (r, h) → Q (some (aL r)) (sh_E h)) : ai_Ex sh_T d 335 [aR 12 0, aI l1, aI l2, aI l3] (sh_E h) Q := by
  obtain ⟨d, rfl⟩ : ∃ e, d = e + 1 := ⟨d - 1, by omega⟩
  replace hd : 2 ≤ d := by omega
  refine And.intro (Nat.le_of_ble_eq_true rfl) ?_
  show wq_335 d Q 0 [oR 12 0, oI l1, oI l2, oI l3] [] (sh_E h)
  refine ai_WP_steps mc_335 (sh_CM d) 3 (And.intro (Nat.le_of_ble_eq_true rfl) (x_M_isIsland (Nat.le_trans (Nat.le_of_ble_eq_true rfl) hd) l1 h (sh_okB H) (fun v1 H => ?_)))
  show wq_335 d Q 5 [oR 12 0, oI l1, oI l2, oI l3] [aI v1] (sh_E h)
  refine ai_WP_steps mc_335 (sh_CM d) 1 (And.intro (fun c => ?_) (fun c => ?_))
  · replace H := sh_okT c H
    exact x_M_whoseWays_b16 N hd hR h H
  · replace H := sh_okF c H
    show wq_335 d Q 8 [oR 12 0, oI l1, oI l2, oI l3] [] (sh_E h)
    refine ai_WP_steps mc_335 (sh_CM d) 3 (And.intro (Nat.le_of_ble_eq_true rfl) (x_M_isKnown (Nat.le_trans (Nat.le_of_ble_eq_true rfl) hd) l2 h (sh_okB H) (fun v2 H => ?_)))
    show wq_335 d Q 13 [oR 12 0, oI l1, oI l2, oI l3] [aI v2] (sh_E h)
    refine ai_WP_steps mc_335 (sh_CM d) 1 (And.intro (fun c => ?_) (fun c => ?_))
    · replace H := sh_okT c H
      exact x_M_whoseWays_b16 N hd hR h H
    · replace H := sh_okF c H
      show wq_335 d Q 20 [oR 12 0, oI l1, oI l2, oI l3] [] (sh_E h)
      refine ai_WP_steps mc_335 (sh_CM d) 3 (And.intro (Nat.le_of_ble_eq_true rfl) (x_M_layFalse N (Nat.le_trans (Nat.le_of_ble_eq_true rfl) hd) l2 h (sh_okB H) (fun h3 H => ?_)))
      show wq_335 d Q 25 [oR 12 0, oI l1, oI l2, oI l3] [] (sh_E h3)
      refine ai_WP_steps mc_335 (sh_CM d) 3 (And.intro (fun c => ?_) (fun c => ?_))
      · replace H := sh_okT c H
        exact x_M_whoseWays_b50 N hd hR h3 H
      · replace H := sh_okF c H
        show wq_335 d Q 32 [oR 12 0, oI l1, oI l2, oI l3] [] (sh_E h3)
        refine ai_WP_steps mc_335 (sh_CM d) 4 (And.intro (fun c => ?_) (fun c => ?_))
        · replace H := sh_okT c H
          exact x_M_whoseWays_b50 N hd hR h3 H
        · replace H := sh_okF c H
          show wq_335 d Q 41 [oR 12 0, oI l1, oI l2, oI l3] [] (sh_E h3)
          have c := sh_okG H
          replace H := sh_okH H
          refine ai_WP_steps mc_335 (sh_CM d) 4 (And.intro c ?_)
          show wq_335 d Q 47 [oR 12 0, oI l1, oI l2, oI l3] [aI (h3.1 13 60 l1.toNatClampNeg)] (sh_E h3)
          refine ai_WP_steps mc_335 (sh_CM d) 1 (And.intro (fun c => ?_) (fun c => ?_))
          · replace H := sh_okT c H
            exact x_M_whoseWays_b50 N hd hR h3 H
          · replace H := sh_okF c H
            show wq_335 d Q 54 [oR 12 0, oI l1, oI l2, oI l3] [] (sh_E h3)
            refine ai_WP_steps mc_335 (sh_CM d) 2 (And.intro (fun c => ?_) (fun c => ?_))
            · replace H := sh_okT c H
              show wq_335 d Q 66 [oR 12 0, oI l1, oI l2, oI l3] [] (sh_E h3)
              have c := sh_okG H
              replace H := sh_okH H
              refine ai_WP_steps mc_335 (sh_CM d) 6 (And.intro c ?_)
              show wq_335 d Q 76 [oR 12 0, oI l1, oI l2, oI l3] [aI (h3.1 13 60 l1.toNatClampNeg), aI (h3.1 12 0 40)] (sh_E h3)
              refine ai_WP_steps mc_335 (sh_CM d) 1 (And.intro (Nat.le_of_ble_eq_true rfl) (x_M_chosen N (Nat.le_trans (Nat.le_of_ble_eq_true rfl) hd) (h3.1 12 0 40) (h3.1 13 60 l1.toNatClampNeg) h3 (sh_okB H) (fun v4 H => ?_)))
              show wq_335 d Q 79 [oR 12 0, oI l1, oI l2, oI l3] [aL v4] (sh_E h3)
              exact ai_WP_steps mc_335 (sh_CM d) 1 (hR v4 h3 H)
            · replace H := sh_okF c H
              show wq_335 d Q 58 [oR 12 0, oI l1, oI l2, oI l3] [] (sh_E h3)
              refine ai_WP_steps mc_335 (sh_CM d) 3 (And.intro (Nat.le_of_ble_eq_true rfl) (x_M_falseWays N (Nat.le_trans (Nat.le_of_ble_eq_true rfl) hd) l1 h3 (sh_okB H) (fun v5 H => ?_)))
              show wq_335 d Q 63 [oR 12 0, oI l1, oI l2, oI l3] [aL v5] (sh_E h3)
              exact ai_WP_steps mc_335 (sh_CM d) 2 (hR v5 h3 H)
def f_M_isTrickle_b35    (h : sh_H) : Option Int32 := (some (ai_nar 1 (0 : Int32)))
theorem x_M_isTrickle_b35 {d : Nat} (hd : 1 ≤ d) (h : sh_H) {Q : ai_Q} {R : Int32 → Prop} (hR : ∀ r, R r → Q (some (aI r)) (sh_E h))    {d0 d1 d2 : Option ai_V} (H : sh_ok (f_M_isTrickle_b35 h) R) : wq_336 d Q 35 [d0, d1, d2] [] (sh_E h) := by
  exact ai_WP_steps mc_336 (sh_CM d) 2 (hR (ai_nar 1 (0 : Int32)) H)
def f_M_isTrickle  (l0 : Int32) (l1 : Int32) (l2 : Int32) (h : sh_H) : Option Int32 := (Option.bind (f_M_isIn l0 (0 : Int32) (9999 : Int32) h) (fun v1 => (if v1 = 0 then f_M_isTrickle_b35 h else (Option.bind (f_M_isIn l1 (0 : Int32) (10 : Int32) h) (fun v2 => (if v2 = 0 then f_M_isTrickle_b35 h else (Option.bind (f_M_isIn l2 (0 : Int32) (10 : Int32) h) (fun v3 => (if v3 = 0 then f_M_isTrickle_b35 h else (some (ai_nar 1 (1 : Int32))))))))))))
theorem x_M_isTrickle {d : Nat} (hd : 2 ≤ d) (l0 : Int32) (l1 : Int32) (l2 : Int32) (h : sh_H) {Q : ai_Q} {R : Int32 → Prop} (H : sh_ok (f_M_isTrickle l0 l1 l2 h) R) (hR : ∀ r, R r → Q (some (aI r)) (sh_E h)) : ai_Ex sh_T d 336 [aI l0, aI l1, aI l2] (sh_E h) Q := by
  obtain ⟨d, rfl⟩ : ∃ e, d = e + 1 := ⟨d - 1, by omega⟩
  replace hd : 1 ≤ d := by omega
  refine And.intro (Nat.le_of_ble_eq_true rfl) ?_
  show wq_336 d Q 0 [oI l0, oI l1, oI l2] [] (sh_E h)
  refine ai_WP_steps mc_336 (sh_CM d) 4 (And.intro (Nat.le_of_ble_eq_true rfl) (x_M_isIn (Nat.le_trans (Nat.le_of_ble_eq_true rfl) hd) l0 (0 : Int32) (9999 : Int32) h (sh_okB H) (fun v1 H => ?_)))
  show wq_336 d Q 8 [oI l0, oI l1, oI l2] [aI v1] (sh_E h)
  refine ai_WP_steps mc_336 (sh_CM d) 1 (And.intro (fun c => ?_) (fun c => ?_))
  · replace H := sh_okT c H
    exact x_M_isTrickle_b35 hd h hR H
  · replace H := sh_okF c H
    show wq_336 d Q 11 [oI l0, oI l1, oI l2] [] (sh_E h)
    refine ai_WP_steps mc_336 (sh_CM d) 4 (And.intro (Nat.le_of_ble_eq_true rfl) (x_M_isIn (Nat.le_trans (Nat.le_of_ble_eq_true rfl) hd) l1 (0 : Int32) (10 : Int32) h (sh_okB H) (fun v2 H => ?_)))
    show wq_336 d Q 18 [oI l0, oI l1, oI l2] [aI v2] (sh_E h)
    refine ai_WP_steps mc_336 (sh_CM d) 1 (And.intro (fun c => ?_) (fun c => ?_))
    · replace H := sh_okT c H
      exact x_M_isTrickle_b35 hd h hR H
    · replace H := sh_okF c H
      show wq_336 d Q 21 [oI l0, oI l1, oI l2] [] (sh_E h)
      refine ai_WP_steps mc_336 (sh_CM d) 4 (And.intro (Nat.le_of_ble_eq_true rfl) (x_M_isIn (Nat.le_trans (Nat.le_of_ble_eq_true rfl) hd) l2 (0 : Int32) (10 : Int32) h (sh_okB H) (fun v3 H => ?_)))
      show wq_336 d Q 28 [oI l0, oI l1, oI l2] [aI v3] (sh_E h)
      refine ai_WP_steps mc_336 (sh_CM d) 1 (And.intro (fun c => ?_) (fun c => ?_))
      · replace H := sh_okT c H
        exact x_M_isTrickle_b35 hd h hR H
      · replace H := sh_okF c H
        show wq_336 d Q 31 [oI l0, oI l1, oI l2] [] (sh_E h)
        exact ai_WP_steps mc_336 (sh_CM d) 3 (hR (ai_nar 1 (1 : Int32)) H)
def f_M_trickle_l31 (N : Nat)  (k82 : Int32 → sh_H → Option Int32) (n : Nat) : Int32 → Int32 → Int32 → Int32 → Int32 → Int32 → sh_H → Option Int32 := Nat.rec (motive := fun _ => Int32 → Int32 → Int32 → Int32 → Int32 → Int32 → sh_H → Option Int32) (fun _ _ _ _ _ _ _ => none) (fun _ k31 l2 l3 l4 l5 l6 l7 h => (if l7 < l4 then (if ¬ (10 : Int32) = 0 then (if ¬ (10 : Int32) = 0 then k31 l2 l3 l4 ((l5 - (((l5 * l2) + (9 : Int32)) / (10 : Int32))) - (((l5 - (((l5 * l2) + (9 : Int32)) / (10 : Int32))) * l3) / (10 : Int32))) (l6 + (((l5 * l2) + (9 : Int32)) / (10 : Int32))) (l7 + (1 : Int32)) h else none) else none) else k82 l6 h)) n
theorem x_M_trickle_l31 (N : Nat) {d : Nat} (hd : 2 ≤ d) (h : sh_H) {Q : ai_Q} {R : Int32 → Prop} (hR : ∀ r, R r → Q (some (aI r)) (sh_E h))  (k82 : Int32 → sh_H → Option Int32) (hk82 : ∀ (l6 : Int32) {d0 d1 d2 d3 d4 d5 d7 d8 : Option ai_V}, sh_ok (k82 l6 h) R → wq_337 d Q 82 [d0, d1, d2, d3, d4, d5, oI l6, d7, d8] [] (sh_E h)) (n : Nat) : ∀ (l2 : Int32) (l3 : Int32) (l4 : Int32) (l5 : Int32) (l6 : Int32) (l7 : Int32) {d0 d1 d8 : Option ai_V}, sh_ok (f_M_trickle_l31 N k82 n l2 l3 l4 l5 l6 l7 h) R → wq_337 d Q 31 [d0, d1, oI l2, oI l3, oI l4, oI l5, oI l6, oI l7, d8] [] (sh_E h) := by
  induction n with
  | zero => intro l2 l3 l4 l5 l6 l7 d0 d1 d8 H; exact H.elim
  | succ n ih =>
    intro l2 l3 l4 l5 l6 l7 d0 d1 d8 H
    have hk31 := @ih
    revert hk31 H
    show sh_ok ((fun k31 l2 l3 l4 l5 l6 l7 h => (if l7 < l4 then (if ¬ (10 : Int32) = 0 then (if ¬ (10 : Int32) = 0 then k31 l2 l3 l4 ((l5 - (((l5 * l2) + (9 : Int32)) / (10 : Int32))) - (((l5 - (((l5 * l2) + (9 : Int32)) / (10 : Int32))) * l3) / (10 : Int32))) (l6 + (((l5 * l2) + (9 : Int32)) / (10 : Int32))) (l7 + (1 : Int32)) h else none) else none) else k82 l6 h)) (f_M_trickle_l31 N k82 n) l2 l3 l4 l5 l6 l7 h) R → _
    generalize f_M_trickle_l31 N k82 n = k31
    intro H hk31
    refine ai_WP_steps mc_337 (sh_CM d) 3 (And.intro (fun c => ?_) (fun c => ?_))
    · replace H := sh_okT c H
      show wq_337 d Q 38 [_, _, oI l2, oI l3, oI l4, oI l5, oI l6, oI l7, _] [] (sh_E h)
      have c := sh_okG H
      replace H := sh_okH H
      refine ai_WP_steps mc_337 (sh_CM d) 7 (And.intro c ?_)
      show wq_337 d Q 48 [_, _, oI l2, oI l3, oI l4, oI l5, oI l6, oI l7, _] [aI (((l5 * l2) + (9 : Int32)) / (10 : Int32))] (sh_E h)
      have c := sh_okG H
      replace H := sh_okH H
      refine ai_WP_steps mc_337 (sh_CM d) 15 (And.intro c ?_)
      show wq_337 d Q 73 [_, _, oI l2, oI l3, oI l4, oI (l5 - (((l5 * l2) + (9 : Int32)) / (10 : Int32))), oI (l6 + (((l5 * l2) + (9 : Int32)) / (10 : Int32))), oI l7, oI (((l5 * l2) + (9 : Int32)) / (10 : Int32))] [aI (((l5 - (((l5 * l2) + (9 : Int32)) / (10 : Int32))) * l3) / (10 : Int32)), aI (l5 - (((l5 * l2) + (9 : Int32)) / (10 : Int32)))] (sh_E h)
      refine ai_WP_steps mc_337 (sh_CM d) 4 ?_
      exact hk31 l2 l3 l4 ((l5 - (((l5 * l2) + (9 : Int32)) / (10 : Int32))) - (((l5 - (((l5 * l2) + (9 : Int32)) / (10 : Int32))) * l3) / (10 : Int32))) (l6 + (((l5 * l2) + (9 : Int32)) / (10 : Int32))) (l7 + (1 : Int32)) H
    · replace H := sh_okF c H
      exact hk82 l6 H
def f_M_trickle_b82 (N : Nat)   (l6 : Int32) (h : sh_H) : Option Int32 := (some l6)
theorem x_M_trickle_b82 (N : Nat) {d : Nat} (hd : 2 ≤ d) (h : sh_H) {Q : ai_Q} {R : Int32 → Prop} (hR : ∀ r, R r → Q (some (aI r)) (sh_E h))   (l6 : Int32) {d0 d1 d2 d3 d4 d5 d7 d8 : Option ai_V} (H : sh_ok (f_M_trickle_b82 N l6 h) R) : wq_337 d Q 82 [d0, d1, d2, d3, d4, d5, oI l6, d7, d8] [] (sh_E h) := by
  exact ai_WP_steps mc_337 (sh_CM d) 2 (hR l6 H)
def f_M_trickle (N : Nat)  (l1 : Int32) (l2 : Int32) (l3 : Int32) (l4 : Int32) (h : sh_H) : Option Int32 := (Option.bind (f_M_isTrickle l1 l2 l3 h) (fun v1 => (if v1 = 0 then (some (-1 : Int32)) else (Option.bind (f_M_isIn l4 (0 : Int32) (60 : Int32) h) (fun v2 => (if v2 = 0 then (some (-1 : Int32)) else f_M_trickle_l31 N (f_M_trickle_b82 N) N l2 l3 l4 l1 (0 : Int32) (0 : Int32) h))))))
theorem x_M_trickle (N : Nat) {d : Nat} (hd : 3 ≤ d) (l1 : Int32) (l2 : Int32) (l3 : Int32) (l4 : Int32) (h : sh_H) {Q : ai_Q} {R : Int32 → Prop} (H : sh_ok (f_M_trickle N l1 l2 l3 l4 h) R) (hR : ∀ r, R r → Q (some (aI r)) (sh_E h)) : ai_Ex sh_T d 337 [aR 12 0, aI l1, aI l2, aI l3, aI l4] (sh_E h) Q := by
  obtain ⟨d, rfl⟩ : ∃ e, d = e + 1 := ⟨d - 1, by omega⟩
  replace hd : 2 ≤ d := by omega
  refine And.intro (Nat.le_of_ble_eq_true rfl) ?_
  show wq_337 d Q 0 [oR 12 0, oI l1, oI l2, oI l3, oI l4, none, none, none, none] [] (sh_E h)
  refine ai_WP_steps mc_337 (sh_CM d) 4 (And.intro (Nat.le_of_ble_eq_true rfl) (x_M_isTrickle (Nat.le_trans (Nat.le_of_ble_eq_true rfl) hd) l1 l2 l3 h (sh_okB H) (fun v1 H => ?_)))
  show wq_337 d Q 6 [oR 12 0, oI l1, oI l2, oI l3, oI l4, _, _, _, _] [aI v1] (sh_E h)
  refine ai_WP_steps mc_337 (sh_CM d) 1 (And.intro (fun c => ?_) (fun c => ?_))
  · replace H := sh_okT c H
    show wq_337 d Q 20 [oR 12 0, oI l1, oI l2, oI l3, oI l4, _, _, _, _] [] (sh_E h)
    exact ai_WP_steps mc_337 (sh_CM d) 2 (hR (-1 : Int32) H)
  · replace H := sh_okF c H
    show wq_337 d Q 9 [oR 12 0, oI l1, oI l2, oI l3, oI l4, _, _, _, _] [] (sh_E h)
    refine ai_WP_steps mc_337 (sh_CM d) 4 (And.intro (Nat.le_of_ble_eq_true rfl) (x_M_isIn (Nat.le_trans (Nat.le_of_ble_eq_true rfl) hd) l4 (0 : Int32) (60 : Int32) h (sh_okB H) (fun v2 H => ?_)))
    show wq_337 d Q 17 [oR 12 0, oI l1, oI l2, oI l3, oI l4, _, _, _, _] [aI v2] (sh_E h)
    refine ai_WP_steps mc_337 (sh_CM d) 1 (And.intro (fun c => ?_) (fun c => ?_))
    · replace H := sh_okT c H
      show wq_337 d Q 20 [oR 12 0, oI l1, oI l2, oI l3, oI l4, _, _, _, _] [] (sh_E h)
      exact ai_WP_steps mc_337 (sh_CM d) 2 (hR (-1 : Int32) H)
    · replace H := sh_okF c H
      show wq_337 d Q 22 [oR 12 0, oI l1, oI l2, oI l3, oI l4, _, _, _, _] [] (sh_E h)
      refine ai_WP_steps mc_337 (sh_CM d) 6 ?_
      exact x_M_trickle_l31 N hd h hR (f_M_trickle_b82 N) (fun z0 {e0} {e1} {e2} {e3} {e4} {e5} {e7} {e8} H => x_M_trickle_b82 N hd h hR z0 H) N l2 l3 l4 l1 (0 : Int32) (0 : Int32) H
def f_M_trickled_l29 (N : Nat)  (k44 : Int32 → sh_H → Option Int32) (k80 : sh_H → Option Int32) (n : Nat) : Int32 → Int32 → Int32 → Int32 → Int32 → sh_H → Option Int32 := Nat.rec (motive := fun _ => Int32 → Int32 → Int32 → Int32 → Int32 → sh_H → Option Int32) (fun _ _ _ _ _ _ => none) (fun _ k29 l2 l3 l4 l5 l6 h => (if (240 : Int32) < l6 then k80 h else (if l4 < l5 then (if ¬ (10 : Int32) = 0 then (if ¬ (10 : Int32) = 0 then k29 l2 l3 l4 ((l5 - (((l5 * l2) + (9 : Int32)) / (10 : Int32))) - (((l5 - (((l5 * l2) + (9 : Int32)) / (10 : Int32))) * l3) / (10 : Int32))) (l6 + (1 : Int32)) h else none) else none) else k44 l6 h))) n
theorem x_M_trickled_l29 (N : Nat) {d : Nat} (hd : 2 ≤ d) (h : sh_H) {Q : ai_Q} {R : Int32 → Prop} (hR : ∀ r, R r → Q (some (aI r)) (sh_E h))  (k44 : Int32 → sh_H → Option Int32) (hk44 : ∀ (l6 : Int32) {d0 d1 d2 d3 d4 d5 : Option ai_V}, sh_ok (k44 l6 h) R → wq_338 d Q 44 [d0, d1, d2, d3, d4, d5, oI l6] [] (sh_E h)) (k80 : sh_H → Option Int32) (hk80 : ∀ {d0 d1 d2 d3 d4 d5 d6 : Option ai_V}, sh_ok (k80 h) R → wq_338 d Q 80 [d0, d1, d2, d3, d4, d5, d6] [] (sh_E h)) (n : Nat) : ∀ (l2 : Int32) (l3 : Int32) (l4 : Int32) (l5 : Int32) (l6 : Int32) {d0 d1 : Option ai_V}, sh_ok (f_M_trickled_l29 N k44 k80 n l2 l3 l4 l5 l6 h) R → wq_338 d Q 29 [d0, d1, oI l2, oI l3, oI l4, oI l5, oI l6] [] (sh_E h) := by
  induction n with
  | zero => intro l2 l3 l4 l5 l6 d0 d1 H; exact H.elim
  | succ n ih =>
    intro l2 l3 l4 l5 l6 d0 d1 H
    have hk29 := @ih
    revert hk29 H
    show sh_ok ((fun k29 l2 l3 l4 l5 l6 h => (if (240 : Int32) < l6 then k80 h else (if l4 < l5 then (if ¬ (10 : Int32) = 0 then (if ¬ (10 : Int32) = 0 then k29 l2 l3 l4 ((l5 - (((l5 * l2) + (9 : Int32)) / (10 : Int32))) - (((l5 - (((l5 * l2) + (9 : Int32)) / (10 : Int32))) * l3) / (10 : Int32))) (l6 + (1 : Int32)) h else none) else none) else k44 l6 h))) (f_M_trickled_l29 N k44 k80 n) l2 l3 l4 l5 l6 h) R → _
    generalize f_M_trickled_l29 N k44 k80 n = k29
    intro H hk29
    refine ai_WP_steps mc_338 (sh_CM d) 3 (And.intro (fun c => ?_) (fun c => ?_))
    · replace H := sh_okT c H
      exact hk80 H
    · replace H := sh_okF c H
      show wq_338 d Q 37 [_, _, oI l2, oI l3, oI l4, oI l5, oI l6] [] (sh_E h)
      refine ai_WP_steps mc_338 (sh_CM d) 3 (And.intro (fun c => ?_) (fun c => ?_))
      · replace H := sh_okT c H
        show wq_338 d Q 47 [_, _, oI l2, oI l3, oI l4, oI l5, oI l6] [] (sh_E h)
        have c := sh_okG H
        replace H := sh_okH H
        refine ai_WP_steps mc_338 (sh_CM d) 8 (And.intro c ?_)
        show wq_338 d Q 59 [_, _, oI l2, oI l3, oI l4, oI l5, oI l6] [aI (((l5 * l2) + (9 : Int32)) / (10 : Int32)), aI l5] (sh_E h)
        have c := sh_okG H
        replace H := sh_okH H
        refine ai_WP_steps mc_338 (sh_CM d) 8 (And.intro c ?_)
        show wq_338 d Q 71 [_, _, oI l2, oI l3, oI l4, oI (l5 - (((l5 * l2) + (9 : Int32)) / (10 : Int32))), oI l6] [aI (((l5 - (((l5 * l2) + (9 : Int32)) / (10 : Int32))) * l3) / (10 : Int32)), aI (l5 - (((l5 * l2) + (9 : Int32)) / (10 : Int32)))] (sh_E h)
        refine ai_WP_steps mc_338 (sh_CM d) 4 ?_
        exact hk29 l2 l3 l4 ((l5 - (((l5 * l2) + (9 : Int32)) / (10 : Int32))) - (((l5 - (((l5 * l2) + (9 : Int32)) / (10 : Int32))) * l3) / (10 : Int32))) (l6 + (1 : Int32)) H
      · replace H := sh_okF c H
        exact hk44 l6 H
def f_M_trickled_b44 (N : Nat)   (l6 : Int32) (h : sh_H) : Option Int32 := (some l6)
theorem x_M_trickled_b44 (N : Nat) {d : Nat} (hd : 2 ≤ d) (h : sh_H) {Q : ai_Q} {R : Int32 → Prop} (hR : ∀ r, R r → Q (some (aI r)) (sh_E h))   (l6 : Int32) {d0 d1 d2 d3 d4 d5 : Option ai_V} (H : sh_ok (f_M_trickled_b44 N l6 h) R) : wq_338 d Q 44 [d0, d1, d2, d3, d4, d5, oI l6] [] (sh_E h) := by
  exact ai_WP_steps mc_338 (sh_CM d) 2 (hR l6 H)
def f_M_trickled_b80 (N : Nat)    (h : sh_H) : Option Int32 := (some (-2 : Int32))
theorem x_M_trickled_b80 (N : Nat) {d : Nat} (hd : 2 ≤ d) (h : sh_H) {Q : ai_Q} {R : Int32 → Prop} (hR : ∀ r, R r → Q (some (aI r)) (sh_E h))    {d0 d1 d2 d3 d4 d5 d6 : Option ai_V} (H : sh_ok (f_M_trickled_b80 N h) R) : wq_338 d Q 80 [d0, d1, d2, d3, d4, d5, d6] [] (sh_E h) := by
  exact ai_WP_steps mc_338 (sh_CM d) 2 (hR (-2 : Int32) H)
def f_M_trickled (N : Nat)  (l1 : Int32) (l2 : Int32) (l3 : Int32) (l4 : Int32) (h : sh_H) : Option Int32 := (Option.bind (f_M_isTrickle l1 l2 l3 h) (fun v1 => (if v1 = 0 then (some (-1 : Int32)) else (Option.bind (f_M_isIn l4 (0 : Int32) (9999 : Int32) h) (fun v2 => (if v2 = 0 then (some (-1 : Int32)) else f_M_trickled_l29 N (f_M_trickled_b44 N) (f_M_trickled_b80 N) N l2 l3 l4 l1 (0 : Int32) h))))))
theorem x_M_trickled (N : Nat) {d : Nat} (hd : 3 ≤ d) (l1 : Int32) (l2 : Int32) (l3 : Int32) (l4 : Int32) (h : sh_H) {Q : ai_Q} {R : Int32 → Prop} (H : sh_ok (f_M_trickled N l1 l2 l3 l4 h) R) (hR : ∀ r, R r → Q (some (aI r)) (sh_E h)) : ai_Ex sh_T d 338 [aR 12 0, aI l1, aI l2, aI l3, aI l4] (sh_E h) Q := by
  obtain ⟨d, rfl⟩ : ∃ e, d = e + 1 := ⟨d - 1, by omega⟩
  replace hd : 2 ≤ d := by omega
  refine And.intro (Nat.le_of_ble_eq_true rfl) ?_
  show wq_338 d Q 0 [oR 12 0, oI l1, oI l2, oI l3, oI l4, none, none] [] (sh_E h)
  refine ai_WP_steps mc_338 (sh_CM d) 4 (And.intro (Nat.le_of_ble_eq_true rfl) (x_M_isTrickle (Nat.le_trans (Nat.le_of_ble_eq_true rfl) hd) l1 l2 l3 h (sh_okB H) (fun v1 H => ?_)))
  show wq_338 d Q 6 [oR 12 0, oI l1, oI l2, oI l3, oI l4, _, _] [aI v1] (sh_E h)
  refine ai_WP_steps mc_338 (sh_CM d) 1 (And.intro (fun c => ?_) (fun c => ?_))
  · replace H := sh_okT c H
    show wq_338 d Q 21 [oR 12 0, oI l1, oI l2, oI l3, oI l4, _, _] [] (sh_E h)
    exact ai_WP_steps mc_338 (sh_CM d) 2 (hR (-1 : Int32) H)
  · replace H := sh_okF c H
    show wq_338 d Q 9 [oR 12 0, oI l1, oI l2, oI l3, oI l4, _, _] [] (sh_E h)
    refine ai_WP_steps mc_338 (sh_CM d) 4 (And.intro (Nat.le_of_ble_eq_true rfl) (x_M_isIn (Nat.le_trans (Nat.le_of_ble_eq_true rfl) hd) l4 (0 : Int32) (9999 : Int32) h (sh_okB H) (fun v2 H => ?_)))
    show wq_338 d Q 18 [oR 12 0, oI l1, oI l2, oI l3, oI l4, _, _] [aI v2] (sh_E h)
    refine ai_WP_steps mc_338 (sh_CM d) 1 (And.intro (fun c => ?_) (fun c => ?_))
    · replace H := sh_okT c H
      show wq_338 d Q 21 [oR 12 0, oI l1, oI l2, oI l3, oI l4, _, _] [] (sh_E h)
      exact ai_WP_steps mc_338 (sh_CM d) 2 (hR (-1 : Int32) H)
    · replace H := sh_okF c H
      show wq_338 d Q 23 [oR 12 0, oI l1, oI l2, oI l3, oI l4, _, _] [] (sh_E h)
      refine ai_WP_steps mc_338 (sh_CM d) 4 ?_
      exact x_M_trickled_l29 N hd h hR (f_M_trickled_b44 N) (fun z0 {e0} {e1} {e2} {e3} {e4} {e5} H => x_M_trickled_b44 N hd h hR z0 H) (f_M_trickled_b80 N) (fun {e0} {e1} {e2} {e3} {e4} {e5} {e6} H => x_M_trickled_b80 N hd h hR  H) N l2 l3 l4 l1 (0 : Int32) H
def f_M_burnAt_b103 (N : Nat)  (k55 : Int32 → Int32 → Int32 → Int32 → Int32 → Int32 → sh_H → Option Int32) (l2 : Int32) (l3 : Int32) (l4 : Int32) (l5 : Int32) (l6 : Int32) (l7 : Int32) (h : sh_H) : Option Int32 := k55 l2 l3 l4 l5 l6 (l7 + (1 : Int32)) h
theorem x_M_burnAt_b103 (N : Nat) {d : Nat} (hd : 1 ≤ d) (h : sh_H) {Q : ai_Q} {R : Int32 → Prop} (hR : ∀ r, R r → Q (some (aI r)) (sh_E h))  (k55 : Int32 → Int32 → Int32 → Int32 → Int32 → Int32 → sh_H → Option Int32) (hk55 : ∀ (l2 : Int32) (l3 : Int32) (l4 : Int32) (l5 : Int32) (l6 : Int32) (l7 : Int32) {d0 d1 : Option ai_V}, sh_ok (k55 l2 l3 l4 l5 l6 l7 h) R → wq_339 d Q 55 [d0, d1, oI l2, oI l3, oI l4, oI l5, oI l6, oI l7] [] (sh_E h)) (l2 : Int32) (l3 : Int32) (l4 : Int32) (l5 : Int32) (l6 : Int32) (l7 : Int32) {d0 d1 : Option ai_V} (H : sh_ok (f_M_burnAt_b103 N k55 l2 l3 l4 l5 l6 l7 h) R) : wq_339 d Q 103 [d0, d1, oI l2, oI l3, oI l4, oI l5, oI l6, oI l7] [] (sh_E h) := by
  refine ai_WP_steps mc_339 (sh_CM d) 2 ?_
  exact hk55 l2 l3 l4 l5 l6 (l7 + (1 : Int32)) H
def f_M_burnAt_l55 (N : Nat)  (k109 : Int32 → sh_H → Option Int32) (n : Nat) : Int32 → Int32 → Int32 → Int32 → Int32 → Int32 → sh_H → Option Int32 := Nat.rec (motive := fun _ => Int32 → Int32 → Int32 → Int32 → Int32 → Int32 → sh_H → Option Int32) (fun _ _ _ _ _ _ _ => none) (fun _ k55 l2 l3 l4 l5 l6 l7 h => (if l7 < (5 : Int32) then (if ((l5 + ((((l7 - (1 : Int32)) * (l7 - (1 : Int32))) * l2) * l3)) * l4) < (l6 * l7) then f_M_burnAt_b103 N k55 l2 l3 l7 (l5 + ((((l7 - (1 : Int32)) * (l7 - (1 : Int32))) * l2) * l3)) (l5 + ((((l7 - (1 : Int32)) * (l7 - (1 : Int32))) * l2) * l3)) l7 h else f_M_burnAt_b103 N k55 l2 l3 l4 (l5 + ((((l7 - (1 : Int32)) * (l7 - (1 : Int32))) * l2) * l3)) l6 l7 h) else k109 l4 h)) n
theorem x_M_burnAt_l55 (N : Nat) {d : Nat} (hd : 1 ≤ d) (h : sh_H) {Q : ai_Q} {R : Int32 → Prop} (hR : ∀ r, R r → Q (some (aI r)) (sh_E h))  (k109 : Int32 → sh_H → Option Int32) (hk109 : ∀ (l4 : Int32) {d0 d1 d2 d3 d5 d6 d7 : Option ai_V}, sh_ok (k109 l4 h) R → wq_339 d Q 109 [d0, d1, d2, d3, oI l4, d5, d6, d7] [] (sh_E h)) (n : Nat) : ∀ (l2 : Int32) (l3 : Int32) (l4 : Int32) (l5 : Int32) (l6 : Int32) (l7 : Int32) {d0 d1 : Option ai_V}, sh_ok (f_M_burnAt_l55 N k109 n l2 l3 l4 l5 l6 l7 h) R → wq_339 d Q 55 [d0, d1, oI l2, oI l3, oI l4, oI l5, oI l6, oI l7] [] (sh_E h) := by
  induction n with
  | zero => intro l2 l3 l4 l5 l6 l7 d0 d1 H; exact H.elim
  | succ n ih =>
    intro l2 l3 l4 l5 l6 l7 d0 d1 H
    have hk55 := @ih
    revert hk55 H
    show sh_ok ((fun k55 l2 l3 l4 l5 l6 l7 h => (if l7 < (5 : Int32) then (if ((l5 + ((((l7 - (1 : Int32)) * (l7 - (1 : Int32))) * l2) * l3)) * l4) < (l6 * l7) then f_M_burnAt_b103 N k55 l2 l3 l7 (l5 + ((((l7 - (1 : Int32)) * (l7 - (1 : Int32))) * l2) * l3)) (l5 + ((((l7 - (1 : Int32)) * (l7 - (1 : Int32))) * l2) * l3)) l7 h else f_M_burnAt_b103 N k55 l2 l3 l4 (l5 + ((((l7 - (1 : Int32)) * (l7 - (1 : Int32))) * l2) * l3)) l6 l7 h) else k109 l4 h)) (f_M_burnAt_l55 N k109 n) l2 l3 l4 l5 l6 l7 h) R → _
    generalize f_M_burnAt_l55 N k109 n = k55
    intro H hk55
    refine ai_WP_steps mc_339 (sh_CM d) 3 (And.intro (fun c => ?_) (fun c => ?_))
    · replace H := sh_okT c H
      show wq_339 d Q 61 [_, _, oI l2, oI l3, oI l4, oI l5, oI l6, oI l7] [] (sh_E h)
      refine ai_WP_steps mc_339 (sh_CM d) 21 (And.intro (fun c => ?_) (fun c => ?_))
      · replace H := sh_okT c H
        show wq_339 d Q 95 [_, _, oI l2, oI l3, oI l4, oI (l5 + ((((l7 - (1 : Int32)) * (l7 - (1 : Int32))) * l2) * l3)), oI l6, oI l7] [] (sh_E h)
        refine ai_WP_steps mc_339 (sh_CM d) 4 ?_
        exact x_M_burnAt_b103 N hd h hR k55 hk55 l2 l3 l7 (l5 + ((((l7 - (1 : Int32)) * (l7 - (1 : Int32))) * l2) * l3)) (l5 + ((((l7 - (1 : Int32)) * (l7 - (1 : Int32))) * l2) * l3)) l7 H
      · replace H := sh_okF c H
        show wq_339 d Q 92 [_, _, oI l2, oI l3, oI l4, oI (l5 + ((((l7 - (1 : Int32)) * (l7 - (1 : Int32))) * l2) * l3)), oI l6, oI l7] [] (sh_E h)
        refine ai_WP_steps mc_339 (sh_CM d) 1 ?_
        exact x_M_burnAt_b103 N hd h hR k55 hk55 l2 l3 l4 (l5 + ((((l7 - (1 : Int32)) * (l7 - (1 : Int32))) * l2) * l3)) l6 l7 H
    · replace H := sh_okF c H
      exact hk109 l4 H
def f_M_burnAt_b109 (N : Nat)   (l4 : Int32) (h : sh_H) : Option Int32 := (some l4)
theorem x_M_burnAt_b109 (N : Nat) {d : Nat} (hd : 1 ≤ d) (h : sh_H) {Q : ai_Q} {R : Int32 → Prop} (hR : ∀ r, R r → Q (some (aI r)) (sh_E h))   (l4 : Int32) {d0 d1 d2 d3 d5 d6 d7 : Option ai_V} (H : sh_ok (f_M_burnAt_b109 N l4 h) R) : wq_339 d Q 109 [d0, d1, d2, d3, oI l4, d5, d6, d7] [] (sh_E h) := by
  exact ai_WP_steps mc_339 (sh_CM d) 2 (hR l4 H)
def f_M_burnAt (N : Nat)  (l1 : Int32) (l2 : Int32) (l3 : Int32) (h : sh_H) : Option Int32 := (Option.bind (f_M_isKind l1 h) (fun v1 => (if v1 = 0 then (some (-1 : Int32)) else (Option.bind (f_M_isIn l2 (0 : Int32) (99 : Int32) h) (fun v2 => (if v2 = 0 then (some (-1 : Int32)) else (Option.bind (f_M_isIn l3 (1 : Int32) (12 : Int32) h) (fun v3 => (if v3 = 0 then (some (-1 : Int32)) else (if ai_in (((20 : Int32) + ((3 : Int32) * l1)) + (2 : Int32)) 8000 then f_M_burnAt_l55 N (f_M_burnAt_b109 N) N l2 l3 (1 : Int32) (h.1 13 46 (((20 : Int32) + ((3 : Int32) * l1)) + (2 : Int32)).toNatClampNeg) (h.1 13 46 (((20 : Int32) + ((3 : Int32) * l1)) + (2 : Int32)).toNatClampNeg) (2 : Int32) h else none))))))))))
theorem x_M_burnAt (N : Nat) {d : Nat} (hd : 2 ≤ d) (l1 : Int32) (l2 : Int32) (l3 : Int32) (h : sh_H) {Q : ai_Q} {R : Int32 → Prop} (H : sh_ok (f_M_burnAt N l1 l2 l3 h) R) (hR : ∀ r, R r → Q (some (aI r)) (sh_E h)) : ai_Ex sh_T d 339 [aR 12 0, aI l1, aI l2, aI l3] (sh_E h) Q := by
  obtain ⟨d, rfl⟩ : ∃ e, d = e + 1 := ⟨d - 1, by omega⟩
  replace hd : 1 ≤ d := by omega
  refine And.intro (Nat.le_of_ble_eq_true rfl) ?_
  show wq_339 d Q 0 [oR 12 0, oI l1, oI l2, oI l3, none, none, none, none] [] (sh_E h)
  refine ai_WP_steps mc_339 (sh_CM d) 3 (And.intro (Nat.le_of_ble_eq_true rfl) (x_M_isKind (Nat.le_trans (Nat.le_of_ble_eq_true rfl) hd) l1 h (sh_okB H) (fun v1 H => ?_)))
  show wq_339 d Q 5 [oR 12 0, oI l1, oI l2, oI l3, _, _, _, _] [aI v1] (sh_E h)
  refine ai_WP_steps mc_339 (sh_CM d) 1 (And.intro (fun c => ?_) (fun c => ?_))
  · replace H := sh_okT c H
    show wq_339 d Q 28 [oR 12 0, oI l1, oI l2, oI l3, _, _, _, _] [] (sh_E h)
    exact ai_WP_steps mc_339 (sh_CM d) 2 (hR (-1 : Int32) H)
  · replace H := sh_okF c H
    show wq_339 d Q 8 [oR 12 0, oI l1, oI l2, oI l3, _, _, _, _] [] (sh_E h)
    refine ai_WP_steps mc_339 (sh_CM d) 4 (And.intro (Nat.le_of_ble_eq_true rfl) (x_M_isIn (Nat.le_trans (Nat.le_of_ble_eq_true rfl) hd) l2 (0 : Int32) (99 : Int32) h (sh_okB H) (fun v2 H => ?_)))
    show wq_339 d Q 15 [oR 12 0, oI l1, oI l2, oI l3, _, _, _, _] [aI v2] (sh_E h)
    refine ai_WP_steps mc_339 (sh_CM d) 1 (And.intro (fun c => ?_) (fun c => ?_))
    · replace H := sh_okT c H
      show wq_339 d Q 28 [oR 12 0, oI l1, oI l2, oI l3, _, _, _, _] [] (sh_E h)
      exact ai_WP_steps mc_339 (sh_CM d) 2 (hR (-1 : Int32) H)
    · replace H := sh_okF c H
      show wq_339 d Q 18 [oR 12 0, oI l1, oI l2, oI l3, _, _, _, _] [] (sh_E h)
      refine ai_WP_steps mc_339 (sh_CM d) 4 (And.intro (Nat.le_of_ble_eq_true rfl) (x_M_isIn (Nat.le_trans (Nat.le_of_ble_eq_true rfl) hd) l3 (1 : Int32) (12 : Int32) h (sh_okB H) (fun v3 H => ?_)))
      show wq_339 d Q 25 [oR 12 0, oI l1, oI l2, oI l3, _, _, _, _] [aI v3] (sh_E h)
      refine ai_WP_steps mc_339 (sh_CM d) 1 (And.intro (fun c => ?_) (fun c => ?_))
      · replace H := sh_okT c H
        show wq_339 d Q 28 [oR 12 0, oI l1, oI l2, oI l3, _, _, _, _] [] (sh_E h)
        exact ai_WP_steps mc_339 (sh_CM d) 2 (hR (-1 : Int32) H)
      · replace H := sh_okF c H
        show wq_339 d Q 30 [oR 12 0, oI l1, oI l2, oI l3, _, _, _, _] [] (sh_E h)
        have c := sh_okG H
        replace H := sh_okH H
        refine ai_WP_steps mc_339 (sh_CM d) 12 (And.intro c ?_)
        show wq_339 d Q 46 [oR 12 0, oI l1, oI l2, oI l3, oI (1 : Int32), _, _, _] [aI (h.1 13 46 (((20 : Int32) + ((3 : Int32) * l1)) + (2 : Int32)).toNatClampNeg)] (sh_E h)
        refine ai_WP_steps mc_339 (sh_CM d) 5 ?_
        exact x_M_burnAt_l55 N hd h hR (f_M_burnAt_b109 N) (fun z0 {e0} {e1} {e2} {e3} {e5} {e6} {e7} H => x_M_burnAt_b109 N hd h hR z0 H) N l2 l3 (1 : Int32) (h.1 13 46 (((20 : Int32) + ((3 : Int32) * l1)) + (2 : Int32)).toNatClampNeg) (h.1 13 46 (((20 : Int32) + ((3 : Int32) * l1)) + (2 : Int32)).toNatClampNeg) (2 : Int32) H
def f_M_isCost  (l0 : Int32) (h : sh_H) : Option Int32 := (Option.bind (f_M_isIn l0 (0 : Int32) (9999 : Int32) h) (fun v1 => (some (ai_nar 1 v1))))
theorem x_M_isCost {d : Nat} (hd : 2 ≤ d) (l0 : Int32) (h : sh_H) {Q : ai_Q} {R : Int32 → Prop} (H : sh_ok (f_M_isCost l0 h) R) (hR : ∀ r, R r → Q (some (aI r)) (sh_E h)) : ai_Ex sh_T d 340 [aI l0] (sh_E h) Q := by
  obtain ⟨d, rfl⟩ : ∃ e, d = e + 1 := ⟨d - 1, by omega⟩
  replace hd : 1 ≤ d := by omega
  refine And.intro (Nat.le_of_ble_eq_true rfl) ?_
  show wq_340 d Q 0 [oI l0] [] (sh_E h)
  refine ai_WP_steps mc_340 (sh_CM d) 4 (And.intro (Nat.le_of_ble_eq_true rfl) (x_M_isIn (Nat.le_trans (Nat.le_of_ble_eq_true rfl) hd) l0 (0 : Int32) (9999 : Int32) h (sh_okB H) (fun v1 H => ?_)))
  show wq_340 d Q 8 [oI l0] [aI v1] (sh_E h)
  exact ai_WP_steps mc_340 (sh_CM d) 1 (hR (ai_nar 1 v1) H)
def f_M_sort  (l1 : Int32) (l2 : Int32) (l3 : Int32) (l4 : Int32) (l5 : Int32) (l6 : Int32) (l7 : Int32) (h : sh_H) : Option Int32 := (Option.bind (f_M_isCost l1 h) (fun v1 => (if v1 = 0 then (some (-1 : Int32)) else (Option.bind (f_M_isCost l2 h) (fun v2 => (if v2 = 0 then (some (-1 : Int32)) else (Option.bind (f_M_isIn l3 (0 : Int32) (100 : Int32) h) (fun v3 => (if v3 = 0 then (some (-1 : Int32)) else (Option.bind (f_M_isCost l4 h) (fun v4 => (if v4 = 0 then (some (-1 : Int32)) else (Option.bind (f_M_isIn l5 (0 : Int32) (100 : Int32) h) (fun v5 => (if v5 = 0 then (some (-1 : Int32)) else (Option.bind (f_M_isCost l6 h) (fun v6 => (if v6 = 0 then (some (-1 : Int32)) else (Option.bind (f_M_isCost l7 h) (fun v7 => (if v7 = 0 then (some (-1 : Int32)) else (if (lg_cmp ((l1.toInt64 * (((100 : Int64) * l4.toInt64) + (l5.toInt64 * l6.toInt64))) + ((100 : Int64) * l7.toInt64)) (l1.toInt64 * (((100 : Int64) * l2.toInt64) + (l3.toInt64 * l6.toInt64)))) < 0 then (some (1 : Int32)) else (some (0 : Int32))))))))))))))))))))))))
theorem x_M_sort {d : Nat} (hd : 3 ≤ d) (l1 : Int32) (l2 : Int32) (l3 : Int32) (l4 : Int32) (l5 : Int32) (l6 : Int32) (l7 : Int32) (h : sh_H) {Q : ai_Q} {R : Int32 → Prop} (H : sh_ok (f_M_sort l1 l2 l3 l4 l5 l6 l7 h) R) (hR : ∀ r, R r → Q (some (aI r)) (sh_E h)) : ai_Ex sh_T d 341 [aR 12 0, aI l1, aI l2, aI l3, aI l4, aI l5, aI l6, aI l7] (sh_E h) Q := by
  obtain ⟨d, rfl⟩ : ∃ e, d = e + 1 := ⟨d - 1, by omega⟩
  replace hd : 2 ≤ d := by omega
  refine And.intro (Nat.le_of_ble_eq_true rfl) ?_
  show wq_341 d Q 0 [oR 12 0, oI l1, oI l2, oI l3, oI l4, oI l5, oI l6, oI l7, none, none, none, none] [] (sh_E h)
  refine ai_WP_steps mc_341 (sh_CM d) 2 (And.intro (Nat.le_of_ble_eq_true rfl) (x_M_isCost (Nat.le_trans (Nat.le_of_ble_eq_true rfl) hd) l1 h (sh_okB H) (fun v1 H => ?_)))
  show wq_341 d Q 4 [oR 12 0, oI l1, oI l2, oI l3, oI l4, oI l5, oI l6, oI l7, _, _, _, _] [aI v1] (sh_E h)
  refine ai_WP_steps mc_341 (sh_CM d) 1 (And.intro (fun c => ?_) (fun c => ?_))
  · replace H := sh_okT c H
    show wq_341 d Q 59 [oR 12 0, oI l1, oI l2, oI l3, oI l4, oI l5, oI l6, oI l7, _, _, _, _] [] (sh_E h)
    exact ai_WP_steps mc_341 (sh_CM d) 2 (hR (-1 : Int32) H)
  · replace H := sh_okF c H
    show wq_341 d Q 7 [oR 12 0, oI l1, oI l2, oI l3, oI l4, oI l5, oI l6, oI l7, _, _, _, _] [] (sh_E h)
    refine ai_WP_steps mc_341 (sh_CM d) 2 (And.intro (Nat.le_of_ble_eq_true rfl) (x_M_isCost (Nat.le_trans (Nat.le_of_ble_eq_true rfl) hd) l2 h (sh_okB H) (fun v2 H => ?_)))
    show wq_341 d Q 11 [oR 12 0, oI l1, oI l2, oI l3, oI l4, oI l5, oI l6, oI l7, _, _, _, _] [aI v2] (sh_E h)
    refine ai_WP_steps mc_341 (sh_CM d) 1 (And.intro (fun c => ?_) (fun c => ?_))
    · replace H := sh_okT c H
      show wq_341 d Q 59 [oR 12 0, oI l1, oI l2, oI l3, oI l4, oI l5, oI l6, oI l7, _, _, _, _] [] (sh_E h)
      exact ai_WP_steps mc_341 (sh_CM d) 2 (hR (-1 : Int32) H)
    · replace H := sh_okF c H
      show wq_341 d Q 14 [oR 12 0, oI l1, oI l2, oI l3, oI l4, oI l5, oI l6, oI l7, _, _, _, _] [] (sh_E h)
      refine ai_WP_steps mc_341 (sh_CM d) 4 (And.intro (Nat.le_of_ble_eq_true rfl) (x_M_isIn (Nat.le_trans (Nat.le_of_ble_eq_true rfl) hd) l3 (0 : Int32) (100 : Int32) h (sh_okB H) (fun v3 H => ?_)))
      show wq_341 d Q 21 [oR 12 0, oI l1, oI l2, oI l3, oI l4, oI l5, oI l6, oI l7, _, _, _, _] [aI v3] (sh_E h)
      refine ai_WP_steps mc_341 (sh_CM d) 1 (And.intro (fun c => ?_) (fun c => ?_))
      · replace H := sh_okT c H
        show wq_341 d Q 59 [oR 12 0, oI l1, oI l2, oI l3, oI l4, oI l5, oI l6, oI l7, _, _, _, _] [] (sh_E h)
        exact ai_WP_steps mc_341 (sh_CM d) 2 (hR (-1 : Int32) H)
      · replace H := sh_okF c H
        show wq_341 d Q 24 [oR 12 0, oI l1, oI l2, oI l3, oI l4, oI l5, oI l6, oI l7, _, _, _, _] [] (sh_E h)
        refine ai_WP_steps mc_341 (sh_CM d) 2 (And.intro (Nat.le_of_ble_eq_true rfl) (x_M_isCost (Nat.le_trans (Nat.le_of_ble_eq_true rfl) hd) l4 h (sh_okB H) (fun v4 H => ?_)))
        show wq_341 d Q 29 [oR 12 0, oI l1, oI l2, oI l3, oI l4, oI l5, oI l6, oI l7, _, _, _, _] [aI v4] (sh_E h)
        refine ai_WP_steps mc_341 (sh_CM d) 1 (And.intro (fun c => ?_) (fun c => ?_))
        · replace H := sh_okT c H
          show wq_341 d Q 59 [oR 12 0, oI l1, oI l2, oI l3, oI l4, oI l5, oI l6, oI l7, _, _, _, _] [] (sh_E h)
          exact ai_WP_steps mc_341 (sh_CM d) 2 (hR (-1 : Int32) H)
        · replace H := sh_okF c H
          show wq_341 d Q 32 [oR 12 0, oI l1, oI l2, oI l3, oI l4, oI l5, oI l6, oI l7, _, _, _, _] [] (sh_E h)
          refine ai_WP_steps mc_341 (sh_CM d) 4 (And.intro (Nat.le_of_ble_eq_true rfl) (x_M_isIn (Nat.le_trans (Nat.le_of_ble_eq_true rfl) hd) l5 (0 : Int32) (100 : Int32) h (sh_okB H) (fun v5 H => ?_)))
          show wq_341 d Q 40 [oR 12 0, oI l1, oI l2, oI l3, oI l4, oI l5, oI l6, oI l7, _, _, _, _] [aI v5] (sh_E h)
          refine ai_WP_steps mc_341 (sh_CM d) 1 (And.intro (fun c => ?_) (fun c => ?_))
          · replace H := sh_okT c H
            show wq_341 d Q 59 [oR 12 0, oI l1, oI l2, oI l3, oI l4, oI l5, oI l6, oI l7, _, _, _, _] [] (sh_E h)
            exact ai_WP_steps mc_341 (sh_CM d) 2 (hR (-1 : Int32) H)
          · replace H := sh_okF c H
            show wq_341 d Q 43 [oR 12 0, oI l1, oI l2, oI l3, oI l4, oI l5, oI l6, oI l7, _, _, _, _] [] (sh_E h)
            refine ai_WP_steps mc_341 (sh_CM d) 2 (And.intro (Nat.le_of_ble_eq_true rfl) (x_M_isCost (Nat.le_trans (Nat.le_of_ble_eq_true rfl) hd) l6 h (sh_okB H) (fun v6 H => ?_)))
            show wq_341 d Q 48 [oR 12 0, oI l1, oI l2, oI l3, oI l4, oI l5, oI l6, oI l7, _, _, _, _] [aI v6] (sh_E h)
            refine ai_WP_steps mc_341 (sh_CM d) 1 (And.intro (fun c => ?_) (fun c => ?_))
            · replace H := sh_okT c H
              show wq_341 d Q 59 [oR 12 0, oI l1, oI l2, oI l3, oI l4, oI l5, oI l6, oI l7, _, _, _, _] [] (sh_E h)
              exact ai_WP_steps mc_341 (sh_CM d) 2 (hR (-1 : Int32) H)
            · replace H := sh_okF c H
              show wq_341 d Q 51 [oR 12 0, oI l1, oI l2, oI l3, oI l4, oI l5, oI l6, oI l7, _, _, _, _] [] (sh_E h)
              refine ai_WP_steps mc_341 (sh_CM d) 2 (And.intro (Nat.le_of_ble_eq_true rfl) (x_M_isCost (Nat.le_trans (Nat.le_of_ble_eq_true rfl) hd) l7 h (sh_okB H) (fun v7 H => ?_)))
              show wq_341 d Q 56 [oR 12 0, oI l1, oI l2, oI l3, oI l4, oI l5, oI l6, oI l7, _, _, _, _] [aI v7] (sh_E h)
              refine ai_WP_steps mc_341 (sh_CM d) 1 (And.intro (fun c => ?_) (fun c => ?_))
              · replace H := sh_okT c H
                show wq_341 d Q 59 [oR 12 0, oI l1, oI l2, oI l3, oI l4, oI l5, oI l6, oI l7, _, _, _, _] [] (sh_E h)
                exact ai_WP_steps mc_341 (sh_CM d) 2 (hR (-1 : Int32) H)
              · replace H := sh_okF c H
                show wq_341 d Q 61 [oR 12 0, oI l1, oI l2, oI l3, oI l4, oI l5, oI l6, oI l7, _, _, _, _] [] (sh_E h)
                refine ai_WP_steps mc_341 (sh_CM d) 37 (And.intro (fun c => ?_) (fun c => ?_))
                · replace H := sh_okT c H
                  show wq_341 d Q 115 [oR 12 0, oI l1, oI l2, oI l3, oI l4, oI l5, oI l6, oI l7, oL (l1.toInt64 * (((100 : Int64) * l2.toInt64) + (l3.toInt64 * l6.toInt64))), _, oL ((l1.toInt64 * (((100 : Int64) * l4.toInt64) + (l5.toInt64 * l6.toInt64))) + ((100 : Int64) * l7.toInt64)), _] [] (sh_E h)
                  exact ai_WP_steps mc_341 (sh_CM d) 3 (hR (1 : Int32) H)
                · replace H := sh_okF c H
                  show wq_341 d Q 119 [oR 12 0, oI l1, oI l2, oI l3, oI l4, oI l5, oI l6, oI l7, oL (l1.toInt64 * (((100 : Int64) * l2.toInt64) + (l3.toInt64 * l6.toInt64))), _, oL ((l1.toInt64 * (((100 : Int64) * l4.toInt64) + (l5.toInt64 * l6.toInt64))) + ((100 : Int64) * l7.toInt64)), _] [] (sh_E h)
                  exact ai_WP_steps mc_341 (sh_CM d) 2 (hR (0 : Int32) H)
def f_M_count_b157   (s0 : Int32) (s1 : Int32) (h : sh_H) : Option Int32 := (some (s0 + s1))
theorem x_M_count_b157 {d : Nat} (hd : 0 ≤ d) (h : sh_H) {Q : ai_Q} {R : Int32 → Prop} (hR : ∀ r, R r → Q (some (aI r)) (sh_E h))   (s0 : Int32) (s1 : Int32) {d0 d1 : Option ai_V} (H : sh_ok (f_M_count_b157 s0 s1 h) R) : wq_342 d Q 157 [d0, d1] [aI s1, aI s0] (sh_E h) := by
  exact ai_WP_steps mc_342 (sh_CM d) 2 (hR (s0 + s1) H)
def f_M_count_b143   (s0 : Int32) (h : sh_H) : Option Int32 := (if ai_in (3 : Int32) 4 then (if (h.1 16 0 (3 : Int32).toNatClampNeg) = 0 then f_M_count_b157 s0 (0 : Int32) h else f_M_count_b157 s0 (1 : Int32) h) else none)
theorem x_M_count_b143 {d : Nat} (hd : 0 ≤ d) (h : sh_H) {Q : ai_Q} {R : Int32 → Prop} (hR : ∀ r, R r → Q (some (aI r)) (sh_E h))   (s0 : Int32) {d1 : Option ai_V} (H : sh_ok (f_M_count_b143 s0 h) R) : wq_342 d Q 143 [oR 12 0, d1] [aI s0] (sh_E h) := by
  have c := sh_okG H
  replace H := sh_okH H
  refine ai_WP_steps mc_342 (sh_CM d) 4 (And.intro c ?_)
  show wq_342 d Q 149 [oR 12 0, _] [aI (h.1 16 0 (3 : Int32).toNatClampNeg), aI s0] (sh_E h)
  refine ai_WP_steps mc_342 (sh_CM d) 1 (And.intro (fun c => ?_) (fun c => ?_))
  · replace H := sh_okT c H
    show wq_342 d Q 156 [oR 12 0, _] [aI s0] (sh_E h)
    refine ai_WP_steps mc_342 (sh_CM d) 1 ?_
    exact x_M_count_b157 hd h hR s0 (0 : Int32) H
  · replace H := sh_okF c H
    show wq_342 d Q 152 [oR 12 0, _] [aI s0] (sh_E h)
    refine ai_WP_steps mc_342 (sh_CM d) 2 ?_
    exact x_M_count_b157 hd h hR s0 (1 : Int32) H
def f_M_count  (l1 : Int32) (h : sh_H) : Option Int32 := (if l1 = (0 : Int32) then (if ai_in (0 : Int32) 8000 then (some (h.1 13 46 (0 : Int32).toNatClampNeg)) else none) else (if l1 = (1 : Int32) then (if ai_in (1 : Int32) 8000 then (some (h.1 13 46 (1 : Int32).toNatClampNeg)) else none) else (if l1 = (2 : Int32) then (if ai_in (2 : Int32) 8000 then (some (h.1 13 46 (2 : Int32).toNatClampNeg)) else none) else (if l1 = (3 : Int32) then (if ai_in (4 : Int32) 8000 then (some (h.1 13 46 (4 : Int32).toNatClampNeg)) else none) else (if l1 = (4 : Int32) then (if ai_in (6 : Int32) 8000 then (some (h.1 13 46 (6 : Int32).toNatClampNeg)) else none) else (if l1 = (5 : Int32) then (if ai_in (7 : Int32) 8000 then (some (h.1 13 46 (7 : Int32).toNatClampNeg)) else none) else (if l1 = (6 : Int32) then (if ai_in (8 : Int32) 8000 then (some (h.1 13 46 (8 : Int32).toNatClampNeg)) else none) else (if l1 = (7 : Int32) then (if ai_in (9 : Int32) 8000 then (some (h.1 13 46 (9 : Int32).toNatClampNeg)) else none) else (if l1 = (8 : Int32) then (some (h.1 12 0 0)) else (if l1 = (9 : Int32) then (if ai_in (2 : Int32) 4 then (if (h.1 16 0 (2 : Int32).toNatClampNeg) = 0 then f_M_count_b143 (0 : Int32) h else f_M_count_b143 (1 : Int32) h) else none) else (if l1 = (10 : Int32) then (if ai_in (3 : Int32) 8000 then (some (h.1 13 46 (3 : Int32).toNatClampNeg)) else none) else (if l1 = (11 : Int32) then (if ai_in (5 : Int32) 8000 then (some (h.1 13 46 (5 : Int32).toNatClampNeg)) else none) else (some (-1 : Int32))))))))))))))
theorem x_M_count {d : Nat} (hd : 1 ≤ d) (l1 : Int32) (h : sh_H) {Q : ai_Q} {R : Int32 → Prop} (H : sh_ok (f_M_count l1 h) R) (hR : ∀ r, R r → Q (some (aI r)) (sh_E h)) : ai_Ex sh_T d 342 [aR 12 0, aI l1] (sh_E h) Q := by
  obtain ⟨d, rfl⟩ : ∃ e, d = e + 1 := ⟨d - 1, by omega⟩
  replace hd : 0 ≤ d := by omega
  refine And.intro (Nat.le_of_ble_eq_true rfl) ?_
  show wq_342 d Q 0 [oR 12 0, oI l1] [] (sh_E h)
  refine ai_WP_steps mc_342 (sh_CM d) 2 (And.intro (fun c => ?_) (fun c => ?_))
  · replace H := sh_okT c H
    show wq_342 d Q 64 [oR 12 0, oI l1] [] (sh_E h)
    have c := sh_okG H
    replace H := sh_okH H
    refine ai_WP_steps mc_342 (sh_CM d) 4 (And.intro c ?_)
    show wq_342 d Q 70 [oR 12 0, oI l1] [aI (h.1 13 46 (0 : Int32).toNatClampNeg)] (sh_E h)
    exact ai_WP_steps mc_342 (sh_CM d) 1 (hR (h.1 13 46 (0 : Int32).toNatClampNeg) H)
  replace H := sh_okF c H
  refine And.intro (fun c => ?_) (fun c => ?_)
  · replace H := sh_okT c H
    show wq_342 d Q 71 [oR 12 0, oI l1] [] (sh_E h)
    have c := sh_okG H
    replace H := sh_okH H
    refine ai_WP_steps mc_342 (sh_CM d) 4 (And.intro c ?_)
    show wq_342 d Q 77 [oR 12 0, oI l1] [aI (h.1 13 46 (1 : Int32).toNatClampNeg)] (sh_E h)
    exact ai_WP_steps mc_342 (sh_CM d) 1 (hR (h.1 13 46 (1 : Int32).toNatClampNeg) H)
  replace H := sh_okF c H
  refine And.intro (fun c => ?_) (fun c => ?_)
  · replace H := sh_okT c H
    show wq_342 d Q 78 [oR 12 0, oI l1] [] (sh_E h)
    have c := sh_okG H
    replace H := sh_okH H
    refine ai_WP_steps mc_342 (sh_CM d) 4 (And.intro c ?_)
    show wq_342 d Q 84 [oR 12 0, oI l1] [aI (h.1 13 46 (2 : Int32).toNatClampNeg)] (sh_E h)
    exact ai_WP_steps mc_342 (sh_CM d) 1 (hR (h.1 13 46 (2 : Int32).toNatClampNeg) H)
  replace H := sh_okF c H
  refine And.intro (fun c => ?_) (fun c => ?_)
  · replace H := sh_okT c H
    show wq_342 d Q 85 [oR 12 0, oI l1] [] (sh_E h)
    have c := sh_okG H
    replace H := sh_okH H
    refine ai_WP_steps mc_342 (sh_CM d) 4 (And.intro c ?_)
    show wq_342 d Q 91 [oR 12 0, oI l1] [aI (h.1 13 46 (4 : Int32).toNatClampNeg)] (sh_E h)
    exact ai_WP_steps mc_342 (sh_CM d) 1 (hR (h.1 13 46 (4 : Int32).toNatClampNeg) H)
  replace H := sh_okF c H
  refine And.intro (fun c => ?_) (fun c => ?_)
  · replace H := sh_okT c H
    show wq_342 d Q 92 [oR 12 0, oI l1] [] (sh_E h)
    have c := sh_okG H
    replace H := sh_okH H
    refine ai_WP_steps mc_342 (sh_CM d) 4 (And.intro c ?_)
    show wq_342 d Q 99 [oR 12 0, oI l1] [aI (h.1 13 46 (6 : Int32).toNatClampNeg)] (sh_E h)
    exact ai_WP_steps mc_342 (sh_CM d) 1 (hR (h.1 13 46 (6 : Int32).toNatClampNeg) H)
  replace H := sh_okF c H
  refine And.intro (fun c => ?_) (fun c => ?_)
  · replace H := sh_okT c H
    show wq_342 d Q 100 [oR 12 0, oI l1] [] (sh_E h)
    have c := sh_okG H
    replace H := sh_okH H
    refine ai_WP_steps mc_342 (sh_CM d) 4 (And.intro c ?_)
    show wq_342 d Q 107 [oR 12 0, oI l1] [aI (h.1 13 46 (7 : Int32).toNatClampNeg)] (sh_E h)
    exact ai_WP_steps mc_342 (sh_CM d) 1 (hR (h.1 13 46 (7 : Int32).toNatClampNeg) H)
  replace H := sh_okF c H
  refine And.intro (fun c => ?_) (fun c => ?_)
  · replace H := sh_okT c H
    show wq_342 d Q 108 [oR 12 0, oI l1] [] (sh_E h)
    have c := sh_okG H
    replace H := sh_okH H
    refine ai_WP_steps mc_342 (sh_CM d) 4 (And.intro c ?_)
    show wq_342 d Q 115 [oR 12 0, oI l1] [aI (h.1 13 46 (8 : Int32).toNatClampNeg)] (sh_E h)
    exact ai_WP_steps mc_342 (sh_CM d) 1 (hR (h.1 13 46 (8 : Int32).toNatClampNeg) H)
  replace H := sh_okF c H
  refine And.intro (fun c => ?_) (fun c => ?_)
  · replace H := sh_okT c H
    show wq_342 d Q 116 [oR 12 0, oI l1] [] (sh_E h)
    have c := sh_okG H
    replace H := sh_okH H
    refine ai_WP_steps mc_342 (sh_CM d) 4 (And.intro c ?_)
    show wq_342 d Q 123 [oR 12 0, oI l1] [aI (h.1 13 46 (9 : Int32).toNatClampNeg)] (sh_E h)
    exact ai_WP_steps mc_342 (sh_CM d) 1 (hR (h.1 13 46 (9 : Int32).toNatClampNeg) H)
  replace H := sh_okF c H
  refine And.intro (fun c => ?_) (fun c => ?_)
  · replace H := sh_okT c H
    show wq_342 d Q 124 [oR 12 0, oI l1] [] (sh_E h)
    exact ai_WP_steps mc_342 (sh_CM d) 3 (hR (h.1 12 0 0) H)
  replace H := sh_okF c H
  refine And.intro (fun c => ?_) (fun c => ?_)
  · replace H := sh_okT c H
    show wq_342 d Q 129 [oR 12 0, oI l1] [] (sh_E h)
    have c := sh_okG H
    replace H := sh_okH H
    refine ai_WP_steps mc_342 (sh_CM d) 4 (And.intro c ?_)
    show wq_342 d Q 135 [oR 12 0, oI l1] [aI (h.1 16 0 (2 : Int32).toNatClampNeg)] (sh_E h)
    refine ai_WP_steps mc_342 (sh_CM d) 1 (And.intro (fun c => ?_) (fun c => ?_))
    · replace H := sh_okT c H
      show wq_342 d Q 142 [oR 12 0, oI l1] [] (sh_E h)
      refine ai_WP_steps mc_342 (sh_CM d) 1 ?_
      exact x_M_count_b143 hd h hR (0 : Int32) H
    · replace H := sh_okF c H
      show wq_342 d Q 138 [oR 12 0, oI l1] [] (sh_E h)
      refine ai_WP_steps mc_342 (sh_CM d) 2 ?_
      exact x_M_count_b143 hd h hR (1 : Int32) H
  replace H := sh_okF c H
  refine And.intro (fun c => ?_) (fun c => ?_)
  · replace H := sh_okT c H
    show wq_342 d Q 159 [oR 12 0, oI l1] [] (sh_E h)
    have c := sh_okG H
    replace H := sh_okH H
    refine ai_WP_steps mc_342 (sh_CM d) 4 (And.intro c ?_)
    show wq_342 d Q 165 [oR 12 0, oI l1] [aI (h.1 13 46 (3 : Int32).toNatClampNeg)] (sh_E h)
    exact ai_WP_steps mc_342 (sh_CM d) 1 (hR (h.1 13 46 (3 : Int32).toNatClampNeg) H)
  replace H := sh_okF c H
  refine And.intro (fun c => ?_) (fun c => ?_)
  · replace H := sh_okT c H
    show wq_342 d Q 166 [oR 12 0, oI l1] [] (sh_E h)
    have c := sh_okG H
    replace H := sh_okH H
    refine ai_WP_steps mc_342 (sh_CM d) 4 (And.intro c ?_)
    show wq_342 d Q 172 [oR 12 0, oI l1] [aI (h.1 13 46 (5 : Int32).toNatClampNeg)] (sh_E h)
    exact ai_WP_steps mc_342 (sh_CM d) 1 (hR (h.1 13 46 (5 : Int32).toNatClampNeg) H)
  replace H := sh_okF c H
  show wq_342 d Q 173 [oR 12 0, oI l1] [] (sh_E h)
  exact ai_WP_steps mc_342 (sh_CM d) 2 (hR (-1 : Int32) H)
def f_law_b2107 (N : Nat)  (k18 : Int32 → sh_H → Option (Int32 × sh_H)) (l3 : Int32) (h : sh_H) : Option (Int32 × sh_H) := k18 (l3 + (8 : Int32)) h
theorem x_law_b2107 (N : Nat) {d : Nat} (hd : 67 ≤ d) {Q : ai_Q} {R : Int32 × sh_H → Prop} (hR : ∀ r h, R (r, h) → Q (some (aI r)) (sh_E h))  (k18 : Int32 → sh_H → Option (Int32 × sh_H)) (hk18 : ∀ (l3 : Int32) (h : sh_H), sh_ok (k18 l3 h) R → wq_L d Q 18 [oR 17 0, oR 11 0, oR 12 0, oI l3] [] (sh_E h)) (l3 : Int32) (h : sh_H) (H : sh_ok (f_law_b2107 N k18 l3 h) R) : wq_L d Q 2107 [oR 17 0, oR 11 0, oR 12 0, oI l3] [] (sh_E h) := by
  refine ai_WP_steps mc_L (sh_CM d) 2 ?_
  exact hk18 (l3 + (8 : Int32)) h H
def f_law_b715 (N : Nat)  (k18 : Int32 → sh_H → Option (Int32 × sh_H)) (k721 : sh_H → Option (Int32 × sh_H)) (l3 : Int32) (s0 : Int32) (s2 : Int32) (s3 : Int32) (s4 : Int32) (s5 : Int32) (s6 : Int32) (h : sh_H) : Option (Int32 × sh_H) := (sh_b2 (f_M_send s2 s3 s4 s5 s6 h) (fun v1 h2 => (if s0 = v1 then f_law_b2107 N k18 l3 h2 else k721 h2)))
theorem x_law_b715 (N : Nat) {d : Nat} (hd : 67 ≤ d) {Q : ai_Q} {R : Int32 × sh_H → Prop} (hR : ∀ r h, R (r, h) → Q (some (aI r)) (sh_E h))  (k18 : Int32 → sh_H → Option (Int32 × sh_H)) (hk18 : ∀ (l3 : Int32) (h : sh_H), sh_ok (k18 l3 h) R → wq_L d Q 18 [oR 17 0, oR 11 0, oR 12 0, oI l3] [] (sh_E h)) (k721 : sh_H → Option (Int32 × sh_H)) (hk721 : ∀ {d0 d1 d2 d3 : Option ai_V} (h : sh_H), sh_ok (k721 h) R → wq_L d Q 721 [d0, d1, d2, d3] [] (sh_E h)) (l3 : Int32) (s0 : Int32) (s2 : Int32) (s3 : Int32) (s4 : Int32) (s5 : Int32) (s6 : Int32) (h : sh_H) (H : sh_ok (f_law_b715 N k18 k721 l3 s0 s2 s3 s4 s5 s6 h) R) : wq_L d Q 715 [oR 17 0, oR 11 0, oR 12 0, oI l3] [aI s6, aI s5, aI s4, aI s3, aI s2, aR 12 0, aI s0] (sh_E h) := by
  refine ai_WP_steps mc_L (sh_CM d) 1 (And.intro (Nat.le_of_ble_eq_true rfl) (x_M_send (Nat.le_trans (Nat.le_of_ble_eq_true rfl) hd) s2 s3 s4 s5 s6 h (sh_okB H) (fun v1 h2 H => ?_)))
  show wq_L d Q 718 [oR 17 0, oR 11 0, oR 12 0, oI l3] [aI v1, aI s0] (sh_E h2)
  refine ai_WP_steps mc_L (sh_CM d) 1 (And.intro (fun c => ?_) (fun c => ?_))
  · replace H := sh_okT c H
    exact x_law_b2107 N hd hR k18 hk18 l3 h2 H
  · replace H := sh_okF c H
    exact hk721 h2 H
def f_law_b678 (N : Nat)  (k18 : Int32 → sh_H → Option (Int32 × sh_H)) (k721 : sh_H → Option (Int32 × sh_H)) (l3 : Int32) (s1 : Int32) (s2 : Int32) (s3 : Int32) (s4 : Int32) (s5 : Int32) (h : sh_H) : Option (Int32 × sh_H) := (sh_b2 (f_CB_send N s1 s2 s3 s4 s5 h) (fun v3 h4 => (if ai_in (l3 + (1 : Int32)) h4.2.2.2.2 then (if ai_in (l3 + (2 : Int32)) h4.2.2.2.2 then (if ai_in (l3 + (3 : Int32)) h4.2.2.2.2 then (if ai_in (l3 + (4 : Int32)) h4.2.2.2.2 then (if ai_in (l3 + (5 : Int32)) h4.2.2.2.2 then (if (h4.1 17 0 (l3 + (5 : Int32)).toNatClampNeg) = 0 then f_law_b715 N k18 k721 l3 v3 (h4.1 17 0 (l3 + (1 : Int32)).toNatClampNeg) (h4.1 17 0 (l3 + (2 : Int32)).toNatClampNeg) (h4.1 17 0 (l3 + (3 : Int32)).toNatClampNeg) (h4.1 17 0 (l3 + (4 : Int32)).toNatClampNeg) (0 : Int32) h4 else f_law_b715 N k18 k721 l3 v3 (h4.1 17 0 (l3 + (1 : Int32)).toNatClampNeg) (h4.1 17 0 (l3 + (2 : Int32)).toNatClampNeg) (h4.1 17 0 (l3 + (3 : Int32)).toNatClampNeg) (h4.1 17 0 (l3 + (4 : Int32)).toNatClampNeg) (1 : Int32) h4) else none) else none) else none) else none) else none)))
theorem x_law_b678 (N : Nat) {d : Nat} (hd : 67 ≤ d) {Q : ai_Q} {R : Int32 × sh_H → Prop} (hR : ∀ r h, R (r, h) → Q (some (aI r)) (sh_E h))  (k18 : Int32 → sh_H → Option (Int32 × sh_H)) (hk18 : ∀ (l3 : Int32) (h : sh_H), sh_ok (k18 l3 h) R → wq_L d Q 18 [oR 17 0, oR 11 0, oR 12 0, oI l3] [] (sh_E h)) (k721 : sh_H → Option (Int32 × sh_H)) (hk721 : ∀ {d0 d1 d2 d3 : Option ai_V} (h : sh_H), sh_ok (k721 h) R → wq_L d Q 721 [d0, d1, d2, d3] [] (sh_E h)) (l3 : Int32) (s1 : Int32) (s2 : Int32) (s3 : Int32) (s4 : Int32) (s5 : Int32) (h : sh_H) (H : sh_ok (f_law_b678 N k18 k721 l3 s1 s2 s3 s4 s5 h) R) : wq_L d Q 678 [oR 17 0, oR 11 0, oR 12 0, oI l3] [aI s5, aI s4, aI s3, aI s2, aI s1, aR 11 0] (sh_E h) := by
  refine ai_WP_steps mc_L (sh_CM d) 1 (And.intro (Nat.le_of_ble_eq_true rfl) (x_CB_send N (Nat.le_trans (Nat.le_of_ble_eq_true rfl) hd) s1 s2 s3 s4 s5 h (sh_okB H) (fun v3 h4 H => ?_)))
  show wq_L d Q 681 [oR 17 0, oR 11 0, oR 12 0, oI l3] [aI v3] (sh_E h4)
  have c := sh_okG H
  replace H := sh_okH H
  refine ai_WP_steps mc_L (sh_CM d) 6 (And.intro c ?_)
  show wq_L d Q 687 [oR 17 0, oR 11 0, oR 12 0, oI l3] [aI (h4.1 17 0 (l3 + (1 : Int32)).toNatClampNeg), aR 12 0, aI v3] (sh_E h4)
  have c := sh_okG H
  replace H := sh_okH H
  refine ai_WP_steps mc_L (sh_CM d) 5 (And.intro c ?_)
  show wq_L d Q 692 [oR 17 0, oR 11 0, oR 12 0, oI l3] [aI (h4.1 17 0 (l3 + (2 : Int32)).toNatClampNeg), aI (h4.1 17 0 (l3 + (1 : Int32)).toNatClampNeg), aR 12 0, aI v3] (sh_E h4)
  have c := sh_okG H
  replace H := sh_okH H
  refine ai_WP_steps mc_L (sh_CM d) 5 (And.intro c ?_)
  show wq_L d Q 697 [oR 17 0, oR 11 0, oR 12 0, oI l3] [aI (h4.1 17 0 (l3 + (3 : Int32)).toNatClampNeg), aI (h4.1 17 0 (l3 + (2 : Int32)).toNatClampNeg), aI (h4.1 17 0 (l3 + (1 : Int32)).toNatClampNeg), aR 12 0, aI v3] (sh_E h4)
  have c := sh_okG H
  replace H := sh_okH H
  refine ai_WP_steps mc_L (sh_CM d) 5 (And.intro c ?_)
  show wq_L d Q 702 [oR 17 0, oR 11 0, oR 12 0, oI l3] [aI (h4.1 17 0 (l3 + (4 : Int32)).toNatClampNeg), aI (h4.1 17 0 (l3 + (3 : Int32)).toNatClampNeg), aI (h4.1 17 0 (l3 + (2 : Int32)).toNatClampNeg), aI (h4.1 17 0 (l3 + (1 : Int32)).toNatClampNeg), aR 12 0, aI v3] (sh_E h4)
  have c := sh_okG H
  replace H := sh_okH H
  refine ai_WP_steps mc_L (sh_CM d) 5 (And.intro c ?_)
  show wq_L d Q 707 [oR 17 0, oR 11 0, oR 12 0, oI l3] [aI (h4.1 17 0 (l3 + (5 : Int32)).toNatClampNeg), aI (h4.1 17 0 (l3 + (4 : Int32)).toNatClampNeg), aI (h4.1 17 0 (l3 + (3 : Int32)).toNatClampNeg), aI (h4.1 17 0 (l3 + (2 : Int32)).toNatClampNeg), aI (h4.1 17 0 (l3 + (1 : Int32)).toNatClampNeg), aR 12 0, aI v3] (sh_E h4)
  refine ai_WP_steps mc_L (sh_CM d) 1 (And.intro (fun c => ?_) (fun c => ?_))
  · replace H := sh_okT c H
    show wq_L d Q 714 [oR 17 0, oR 11 0, oR 12 0, oI l3] [aI (h4.1 17 0 (l3 + (4 : Int32)).toNatClampNeg), aI (h4.1 17 0 (l3 + (3 : Int32)).toNatClampNeg), aI (h4.1 17 0 (l3 + (2 : Int32)).toNatClampNeg), aI (h4.1 17 0 (l3 + (1 : Int32)).toNatClampNeg), aR 12 0, aI v3] (sh_E h4)
    refine ai_WP_steps mc_L (sh_CM d) 1 ?_
    exact x_law_b715 N hd hR k18 hk18 k721 hk721 l3 v3 (h4.1 17 0 (l3 + (1 : Int32)).toNatClampNeg) (h4.1 17 0 (l3 + (2 : Int32)).toNatClampNeg) (h4.1 17 0 (l3 + (3 : Int32)).toNatClampNeg) (h4.1 17 0 (l3 + (4 : Int32)).toNatClampNeg) (0 : Int32) h4 H
  · replace H := sh_okF c H
    show wq_L d Q 710 [oR 17 0, oR 11 0, oR 12 0, oI l3] [aI (h4.1 17 0 (l3 + (4 : Int32)).toNatClampNeg), aI (h4.1 17 0 (l3 + (3 : Int32)).toNatClampNeg), aI (h4.1 17 0 (l3 + (2 : Int32)).toNatClampNeg), aI (h4.1 17 0 (l3 + (1 : Int32)).toNatClampNeg), aR 12 0, aI v3] (sh_E h4)
    refine ai_WP_steps mc_L (sh_CM d) 2 ?_
    exact x_law_b715 N hd hR k18 hk18 k721 hk721 l3 v3 (h4.1 17 0 (l3 + (1 : Int32)).toNatClampNeg) (h4.1 17 0 (l3 + (2 : Int32)).toNatClampNeg) (h4.1 17 0 (l3 + (3 : Int32)).toNatClampNeg) (h4.1 17 0 (l3 + (4 : Int32)).toNatClampNeg) (1 : Int32) h4 H
def f_law_b1473 (N : Nat)  (k18 : Int32 → sh_H → Option (Int32 × sh_H)) (k1479 : sh_H → Option (Int32 × sh_H)) (l3 : Int32) (s0 : Int32) (s2 : Int32) (s3 : Int32) (s4 : Int32) (s5 : Int32) (h : sh_H) : Option (Int32 × sh_H) := (sh_b2 (f_M_book s2 s3 s4 s5 h) (fun v5 h6 => (if s0 = v5 then f_law_b2107 N k18 l3 h6 else k1479 h6)))
theorem x_law_b1473 (N : Nat) {d : Nat} (hd : 67 ≤ d) {Q : ai_Q} {R : Int32 × sh_H → Prop} (hR : ∀ r h, R (r, h) → Q (some (aI r)) (sh_E h))  (k18 : Int32 → sh_H → Option (Int32 × sh_H)) (hk18 : ∀ (l3 : Int32) (h : sh_H), sh_ok (k18 l3 h) R → wq_L d Q 18 [oR 17 0, oR 11 0, oR 12 0, oI l3] [] (sh_E h)) (k1479 : sh_H → Option (Int32 × sh_H)) (hk1479 : ∀ {d0 d1 d2 d3 : Option ai_V} (h : sh_H), sh_ok (k1479 h) R → wq_L d Q 1479 [d0, d1, d2, d3] [] (sh_E h)) (l3 : Int32) (s0 : Int32) (s2 : Int32) (s3 : Int32) (s4 : Int32) (s5 : Int32) (h : sh_H) (H : sh_ok (f_law_b1473 N k18 k1479 l3 s0 s2 s3 s4 s5 h) R) : wq_L d Q 1473 [oR 17 0, oR 11 0, oR 12 0, oI l3] [aI s5, aI s4, aI s3, aI s2, aR 12 0, aI s0] (sh_E h) := by
  refine ai_WP_steps mc_L (sh_CM d) 1 (And.intro (Nat.le_of_ble_eq_true rfl) (x_M_book (Nat.le_trans (Nat.le_of_ble_eq_true rfl) hd) s2 s3 s4 s5 h (sh_okB H) (fun v5 h6 H => ?_)))
  show wq_L d Q 1476 [oR 17 0, oR 11 0, oR 12 0, oI l3] [aI v5, aI s0] (sh_E h6)
  refine ai_WP_steps mc_L (sh_CM d) 1 (And.intro (fun c => ?_) (fun c => ?_))
  · replace H := sh_okT c H
    exact x_law_b2107 N hd hR k18 hk18 l3 h6 H
  · replace H := sh_okF c H
    exact hk1479 h6 H
def f_law_b1441 (N : Nat)  (k18 : Int32 → sh_H → Option (Int32 × sh_H)) (k1479 : sh_H → Option (Int32 × sh_H)) (l3 : Int32) (s1 : Int32) (s2 : Int32) (s3 : Int32) (s4 : Int32) (h : sh_H) : Option (Int32 × sh_H) := (sh_b2 (f_CB_book N s1 s2 s3 s4 h) (fun v7 h8 => (if ai_in (l3 + (1 : Int32)) h8.2.2.2.2 then (if ai_in (l3 + (2 : Int32)) h8.2.2.2.2 then (if ai_in (l3 + (3 : Int32)) h8.2.2.2.2 then (if ai_in (l3 + (4 : Int32)) h8.2.2.2.2 then (if (h8.1 17 0 (l3 + (4 : Int32)).toNatClampNeg) = 0 then f_law_b1473 N k18 k1479 l3 v7 (h8.1 17 0 (l3 + (1 : Int32)).toNatClampNeg) (h8.1 17 0 (l3 + (2 : Int32)).toNatClampNeg) (h8.1 17 0 (l3 + (3 : Int32)).toNatClampNeg) (0 : Int32) h8 else f_law_b1473 N k18 k1479 l3 v7 (h8.1 17 0 (l3 + (1 : Int32)).toNatClampNeg) (h8.1 17 0 (l3 + (2 : Int32)).toNatClampNeg) (h8.1 17 0 (l3 + (3 : Int32)).toNatClampNeg) (1 : Int32) h8) else none) else none) else none) else none)))
theorem x_law_b1441 (N : Nat) {d : Nat} (hd : 67 ≤ d) {Q : ai_Q} {R : Int32 × sh_H → Prop} (hR : ∀ r h, R (r, h) → Q (some (aI r)) (sh_E h))  (k18 : Int32 → sh_H → Option (Int32 × sh_H)) (hk18 : ∀ (l3 : Int32) (h : sh_H), sh_ok (k18 l3 h) R → wq_L d Q 18 [oR 17 0, oR 11 0, oR 12 0, oI l3] [] (sh_E h)) (k1479 : sh_H → Option (Int32 × sh_H)) (hk1479 : ∀ {d0 d1 d2 d3 : Option ai_V} (h : sh_H), sh_ok (k1479 h) R → wq_L d Q 1479 [d0, d1, d2, d3] [] (sh_E h)) (l3 : Int32) (s1 : Int32) (s2 : Int32) (s3 : Int32) (s4 : Int32) (h : sh_H) (H : sh_ok (f_law_b1441 N k18 k1479 l3 s1 s2 s3 s4 h) R) : wq_L d Q 1441 [oR 17 0, oR 11 0, oR 12 0, oI l3] [aI s4, aI s3, aI s2, aI s1, aR 11 0] (sh_E h) := by
  refine ai_WP_steps mc_L (sh_CM d) 1 (And.intro (Nat.le_of_ble_eq_true rfl) (x_CB_book N (Nat.le_trans (Nat.le_of_ble_eq_true rfl) hd) s1 s2 s3 s4 h (sh_okB H) (fun v7 h8 H => ?_)))
  show wq_L d Q 1444 [oR 17 0, oR 11 0, oR 12 0, oI l3] [aI v7] (sh_E h8)
  have c := sh_okG H
  replace H := sh_okH H
  refine ai_WP_steps mc_L (sh_CM d) 6 (And.intro c ?_)
  show wq_L d Q 1450 [oR 17 0, oR 11 0, oR 12 0, oI l3] [aI (h8.1 17 0 (l3 + (1 : Int32)).toNatClampNeg), aR 12 0, aI v7] (sh_E h8)
  have c := sh_okG H
  replace H := sh_okH H
  refine ai_WP_steps mc_L (sh_CM d) 5 (And.intro c ?_)
  show wq_L d Q 1455 [oR 17 0, oR 11 0, oR 12 0, oI l3] [aI (h8.1 17 0 (l3 + (2 : Int32)).toNatClampNeg), aI (h8.1 17 0 (l3 + (1 : Int32)).toNatClampNeg), aR 12 0, aI v7] (sh_E h8)
  have c := sh_okG H
  replace H := sh_okH H
  refine ai_WP_steps mc_L (sh_CM d) 5 (And.intro c ?_)
  show wq_L d Q 1460 [oR 17 0, oR 11 0, oR 12 0, oI l3] [aI (h8.1 17 0 (l3 + (3 : Int32)).toNatClampNeg), aI (h8.1 17 0 (l3 + (2 : Int32)).toNatClampNeg), aI (h8.1 17 0 (l3 + (1 : Int32)).toNatClampNeg), aR 12 0, aI v7] (sh_E h8)
  have c := sh_okG H
  replace H := sh_okH H
  refine ai_WP_steps mc_L (sh_CM d) 5 (And.intro c ?_)
  show wq_L d Q 1465 [oR 17 0, oR 11 0, oR 12 0, oI l3] [aI (h8.1 17 0 (l3 + (4 : Int32)).toNatClampNeg), aI (h8.1 17 0 (l3 + (3 : Int32)).toNatClampNeg), aI (h8.1 17 0 (l3 + (2 : Int32)).toNatClampNeg), aI (h8.1 17 0 (l3 + (1 : Int32)).toNatClampNeg), aR 12 0, aI v7] (sh_E h8)
  refine ai_WP_steps mc_L (sh_CM d) 1 (And.intro (fun c => ?_) (fun c => ?_))
  · replace H := sh_okT c H
    show wq_L d Q 1472 [oR 17 0, oR 11 0, oR 12 0, oI l3] [aI (h8.1 17 0 (l3 + (3 : Int32)).toNatClampNeg), aI (h8.1 17 0 (l3 + (2 : Int32)).toNatClampNeg), aI (h8.1 17 0 (l3 + (1 : Int32)).toNatClampNeg), aR 12 0, aI v7] (sh_E h8)
    refine ai_WP_steps mc_L (sh_CM d) 1 ?_
    exact x_law_b1473 N hd hR k18 hk18 k1479 hk1479 l3 v7 (h8.1 17 0 (l3 + (1 : Int32)).toNatClampNeg) (h8.1 17 0 (l3 + (2 : Int32)).toNatClampNeg) (h8.1 17 0 (l3 + (3 : Int32)).toNatClampNeg) (0 : Int32) h8 H
  · replace H := sh_okF c H
    show wq_L d Q 1468 [oR 17 0, oR 11 0, oR 12 0, oI l3] [aI (h8.1 17 0 (l3 + (3 : Int32)).toNatClampNeg), aI (h8.1 17 0 (l3 + (2 : Int32)).toNatClampNeg), aI (h8.1 17 0 (l3 + (1 : Int32)).toNatClampNeg), aR 12 0, aI v7] (sh_E h8)
    refine ai_WP_steps mc_L (sh_CM d) 2 ?_
    exact x_law_b1473 N hd hR k18 hk18 k1479 hk1479 l3 v7 (h8.1 17 0 (l3 + (1 : Int32)).toNatClampNeg) (h8.1 17 0 (l3 + (2 : Int32)).toNatClampNeg) (h8.1 17 0 (l3 + (3 : Int32)).toNatClampNeg) (1 : Int32) h8 H
def f_law_b1793 (N : Nat)  (k18 : Int32 → sh_H → Option (Int32 × sh_H)) (k1800 : sh_H → Option (Int32 × sh_H)) (l3 : Int32) (s0 : Int64) (s2 : Int32) (s3 : Int32) (s4 : Int32) (h : sh_H) : Option (Int32 × sh_H) := (sh_b2 (f_M_whoseWays N s2 s3 s4 h) (fun v9 h10 => (if (lg_cmp s0 v9) = 0 then f_law_b2107 N k18 l3 h10 else k1800 h10)))
theorem x_law_b1793 (N : Nat) {d : Nat} (hd : 67 ≤ d) {Q : ai_Q} {R : Int32 × sh_H → Prop} (hR : ∀ r h, R (r, h) → Q (some (aI r)) (sh_E h))  (k18 : Int32 → sh_H → Option (Int32 × sh_H)) (hk18 : ∀ (l3 : Int32) (h : sh_H), sh_ok (k18 l3 h) R → wq_L d Q 18 [oR 17 0, oR 11 0, oR 12 0, oI l3] [] (sh_E h)) (k1800 : sh_H → Option (Int32 × sh_H)) (hk1800 : ∀ {d0 d1 d2 d3 : Option ai_V} (h : sh_H), sh_ok (k1800 h) R → wq_L d Q 1800 [d0, d1, d2, d3] [] (sh_E h)) (l3 : Int32) (s0 : Int64) (s2 : Int32) (s3 : Int32) (s4 : Int32) (h : sh_H) (H : sh_ok (f_law_b1793 N k18 k1800 l3 s0 s2 s3 s4 h) R) : wq_L d Q 1793 [oR 17 0, oR 11 0, oR 12 0, oI l3] [aI s4, aI s3, aI s2, aR 12 0, aL s0] (sh_E h) := by
  refine ai_WP_steps mc_L (sh_CM d) 1 (And.intro (Nat.le_of_ble_eq_true rfl) (x_M_whoseWays N (Nat.le_trans (Nat.le_of_ble_eq_true rfl) hd) s2 s3 s4 h (sh_okB H) (fun v9 h10 H => ?_)))
  show wq_L d Q 1796 [oR 17 0, oR 11 0, oR 12 0, oI l3] [aL v9, aL s0] (sh_E h10)
  refine ai_WP_steps mc_L (sh_CM d) 2 (And.intro (fun c => ?_) (fun c => ?_))
  · replace H := sh_okT c H
    exact x_law_b2107 N hd hR k18 hk18 l3 h10 H
  · replace H := sh_okF c H
    exact hk1800 h10 H
def f_law_b1766 (N : Nat)  (k18 : Int32 → sh_H → Option (Int32 × sh_H)) (k1800 : sh_H → Option (Int32 × sh_H)) (l3 : Int32) (s1 : Int32) (s2 : Int32) (s3 : Int32) (h : sh_H) : Option (Int32 × sh_H) := (sh_b2 (f_CB_whoseWays N s1 s2 s3 h) (fun v11 h12 => (if ai_in (l3 + (1 : Int32)) h12.2.2.2.2 then (if ai_in (l3 + (2 : Int32)) h12.2.2.2.2 then (if ai_in (l3 + (3 : Int32)) h12.2.2.2.2 then (if (h12.1 17 0 (l3 + (3 : Int32)).toNatClampNeg) = 0 then f_law_b1793 N k18 k1800 l3 v11 (h12.1 17 0 (l3 + (1 : Int32)).toNatClampNeg) (h12.1 17 0 (l3 + (2 : Int32)).toNatClampNeg) (0 : Int32) h12 else f_law_b1793 N k18 k1800 l3 v11 (h12.1 17 0 (l3 + (1 : Int32)).toNatClampNeg) (h12.1 17 0 (l3 + (2 : Int32)).toNatClampNeg) (1 : Int32) h12) else none) else none) else none)))
theorem x_law_b1766 (N : Nat) {d : Nat} (hd : 67 ≤ d) {Q : ai_Q} {R : Int32 × sh_H → Prop} (hR : ∀ r h, R (r, h) → Q (some (aI r)) (sh_E h))  (k18 : Int32 → sh_H → Option (Int32 × sh_H)) (hk18 : ∀ (l3 : Int32) (h : sh_H), sh_ok (k18 l3 h) R → wq_L d Q 18 [oR 17 0, oR 11 0, oR 12 0, oI l3] [] (sh_E h)) (k1800 : sh_H → Option (Int32 × sh_H)) (hk1800 : ∀ {d0 d1 d2 d3 : Option ai_V} (h : sh_H), sh_ok (k1800 h) R → wq_L d Q 1800 [d0, d1, d2, d3] [] (sh_E h)) (l3 : Int32) (s1 : Int32) (s2 : Int32) (s3 : Int32) (h : sh_H) (H : sh_ok (f_law_b1766 N k18 k1800 l3 s1 s2 s3 h) R) : wq_L d Q 1766 [oR 17 0, oR 11 0, oR 12 0, oI l3] [aI s3, aI s2, aI s1, aR 11 0] (sh_E h) := by
  refine ai_WP_steps mc_L (sh_CM d) 1 (And.intro (Nat.le_of_ble_eq_true rfl) (x_CB_whoseWays N (Nat.le_trans (Nat.le_of_ble_eq_true rfl) hd) s1 s2 s3 h (sh_okB H) (fun v11 h12 H => ?_)))
  show wq_L d Q 1769 [oR 17 0, oR 11 0, oR 12 0, oI l3] [aL v11] (sh_E h12)
  have c := sh_okG H
  replace H := sh_okH H
  refine ai_WP_steps mc_L (sh_CM d) 6 (And.intro c ?_)
  show wq_L d Q 1775 [oR 17 0, oR 11 0, oR 12 0, oI l3] [aI (h12.1 17 0 (l3 + (1 : Int32)).toNatClampNeg), aR 12 0, aL v11] (sh_E h12)
  have c := sh_okG H
  replace H := sh_okH H
  refine ai_WP_steps mc_L (sh_CM d) 5 (And.intro c ?_)
  show wq_L d Q 1780 [oR 17 0, oR 11 0, oR 12 0, oI l3] [aI (h12.1 17 0 (l3 + (2 : Int32)).toNatClampNeg), aI (h12.1 17 0 (l3 + (1 : Int32)).toNatClampNeg), aR 12 0, aL v11] (sh_E h12)
  have c := sh_okG H
  replace H := sh_okH H
  refine ai_WP_steps mc_L (sh_CM d) 5 (And.intro c ?_)
  show wq_L d Q 1785 [oR 17 0, oR 11 0, oR 12 0, oI l3] [aI (h12.1 17 0 (l3 + (3 : Int32)).toNatClampNeg), aI (h12.1 17 0 (l3 + (2 : Int32)).toNatClampNeg), aI (h12.1 17 0 (l3 + (1 : Int32)).toNatClampNeg), aR 12 0, aL v11] (sh_E h12)
  refine ai_WP_steps mc_L (sh_CM d) 1 (And.intro (fun c => ?_) (fun c => ?_))
  · replace H := sh_okT c H
    show wq_L d Q 1792 [oR 17 0, oR 11 0, oR 12 0, oI l3] [aI (h12.1 17 0 (l3 + (2 : Int32)).toNatClampNeg), aI (h12.1 17 0 (l3 + (1 : Int32)).toNatClampNeg), aR 12 0, aL v11] (sh_E h12)
    refine ai_WP_steps mc_L (sh_CM d) 1 ?_
    exact x_law_b1793 N hd hR k18 hk18 k1800 hk1800 l3 v11 (h12.1 17 0 (l3 + (1 : Int32)).toNatClampNeg) (h12.1 17 0 (l3 + (2 : Int32)).toNatClampNeg) (0 : Int32) h12 H
  · replace H := sh_okF c H
    show wq_L d Q 1788 [oR 17 0, oR 11 0, oR 12 0, oI l3] [aI (h12.1 17 0 (l3 + (2 : Int32)).toNatClampNeg), aI (h12.1 17 0 (l3 + (1 : Int32)).toNatClampNeg), aR 12 0, aL v11] (sh_E h12)
    refine ai_WP_steps mc_L (sh_CM d) 2 ?_
    exact x_law_b1793 N hd hR k18 hk18 k1800 hk1800 l3 v11 (h12.1 17 0 (l3 + (1 : Int32)).toNatClampNeg) (h12.1 17 0 (l3 + (2 : Int32)).toNatClampNeg) (1 : Int32) h12 H
def f_law_l18 (N : Nat)  (k289 : sh_H → Option (Int32 × sh_H)) (k312 : sh_H → Option (Int32 × sh_H)) (k325 : sh_H → Option (Int32 × sh_H)) (k338 : sh_H → Option (Int32 × sh_H)) (k371 : sh_H → Option (Int32 × sh_H)) (k404 : sh_H → Option (Int32 × sh_H)) (k437 : sh_H → Option (Int32 × sh_H)) (k480 : sh_H → Option (Int32 × sh_H)) (k513 : sh_H → Option (Int32 × sh_H)) (k546 : sh_H → Option (Int32 × sh_H)) (k599 : sh_H → Option (Int32 × sh_H)) (k642 : sh_H → Option (Int32 × sh_H)) (k721 : sh_H → Option (Int32 × sh_H)) (k744 : sh_H → Option (Int32 × sh_H)) (k757 : sh_H → Option (Int32 × sh_H)) (k770 : sh_H → Option (Int32 × sh_H)) (k803 : sh_H → Option (Int32 × sh_H)) (k836 : sh_H → Option (Int32 × sh_H)) (k860 : sh_H → Option (Int32 × sh_H)) (k903 : sh_H → Option (Int32 × sh_H)) (k956 : sh_H → Option (Int32 × sh_H)) (k989 : sh_H → Option (Int32 × sh_H)) (k1022 : sh_H → Option (Int32 × sh_H)) (k1098 : sh_H → Option (Int32 × sh_H)) (k1173 : sh_H → Option (Int32 × sh_H)) (k1249 : sh_H → Option (Int32 × sh_H)) (k1292 : sh_H → Option (Int32 × sh_H)) (k1335 : sh_H → Option (Int32 × sh_H)) (k1410 : sh_H → Option (Int32 × sh_H)) (k1479 : sh_H → Option (Int32 × sh_H)) (k1522 : sh_H → Option (Int32 × sh_H)) (k1545 : sh_H → Option (Int32 × sh_H)) (k1588 : sh_H → Option (Int32 × sh_H)) (k1611 : sh_H → Option (Int32 × sh_H)) (k1664 : sh_H → Option (Int32 × sh_H)) (k1717 : sh_H → Option (Int32 × sh_H)) (k1740 : sh_H → Option (Int32 × sh_H)) (k1800 : sh_H → Option (Int32 × sh_H)) (k1853 : sh_H → Option (Int32 × sh_H)) (k1906 : sh_H → Option (Int32 × sh_H)) (k1949 : sh_H → Option (Int32 × sh_H)) (k2036 : sh_H → Option (Int32 × sh_H)) (k2059 : sh_H → Option (Int32 × sh_H)) (k2082 : sh_H → Option (Int32 × sh_H)) (k2105 : sh_H → Option (Int32 × sh_H)) (k2113 : sh_H → Option (Int32 × sh_H)) (n : Nat) : Int32 → sh_H → Option (Int32 × sh_H) := Nat.rec (motive := fun _ => Int32 → sh_H → Option (Int32 × sh_H)) (fun _ _ => none) (fun _ k18 l3 h => (if ((Int32.ofNat h.2.2.2.2) - (8 : Int32)) < l3 then k2113 h else (if ai_in l3 h.2.2.2.2 then (if ((h.1 17 0 l3.toNatClampNeg) &&& (63 : Int32)) = (0 : Int32) then (if ai_in (l3 + (1 : Int32)) h.2.2.2.2 then (if ai_in (l3 + (2 : Int32)) h.2.2.2.2 then (if ai_in (l3 + (3 : Int32)) h.2.2.2.2 then (if ai_in (l3 + (4 : Int32)) h.2.2.2.2 then (if ai_in (l3 + (5 : Int32)) h.2.2.2.2 then (sh_b2 (f_CB_feed N (h.1 17 0 (l3 + (1 : Int32)).toNatClampNeg) (h.1 17 0 (l3 + (2 : Int32)).toNatClampNeg) (h.1 17 0 (l3 + (3 : Int32)).toNatClampNeg) (h.1 17 0 (l3 + (4 : Int32)).toNatClampNeg) (h.1 17 0 (l3 + (5 : Int32)).toNatClampNeg) h) (fun v13 h14 => (if ai_in (l3 + (1 : Int32)) h14.2.2.2.2 then (if ai_in (l3 + (2 : Int32)) h14.2.2.2.2 then (if ai_in (l3 + (3 : Int32)) h14.2.2.2.2 then (if ai_in (l3 + (4 : Int32)) h14.2.2.2.2 then (if ai_in (l3 + (5 : Int32)) h14.2.2.2.2 then (sh_b2 (f_M_feed N (h14.1 17 0 (l3 + (1 : Int32)).toNatClampNeg) (h14.1 17 0 (l3 + (2 : Int32)).toNatClampNeg) (h14.1 17 0 (l3 + (3 : Int32)).toNatClampNeg) (h14.1 17 0 (l3 + (4 : Int32)).toNatClampNeg) (h14.1 17 0 (l3 + (5 : Int32)).toNatClampNeg) h14) (fun v15 h16 => (if v13 = v15 then f_law_b2107 N k18 l3 h16 else k289 h16))) else none) else none) else none) else none) else none))) else none) else none) else none) else none) else none) else (if ((h.1 17 0 l3.toNatClampNeg) &&& (63 : Int32)) = (1 : Int32) then (if ai_in (l3 + (1 : Int32)) h.2.2.2.2 then (sh_b2 (f_CB_back (h.1 17 0 (l3 + (1 : Int32)).toNatClampNeg) h) (fun v17 h18 => (if ai_in (l3 + (1 : Int32)) h18.2.2.2.2 then (sh_b2 (f_M_back (h18.1 17 0 (l3 + (1 : Int32)).toNatClampNeg) h18) (fun v19 h20 => (if v17 = v19 then f_law_b2107 N k18 l3 h20 else k312 h20))) else none))) else none) else (if ((h.1 17 0 l3.toNatClampNeg) &&& (63 : Int32)) = (2 : Int32) then (sh_b2 (f_CB_read N h) (fun v21 h22 => (sh_b2 (f_M_read N h22) (fun v23 h24 => (if v21 = v23 then f_law_b2107 N k18 l3 h24 else k325 h24))))) else (if ((h.1 17 0 l3.toNatClampNeg) &&& (63 : Int32)) = (3 : Int32) then (Option.bind (f_CB_place h) (fun v25 => (Option.bind (f_M_place h) (fun v26 => (if v25 = v26 then f_law_b2107 N k18 l3 h else k338 h))))) else (if ((h.1 17 0 l3.toNatClampNeg) &&& (63 : Int32)) = (4 : Int32) then (if ai_in (l3 + (1 : Int32)) h.2.2.2.2 then (if ai_in (l3 + (2 : Int32)) h.2.2.2.2 then (Option.bind (f_CB_kind (h.1 17 0 (l3 + (1 : Int32)).toNatClampNeg) (h.1 17 0 (l3 + (2 : Int32)).toNatClampNeg) h) (fun v27 => (if ai_in (l3 + (1 : Int32)) h.2.2.2.2 then (if ai_in (l3 + (2 : Int32)) h.2.2.2.2 then (Option.bind (f_M_kind (h.1 17 0 (l3 + (1 : Int32)).toNatClampNeg) (h.1 17 0 (l3 + (2 : Int32)).toNatClampNeg) h) (fun v28 => (if v27 = v28 then f_law_b2107 N k18 l3 h else k371 h))) else none) else none))) else none) else none) else (if ((h.1 17 0 l3.toNatClampNeg) &&& (63 : Int32)) = (5 : Int32) then (if ai_in (l3 + (1 : Int32)) h.2.2.2.2 then (if ai_in (l3 + (2 : Int32)) h.2.2.2.2 then (Option.bind (f_CB_island (h.1 17 0 (l3 + (1 : Int32)).toNatClampNeg) (h.1 17 0 (l3 + (2 : Int32)).toNatClampNeg) h) (fun v29 => (if ai_in (l3 + (1 : Int32)) h.2.2.2.2 then (if ai_in (l3 + (2 : Int32)) h.2.2.2.2 then (Option.bind (f_M_island (h.1 17 0 (l3 + (1 : Int32)).toNatClampNeg) (h.1 17 0 (l3 + (2 : Int32)).toNatClampNeg) h) (fun v30 => (if v29 = v30 then f_law_b2107 N k18 l3 h else k404 h))) else none) else none))) else none) else none) else (if ((h.1 17 0 l3.toNatClampNeg) &&& (63 : Int32)) = (6 : Int32) then (if ai_in (l3 + (1 : Int32)) h.2.2.2.2 then (if ai_in (l3 + (2 : Int32)) h.2.2.2.2 then (Option.bind (f_CB_boat N (h.1 17 0 (l3 + (1 : Int32)).toNatClampNeg) (h.1 17 0 (l3 + (2 : Int32)).toNatClampNeg) h) (fun v31 => (if ai_in (l3 + (1 : Int32)) h.2.2.2.2 then (if ai_in (l3 + (2 : Int32)) h.2.2.2.2 then (Option.bind (f_M_boat N (h.1 17 0 (l3 + (1 : Int32)).toNatClampNeg) (h.1 17 0 (l3 + (2 : Int32)).toNatClampNeg) h) (fun v32 => (if v31 = v32 then f_law_b2107 N k18 l3 h else k437 h))) else none) else none))) else none) else none) else (if ((h.1 17 0 l3.toNatClampNeg) &&& (63 : Int32)) = (7 : Int32) then (if ai_in (l3 + (1 : Int32)) h.2.2.2.2 then (if ai_in (l3 + (2 : Int32)) h.2.2.2.2 then (if ai_in (l3 + (3 : Int32)) h.2.2.2.2 then (sh_b2 (f_CB_want N (h.1 17 0 (l3 + (1 : Int32)).toNatClampNeg) (h.1 17 0 (l3 + (2 : Int32)).toNatClampNeg) (h.1 17 0 (l3 + (3 : Int32)).toNatClampNeg) h) (fun v33 h34 => (if ai_in (l3 + (1 : Int32)) h34.2.2.2.2 then (if ai_in (l3 + (2 : Int32)) h34.2.2.2.2 then (if ai_in (l3 + (3 : Int32)) h34.2.2.2.2 then (sh_b2 (f_M_want N (h34.1 17 0 (l3 + (1 : Int32)).toNatClampNeg) (h34.1 17 0 (l3 + (2 : Int32)).toNatClampNeg) (h34.1 17 0 (l3 + (3 : Int32)).toNatClampNeg) h34) (fun v35 h36 => (if v33 = v35 then f_law_b2107 N k18 l3 h36 else k480 h36))) else none) else none) else none))) else none) else none) else none) else (if ((h.1 17 0 l3.toNatClampNeg) &&& (63 : Int32)) = (8 : Int32) then (if ai_in (l3 + (1 : Int32)) h.2.2.2.2 then (if ai_in (l3 + (2 : Int32)) h.2.2.2.2 then (sh_b2 (f_CB_strike N (h.1 17 0 (l3 + (1 : Int32)).toNatClampNeg) (h.1 17 0 (l3 + (2 : Int32)).toNatClampNeg) h) (fun v37 h38 => (if ai_in (l3 + (1 : Int32)) h38.2.2.2.2 then (if ai_in (l3 + (2 : Int32)) h38.2.2.2.2 then (sh_b2 (f_M_strike N (h38.1 17 0 (l3 + (1 : Int32)).toNatClampNeg) (h38.1 17 0 (l3 + (2 : Int32)).toNatClampNeg) h38) (fun v39 h40 => (if v37 = v39 then f_law_b2107 N k18 l3 h40 else k513 h40))) else none) else none))) else none) else none) else (if ((h.1 17 0 l3.toNatClampNeg) &&& (63 : Int32)) = (9 : Int32) then (if ai_in (l3 + (1 : Int32)) h.2.2.2.2 then (if ai_in (l3 + (2 : Int32)) h.2.2.2.2 then (sh_b2 (f_CB_burn N (h.1 17 0 (l3 + (1 : Int32)).toNatClampNeg) (h.1 17 0 (l3 + (2 : Int32)).toNatClampNeg) h) (fun v41 h42 => (if ai_in (l3 + (1 : Int32)) h42.2.2.2.2 then (if ai_in (l3 + (2 : Int32)) h42.2.2.2.2 then (sh_b2 (f_M_burn N (h42.1 17 0 (l3 + (1 : Int32)).toNatClampNeg) (h42.1 17 0 (l3 + (2 : Int32)).toNatClampNeg) h42) (fun v43 h44 => (if v41 = v43 then f_law_b2107 N k18 l3 h44 else k546 h44))) else none) else none))) else none) else none) else (if ((h.1 17 0 l3.toNatClampNeg) &&& (63 : Int32)) = (10 : Int32) then (if ai_in (l3 + (1 : Int32)) h.2.2.2.2 then (if ai_in (l3 + (2 : Int32)) h.2.2.2.2 then (if ai_in (l3 + (3 : Int32)) h.2.2.2.2 then (if ai_in (l3 + (4 : Int32)) h.2.2.2.2 then (sh_b2 (f_CB_lay (h.1 17 0 (l3 + (1 : Int32)).toNatClampNeg) (h.1 17 0 (l3 + (2 : Int32)).toNatClampNeg) (h.1 17 0 (l3 + (3 : Int32)).toNatClampNeg) (h.1 17 0 (l3 + (4 : Int32)).toNatClampNeg) h) (fun v45 h46 => (if ai_in (l3 + (1 : Int32)) h46.2.2.2.2 then (if ai_in (l3 + (2 : Int32)) h46.2.2.2.2 then (if ai_in (l3 + (3 : Int32)) h46.2.2.2.2 then (if ai_in (l3 + (4 : Int32)) h46.2.2.2.2 then (sh_b2 (f_M_lay (h46.1 17 0 (l3 + (1 : Int32)).toNatClampNeg) (h46.1 17 0 (l3 + (2 : Int32)).toNatClampNeg) (h46.1 17 0 (l3 + (3 : Int32)).toNatClampNeg) (h46.1 17 0 (l3 + (4 : Int32)).toNatClampNeg) h46) (fun v47 h48 => (if v45 = v47 then f_law_b2107 N k18 l3 h48 else k599 h48))) else none) else none) else none) else none))) else none) else none) else none) else none) else (if ((h.1 17 0 l3.toNatClampNeg) &&& (63 : Int32)) = (11 : Int32) then (if ai_in (l3 + (1 : Int32)) h.2.2.2.2 then (if ai_in (l3 + (2 : Int32)) h.2.2.2.2 then (if ai_in (l3 + (3 : Int32)) h.2.2.2.2 then (Option.bind (f_CB_has N (h.1 17 0 (l3 + (1 : Int32)).toNatClampNeg) (h.1 17 0 (l3 + (2 : Int32)).toNatClampNeg) (h.1 17 0 (l3 + (3 : Int32)).toNatClampNeg) h) (fun v49 => (if ai_in (l3 + (1 : Int32)) h.2.2.2.2 then (if ai_in (l3 + (2 : Int32)) h.2.2.2.2 then (if ai_in (l3 + (3 : Int32)) h.2.2.2.2 then (Option.bind (f_M_has N (h.1 17 0 (l3 + (1 : Int32)).toNatClampNeg) (h.1 17 0 (l3 + (2 : Int32)).toNatClampNeg) (h.1 17 0 (l3 + (3 : Int32)).toNatClampNeg) h) (fun v50 => (if v49 = v50 then f_law_b2107 N k18 l3 h else k642 h))) else none) else none) else none))) else none) else none) else none) else (if ((h.1 17 0 l3.toNatClampNeg) &&& (63 : Int32)) = (12 : Int32) then (if ai_in (l3 + (1 : Int32)) h.2.2.2.2 then (if ai_in (l3 + (2 : Int32)) h.2.2.2.2 then (if ai_in (l3 + (3 : Int32)) h.2.2.2.2 then (if ai_in (l3 + (4 : Int32)) h.2.2.2.2 then (if ai_in (l3 + (5 : Int32)) h.2.2.2.2 then (if (h.1 17 0 (l3 + (5 : Int32)).toNatClampNeg) = 0 then f_law_b678 N k18 k721 l3 (h.1 17 0 (l3 + (1 : Int32)).toNatClampNeg) (h.1 17 0 (l3 + (2 : Int32)).toNatClampNeg) (h.1 17 0 (l3 + (3 : Int32)).toNatClampNeg) (h.1 17 0 (l3 + (4 : Int32)).toNatClampNeg) (0 : Int32) h else f_law_b678 N k18 k721 l3 (h.1 17 0 (l3 + (1 : Int32)).toNatClampNeg) (h.1 17 0 (l3 + (2 : Int32)).toNatClampNeg) (h.1 17 0 (l3 + (3 : Int32)).toNatClampNeg) (h.1 17 0 (l3 + (4 : Int32)).toNatClampNeg) (1 : Int32) h) else none) else none) else none) else none) else none) else (if ((h.1 17 0 l3.toNatClampNeg) &&& (63 : Int32)) = (13 : Int32) then (if ai_in (l3 + (1 : Int32)) h.2.2.2.2 then (Option.bind (f_CB_done (h.1 17 0 (l3 + (1 : Int32)).toNatClampNeg) h) (fun v51 => (if ai_in (l3 + (1 : Int32)) h.2.2.2.2 then (Option.bind (f_M_done (h.1 17 0 (l3 + (1 : Int32)).toNatClampNeg) h) (fun v52 => (if v51 = v52 then f_law_b2107 N k18 l3 h else k744 h))) else none))) else none) else (if ((h.1 17 0 l3.toNatClampNeg) &&& (63 : Int32)) = (14 : Int32) then (sh_b2 (f_CB_judge N h) (fun v53 h54 => (sh_b2 (f_M_judge N h54) (fun v55 h56 => (if v53 = v55 then f_law_b2107 N k18 l3 h56 else k757 h56))))) else (if ((h.1 17 0 l3.toNatClampNeg) &&& (63 : Int32)) = (15 : Int32) then (sh_b2 (f_CB_why N h) (fun v57 h58 => (sh_b2 (f_M_why N h58) (fun v59 h60 => (if v57 = v59 then f_law_b2107 N k18 l3 h60 else k770 h60))))) else (if ((h.1 17 0 l3.toNatClampNeg) &&& (63 : Int32)) = (16 : Int32) then (if ai_in (l3 + (1 : Int32)) h.2.2.2.2 then (if ai_in (l3 + (2 : Int32)) h.2.2.2.2 then (sh_b2 (f_CB_months N (h.1 17 0 (l3 + (1 : Int32)).toNatClampNeg) (h.1 17 0 (l3 + (2 : Int32)).toNatClampNeg) h) (fun v61 h62 => (if ai_in (l3 + (1 : Int32)) h62.2.2.2.2 then (if ai_in (l3 + (2 : Int32)) h62.2.2.2.2 then (sh_b2 (f_M_months N (h62.1 17 0 (l3 + (1 : Int32)).toNatClampNeg) (h62.1 17 0 (l3 + (2 : Int32)).toNatClampNeg) h62) (fun v63 h64 => (if v61 = v63 then f_law_b2107 N k18 l3 h64 else k803 h64))) else none) else none))) else none) else none) else (if ((h.1 17 0 l3.toNatClampNeg) &&& (63 : Int32)) = (17 : Int32) then (if ai_in (l3 + (1 : Int32)) h.2.2.2.2 then (if ai_in (l3 + (2 : Int32)) h.2.2.2.2 then (Option.bind (f_CB_lacks (h.1 17 0 (l3 + (1 : Int32)).toNatClampNeg) (h.1 17 0 (l3 + (2 : Int32)).toNatClampNeg) h) (fun v65 => (if ai_in (l3 + (1 : Int32)) h.2.2.2.2 then (if ai_in (l3 + (2 : Int32)) h.2.2.2.2 then (Option.bind (f_M_lacks (h.1 17 0 (l3 + (1 : Int32)).toNatClampNeg) (h.1 17 0 (l3 + (2 : Int32)).toNatClampNeg) h) (fun v66 => (if v65 = v66 then f_law_b2107 N k18 l3 h else k836 h))) else none) else none))) else none) else none) else (if ((h.1 17 0 l3.toNatClampNeg) &&& (63 : Int32)) = (18 : Int32) then (if ai_in (l3 + (1 : Int32)) h.2.2.2.2 then (Option.bind (f_CB_spent (h.1 17 0 (l3 + (1 : Int32)).toNatClampNeg) h) (fun v67 => (if ai_in (l3 + (1 : Int32)) h.2.2.2.2 then (Option.bind (f_M_spent (h.1 17 0 (l3 + (1 : Int32)).toNatClampNeg) h) (fun v68 => (if (lg_cmp v67 v68) = 0 then f_law_b2107 N k18 l3 h else k860 h))) else none))) else none) else (if ((h.1 17 0 l3.toNatClampNeg) &&& (63 : Int32)) = (19 : Int32) then (if ai_in (l3 + (1 : Int32)) h.2.2.2.2 then (if ai_in (l3 + (2 : Int32)) h.2.2.2.2 then (if ai_in (l3 + (3 : Int32)) h.2.2.2.2 then (sh_b2 (f_CB_pay N (h.1 17 0 (l3 + (1 : Int32)).toNatClampNeg) (h.1 17 0 (l3 + (2 : Int32)).toNatClampNeg) (h.1 17 0 (l3 + (3 : Int32)).toNatClampNeg) h) (fun v69 h70 => (if ai_in (l3 + (1 : Int32)) h70.2.2.2.2 then (if ai_in (l3 + (2 : Int32)) h70.2.2.2.2 then (if ai_in (l3 + (3 : Int32)) h70.2.2.2.2 then (sh_b2 (f_M_pay N (h70.1 17 0 (l3 + (1 : Int32)).toNatClampNeg) (h70.1 17 0 (l3 + (2 : Int32)).toNatClampNeg) (h70.1 17 0 (l3 + (3 : Int32)).toNatClampNeg) h70) (fun v71 h72 => (if v69 = v71 then f_law_b2107 N k18 l3 h72 else k903 h72))) else none) else none) else none))) else none) else none) else none) else (if ((h.1 17 0 l3.toNatClampNeg) &&& (63 : Int32)) = (20 : Int32) then (if ai_in (l3 + (1 : Int32)) h.2.2.2.2 then (if ai_in (l3 + (2 : Int32)) h.2.2.2.2 then (if ai_in (l3 + (3 : Int32)) h.2.2.2.2 then (if ai_in (l3 + (4 : Int32)) h.2.2.2.2 then (sh_b2 (f_CB_change N (h.1 17 0 (l3 + (1 : Int32)).toNatClampNeg) (h.1 17 0 (l3 + (2 : Int32)).toNatClampNeg) (h.1 17 0 (l3 + (3 : Int32)).toNatClampNeg) (h.1 17 0 (l3 + (4 : Int32)).toNatClampNeg) h) (fun v73 h74 => (if ai_in (l3 + (1 : Int32)) h74.2.2.2.2 then (if ai_in (l3 + (2 : Int32)) h74.2.2.2.2 then (if ai_in (l3 + (3 : Int32)) h74.2.2.2.2 then (if ai_in (l3 + (4 : Int32)) h74.2.2.2.2 then (sh_b2 (f_M_change N (h74.1 17 0 (l3 + (1 : Int32)).toNatClampNeg) (h74.1 17 0 (l3 + (2 : Int32)).toNatClampNeg) (h74.1 17 0 (l3 + (3 : Int32)).toNatClampNeg) (h74.1 17 0 (l3 + (4 : Int32)).toNatClampNeg) h74) (fun v75 h76 => (if v73 = v75 then f_law_b2107 N k18 l3 h76 else k956 h76))) else none) else none) else none) else none))) else none) else none) else none) else none) else (if ((h.1 17 0 l3.toNatClampNeg) &&& (63 : Int32)) = (21 : Int32) then (if ai_in (l3 + (1 : Int32)) h.2.2.2.2 then (if ai_in (l3 + (2 : Int32)) h.2.2.2.2 then (sh_b2 (f_CB_which N (h.1 17 0 (l3 + (1 : Int32)).toNatClampNeg) (h.1 17 0 (l3 + (2 : Int32)).toNatClampNeg) h) (fun v77 h78 => (if ai_in (l3 + (1 : Int32)) h78.2.2.2.2 then (if ai_in (l3 + (2 : Int32)) h78.2.2.2.2 then (sh_b2 (f_M_which N (h78.1 17 0 (l3 + (1 : Int32)).toNatClampNeg) (h78.1 17 0 (l3 + (2 : Int32)).toNatClampNeg) h78) (fun v79 h80 => (if v77 = v79 then f_law_b2107 N k18 l3 h80 else k989 h80))) else none) else none))) else none) else none) else (if ((h.1 17 0 l3.toNatClampNeg) &&& (63 : Int32)) = (22 : Int32) then (if ai_in (l3 + (1 : Int32)) h.2.2.2.2 then (if ai_in (l3 + (2 : Int32)) h.2.2.2.2 then (sh_b2 (f_CB_whichSum N (h.1 17 0 (l3 + (1 : Int32)).toNatClampNeg) (h.1 17 0 (l3 + (2 : Int32)).toNatClampNeg) h) (fun v81 h82 => (if ai_in (l3 + (1 : Int32)) h82.2.2.2.2 then (if ai_in (l3 + (2 : Int32)) h82.2.2.2.2 then (sh_b2 (f_M_whichSum N (h82.1 17 0 (l3 + (1 : Int32)).toNatClampNeg) (h82.1 17 0 (l3 + (2 : Int32)).toNatClampNeg) h82) (fun v83 h84 => (if v81 = v83 then f_law_b2107 N k18 l3 h84 else k1022 h84))) else none) else none))) else none) else none) else (if ((h.1 17 0 l3.toNatClampNeg) &&& (63 : Int32)) = (23 : Int32) then (if ai_in (l3 + (1 : Int32)) h.2.2.2.2 then (if ai_in (l3 + (2 : Int32)) h.2.2.2.2 then (if ai_in (l3 + (3 : Int32)) h.2.2.2.2 then (if ai_in (l3 + (4 : Int32)) h.2.2.2.2 then (if ai_in (l3 + (5 : Int32)) h.2.2.2.2 then (if ai_in (l3 + (6 : Int32)) h.2.2.2.2 then (sh_b2 (f_CB_least N (h.1 17 0 (l3 + (1 : Int32)).toNatClampNeg) (h.1 17 0 (l3 + (2 : Int32)).toNatClampNeg) (h.1 17 0 (l3 + (3 : Int32)).toNatClampNeg) (h.1 17 0 (l3 + (4 : Int32)).toNatClampNeg) (h.1 17 0 (l3 + (5 : Int32)).toNatClampNeg) (h.1 17 0 (l3 + (6 : Int32)).toNatClampNeg) h) (fun v85 h86 => (if ai_in (l3 + (1 : Int32)) h86.2.2.2.2 then (if ai_in (l3 + (2 : Int32)) h86.2.2.2.2 then (if ai_in (l3 + (3 : Int32)) h86.2.2.2.2 then (if ai_in (l3 + (4 : Int32)) h86.2.2.2.2 then (if ai_in (l3 + (5 : Int32)) h86.2.2.2.2 then (if ai_in (l3 + (6 : Int32)) h86.2.2.2.2 then (sh_b2 (f_M_least N (h86.1 17 0 (l3 + (1 : Int32)).toNatClampNeg) (h86.1 17 0 (l3 + (2 : Int32)).toNatClampNeg) (h86.1 17 0 (l3 + (3 : Int32)).toNatClampNeg) (h86.1 17 0 (l3 + (4 : Int32)).toNatClampNeg) (h86.1 17 0 (l3 + (5 : Int32)).toNatClampNeg) (h86.1 17 0 (l3 + (6 : Int32)).toNatClampNeg) h86) (fun v87 h88 => (if (lg_cmp v85 v87) = 0 then f_law_b2107 N k18 l3 h88 else k1098 h88))) else none) else none) else none) else none) else none) else none))) else none) else none) else none) else none) else none) else none) else (if ((h.1 17 0 l3.toNatClampNeg) &&& (63 : Int32)) = (24 : Int32) then (if ai_in (l3 + (1 : Int32)) h.2.2.2.2 then (if ai_in (l3 + (2 : Int32)) h.2.2.2.2 then (if ai_in (l3 + (3 : Int32)) h.2.2.2.2 then (if ai_in (l3 + (4 : Int32)) h.2.2.2.2 then (if ai_in (l3 + (5 : Int32)) h.2.2.2.2 then (if ai_in (l3 + (6 : Int32)) h.2.2.2.2 then (sh_b2 (f_CB_order N (h.1 17 0 (l3 + (1 : Int32)).toNatClampNeg) (h.1 17 0 (l3 + (2 : Int32)).toNatClampNeg) (h.1 17 0 (l3 + (3 : Int32)).toNatClampNeg) (h.1 17 0 (l3 + (4 : Int32)).toNatClampNeg) (h.1 17 0 (l3 + (5 : Int32)).toNatClampNeg) (h.1 17 0 (l3 + (6 : Int32)).toNatClampNeg) h) (fun v89 h90 => (if ai_in (l3 + (1 : Int32)) h90.2.2.2.2 then (if ai_in (l3 + (2 : Int32)) h90.2.2.2.2 then (if ai_in (l3 + (3 : Int32)) h90.2.2.2.2 then (if ai_in (l3 + (4 : Int32)) h90.2.2.2.2 then (if ai_in (l3 + (5 : Int32)) h90.2.2.2.2 then (if ai_in (l3 + (6 : Int32)) h90.2.2.2.2 then (sh_b2 (f_M_order N (h90.1 17 0 (l3 + (1 : Int32)).toNatClampNeg) (h90.1 17 0 (l3 + (2 : Int32)).toNatClampNeg) (h90.1 17 0 (l3 + (3 : Int32)).toNatClampNeg) (h90.1 17 0 (l3 + (4 : Int32)).toNatClampNeg) (h90.1 17 0 (l3 + (5 : Int32)).toNatClampNeg) (h90.1 17 0 (l3 + (6 : Int32)).toNatClampNeg) h90) (fun v91 h92 => (if v89 = v91 then f_law_b2107 N k18 l3 h92 else k1173 h92))) else none) else none) else none) else none) else none) else none))) else none) else none) else none) else none) else none) else none) else (if ((h.1 17 0 l3.toNatClampNeg) &&& (63 : Int32)) = (25 : Int32) then (if ai_in (l3 + (1 : Int32)) h.2.2.2.2 then (if ai_in (l3 + (2 : Int32)) h.2.2.2.2 then (if ai_in (l3 + (3 : Int32)) h.2.2.2.2 then (if ai_in (l3 + (4 : Int32)) h.2.2.2.2 then (if ai_in (l3 + (5 : Int32)) h.2.2.2.2 then (if ai_in (l3 + (6 : Int32)) h.2.2.2.2 then (sh_b2 (f_CB_price N (h.1 17 0 (l3 + (1 : Int32)).toNatClampNeg) (h.1 17 0 (l3 + (2 : Int32)).toNatClampNeg) (h.1 17 0 (l3 + (3 : Int32)).toNatClampNeg) (h.1 17 0 (l3 + (4 : Int32)).toNatClampNeg) (h.1 17 0 (l3 + (5 : Int32)).toNatClampNeg) (h.1 17 0 (l3 + (6 : Int32)).toNatClampNeg) h) (fun v93 h94 => (if ai_in (l3 + (1 : Int32)) h94.2.2.2.2 then (if ai_in (l3 + (2 : Int32)) h94.2.2.2.2 then (if ai_in (l3 + (3 : Int32)) h94.2.2.2.2 then (if ai_in (l3 + (4 : Int32)) h94.2.2.2.2 then (if ai_in (l3 + (5 : Int32)) h94.2.2.2.2 then (if ai_in (l3 + (6 : Int32)) h94.2.2.2.2 then (sh_b2 (f_M_price N (h94.1 17 0 (l3 + (1 : Int32)).toNatClampNeg) (h94.1 17 0 (l3 + (2 : Int32)).toNatClampNeg) (h94.1 17 0 (l3 + (3 : Int32)).toNatClampNeg) (h94.1 17 0 (l3 + (4 : Int32)).toNatClampNeg) (h94.1 17 0 (l3 + (5 : Int32)).toNatClampNeg) (h94.1 17 0 (l3 + (6 : Int32)).toNatClampNeg) h94) (fun v95 h96 => (if (lg_cmp v93 v95) = 0 then f_law_b2107 N k18 l3 h96 else k1249 h96))) else none) else none) else none) else none) else none) else none))) else none) else none) else none) else none) else none) else none) else (if ((h.1 17 0 l3.toNatClampNeg) &&& (63 : Int32)) = (26 : Int32) then (if ai_in (l3 + (1 : Int32)) h.2.2.2.2 then (if ai_in (l3 + (2 : Int32)) h.2.2.2.2 then (if ai_in (l3 + (3 : Int32)) h.2.2.2.2 then (sh_b2 (f_CB_pool N (h.1 17 0 (l3 + (1 : Int32)).toNatClampNeg) (h.1 17 0 (l3 + (2 : Int32)).toNatClampNeg) (h.1 17 0 (l3 + (3 : Int32)).toNatClampNeg) h) (fun v97 h98 => (if ai_in (l3 + (1 : Int32)) h98.2.2.2.2 then (if ai_in (l3 + (2 : Int32)) h98.2.2.2.2 then (if ai_in (l3 + (3 : Int32)) h98.2.2.2.2 then (sh_b2 (f_M_pool N (h98.1 17 0 (l3 + (1 : Int32)).toNatClampNeg) (h98.1 17 0 (l3 + (2 : Int32)).toNatClampNeg) (h98.1 17 0 (l3 + (3 : Int32)).toNatClampNeg) h98) (fun v99 h100 => (if v97 = v99 then f_law_b2107 N k18 l3 h100 else k1292 h100))) else none) else none) else none))) else none) else none) else none) else (if ((h.1 17 0 l3.toNatClampNeg) &&& (63 : Int32)) = (27 : Int32) then (if ai_in (l3 + (1 : Int32)) h.2.2.2.2 then (if ai_in (l3 + (2 : Int32)) h.2.2.2.2 then (if ai_in (l3 + (3 : Int32)) h.2.2.2.2 then (sh_b2 (f_CB_saved N (h.1 17 0 (l3 + (1 : Int32)).toNatClampNeg) (h.1 17 0 (l3 + (2 : Int32)).toNatClampNeg) (h.1 17 0 (l3 + (3 : Int32)).toNatClampNeg) h) (fun v101 h102 => (if ai_in (l3 + (1 : Int32)) h102.2.2.2.2 then (if ai_in (l3 + (2 : Int32)) h102.2.2.2.2 then (if ai_in (l3 + (3 : Int32)) h102.2.2.2.2 then (sh_b2 (f_M_saved N (h102.1 17 0 (l3 + (1 : Int32)).toNatClampNeg) (h102.1 17 0 (l3 + (2 : Int32)).toNatClampNeg) (h102.1 17 0 (l3 + (3 : Int32)).toNatClampNeg) h102) (fun v103 h104 => (if v101 = v103 then f_law_b2107 N k18 l3 h104 else k1335 h104))) else none) else none) else none))) else none) else none) else none) else (if ((h.1 17 0 l3.toNatClampNeg) &&& (63 : Int32)) = (28 : Int32) then (if ai_in (l3 + (1 : Int32)) h.2.2.2.2 then (if ai_in (l3 + (2 : Int32)) h.2.2.2.2 then (if ai_in (l3 + (3 : Int32)) h.2.2.2.2 then (if ai_in (l3 + (4 : Int32)) h.2.2.2.2 then (if ai_in (l3 + (5 : Int32)) h.2.2.2.2 then (if ai_in (l3 + (6 : Int32)) h.2.2.2.2 then (sh_b2 (f_CB_holds N (h.1 17 0 (l3 + (1 : Int32)).toNatClampNeg) (h.1 17 0 (l3 + (2 : Int32)).toNatClampNeg) (h.1 17 0 (l3 + (3 : Int32)).toNatClampNeg) (h.1 17 0 (l3 + (4 : Int32)).toNatClampNeg) (h.1 17 0 (l3 + (5 : Int32)).toNatClampNeg) (h.1 17 0 (l3 + (6 : Int32)).toNatClampNeg) h) (fun v105 h106 => (if ai_in (l3 + (1 : Int32)) h106.2.2.2.2 then (if ai_in (l3 + (2 : Int32)) h106.2.2.2.2 then (if ai_in (l3 + (3 : Int32)) h106.2.2.2.2 then (if ai_in (l3 + (4 : Int32)) h106.2.2.2.2 then (if ai_in (l3 + (5 : Int32)) h106.2.2.2.2 then (if ai_in (l3 + (6 : Int32)) h106.2.2.2.2 then (sh_b2 (f_M_holds N (h106.1 17 0 (l3 + (1 : Int32)).toNatClampNeg) (h106.1 17 0 (l3 + (2 : Int32)).toNatClampNeg) (h106.1 17 0 (l3 + (3 : Int32)).toNatClampNeg) (h106.1 17 0 (l3 + (4 : Int32)).toNatClampNeg) (h106.1 17 0 (l3 + (5 : Int32)).toNatClampNeg) (h106.1 17 0 (l3 + (6 : Int32)).toNatClampNeg) h106) (fun v107 h108 => (if v105 = v107 then f_law_b2107 N k18 l3 h108 else k1410 h108))) else none) else none) else none) else none) else none) else none))) else none) else none) else none) else none) else none) else none) else (if ((h.1 17 0 l3.toNatClampNeg) &&& (63 : Int32)) = (29 : Int32) then (if ai_in (l3 + (1 : Int32)) h.2.2.2.2 then (if ai_in (l3 + (2 : Int32)) h.2.2.2.2 then (if ai_in (l3 + (3 : Int32)) h.2.2.2.2 then (if ai_in (l3 + (4 : Int32)) h.2.2.2.2 then (if (h.1 17 0 (l3 + (4 : Int32)).toNatClampNeg) = 0 then f_law_b1441 N k18 k1479 l3 (h.1 17 0 (l3 + (1 : Int32)).toNatClampNeg) (h.1 17 0 (l3 + (2 : Int32)).toNatClampNeg) (h.1 17 0 (l3 + (3 : Int32)).toNatClampNeg) (0 : Int32) h else f_law_b1441 N k18 k1479 l3 (h.1 17 0 (l3 + (1 : Int32)).toNatClampNeg) (h.1 17 0 (l3 + (2 : Int32)).toNatClampNeg) (h.1 17 0 (l3 + (3 : Int32)).toNatClampNeg) (1 : Int32) h) else none) else none) else none) else none) else (if ((h.1 17 0 l3.toNatClampNeg) &&& (63 : Int32)) = (30 : Int32) then (if ai_in (l3 + (1 : Int32)) h.2.2.2.2 then (if ai_in (l3 + (2 : Int32)) h.2.2.2.2 then (if ai_in (l3 + (3 : Int32)) h.2.2.2.2 then (sh_b2 (f_CB_looked N (h.1 17 0 (l3 + (1 : Int32)).toNatClampNeg) (h.1 17 0 (l3 + (2 : Int32)).toNatClampNeg) (h.1 17 0 (l3 + (3 : Int32)).toNatClampNeg) h) (fun v109 h110 => (if ai_in (l3 + (1 : Int32)) h110.2.2.2.2 then (if ai_in (l3 + (2 : Int32)) h110.2.2.2.2 then (if ai_in (l3 + (3 : Int32)) h110.2.2.2.2 then (sh_b2 (f_M_looked (h110.1 17 0 (l3 + (1 : Int32)).toNatClampNeg) (h110.1 17 0 (l3 + (2 : Int32)).toNatClampNeg) (h110.1 17 0 (l3 + (3 : Int32)).toNatClampNeg) h110) (fun v111 h112 => (if v109 = v111 then f_law_b2107 N k18 l3 h112 else k1522 h112))) else none) else none) else none))) else none) else none) else none) else (if ((h.1 17 0 l3.toNatClampNeg) &&& (63 : Int32)) = (31 : Int32) then (if ai_in (l3 + (1 : Int32)) h.2.2.2.2 then (sh_b2 (f_CB_annul N (h.1 17 0 (l3 + (1 : Int32)).toNatClampNeg) h) (fun v113 h114 => (if ai_in (l3 + (1 : Int32)) h114.2.2.2.2 then (sh_b2 (f_M_annul (h114.1 17 0 (l3 + (1 : Int32)).toNatClampNeg) h114) (fun v115 h116 => (if v113 = v115 then f_law_b2107 N k18 l3 h116 else k1545 h116))) else none))) else none) else (if ((h.1 17 0 l3.toNatClampNeg) &&& (63 : Int32)) = (32 : Int32) then (if ai_in (l3 + (1 : Int32)) h.2.2.2.2 then (if ai_in (l3 + (2 : Int32)) h.2.2.2.2 then (if ai_in (l3 + (3 : Int32)) h.2.2.2.2 then (sh_b2 (f_CB_balance N (h.1 17 0 (l3 + (1 : Int32)).toNatClampNeg) (h.1 17 0 (l3 + (2 : Int32)).toNatClampNeg) (h.1 17 0 (l3 + (3 : Int32)).toNatClampNeg) h) (fun v117 h118 => (if ai_in (l3 + (1 : Int32)) h118.2.2.2.2 then (if ai_in (l3 + (2 : Int32)) h118.2.2.2.2 then (if ai_in (l3 + (3 : Int32)) h118.2.2.2.2 then (Option.bind (f_M_balance N (h118.1 17 0 (l3 + (1 : Int32)).toNatClampNeg) (h118.1 17 0 (l3 + (2 : Int32)).toNatClampNeg) (h118.1 17 0 (l3 + (3 : Int32)).toNatClampNeg) h118) (fun v119 => (if v117 = v119 then f_law_b2107 N k18 l3 h118 else k1588 h118))) else none) else none) else none))) else none) else none) else none) else (if ((h.1 17 0 l3.toNatClampNeg) &&& (63 : Int32)) = (33 : Int32) then (if ai_in (l3 + (1 : Int32)) h.2.2.2.2 then (sh_b2 (f_CB_richest N (h.1 17 0 (l3 + (1 : Int32)).toNatClampNeg) h) (fun v120 h121 => (if ai_in (l3 + (1 : Int32)) h121.2.2.2.2 then (Option.bind (f_M_richest N (h121.1 17 0 (l3 + (1 : Int32)).toNatClampNeg) h121) (fun v122 => (if v120 = v122 then f_law_b2107 N k18 l3 h121 else k1611 h121))) else none))) else none) else (if ((h.1 17 0 l3.toNatClampNeg) &&& (63 : Int32)) = (34 : Int32) then (if ai_in (l3 + (1 : Int32)) h.2.2.2.2 then (if ai_in (l3 + (2 : Int32)) h.2.2.2.2 then (if ai_in (l3 + (3 : Int32)) h.2.2.2.2 then (if ai_in (l3 + (4 : Int32)) h.2.2.2.2 then (sh_b2 (f_CB_jars N (h.1 17 0 (l3 + (1 : Int32)).toNatClampNeg) (h.1 17 0 (l3 + (2 : Int32)).toNatClampNeg) (h.1 17 0 (l3 + (3 : Int32)).toNatClampNeg) (h.1 17 0 (l3 + (4 : Int32)).toNatClampNeg) h) (fun v123 h124 => (if ai_in (l3 + (1 : Int32)) h124.2.2.2.2 then (if ai_in (l3 + (2 : Int32)) h124.2.2.2.2 then (if ai_in (l3 + (3 : Int32)) h124.2.2.2.2 then (if ai_in (l3 + (4 : Int32)) h124.2.2.2.2 then (sh_b2 (f_M_jars N (h124.1 17 0 (l3 + (1 : Int32)).toNatClampNeg) (h124.1 17 0 (l3 + (2 : Int32)).toNatClampNeg) (h124.1 17 0 (l3 + (3 : Int32)).toNatClampNeg) (h124.1 17 0 (l3 + (4 : Int32)).toNatClampNeg) h124) (fun v125 h126 => (if v123 = v125 then f_law_b2107 N k18 l3 h126 else k1664 h126))) else none) else none) else none) else none))) else none) else none) else none) else none) else (if ((h.1 17 0 l3.toNatClampNeg) &&& (63 : Int32)) = (35 : Int32) then (if ai_in (l3 + (1 : Int32)) h.2.2.2.2 then (if ai_in (l3 + (2 : Int32)) h.2.2.2.2 then (if ai_in (l3 + (3 : Int32)) h.2.2.2.2 then (if ai_in (l3 + (4 : Int32)) h.2.2.2.2 then (sh_b2 (f_CB_ends N (h.1 17 0 (l3 + (1 : Int32)).toNatClampNeg) (h.1 17 0 (l3 + (2 : Int32)).toNatClampNeg) (h.1 17 0 (l3 + (3 : Int32)).toNatClampNeg) (h.1 17 0 (l3 + (4 : Int32)).toNatClampNeg) h) (fun v127 h128 => (if ai_in (l3 + (1 : Int32)) h128.2.2.2.2 then (if ai_in (l3 + (2 : Int32)) h128.2.2.2.2 then (if ai_in (l3 + (3 : Int32)) h128.2.2.2.2 then (if ai_in (l3 + (4 : Int32)) h128.2.2.2.2 then (sh_b2 (f_M_ends N (h128.1 17 0 (l3 + (1 : Int32)).toNatClampNeg) (h128.1 17 0 (l3 + (2 : Int32)).toNatClampNeg) (h128.1 17 0 (l3 + (3 : Int32)).toNatClampNeg) (h128.1 17 0 (l3 + (4 : Int32)).toNatClampNeg) h128) (fun v129 h130 => (if v127 = v129 then f_law_b2107 N k18 l3 h130 else k1717 h130))) else none) else none) else none) else none))) else none) else none) else none) else none) else (if ((h.1 17 0 l3.toNatClampNeg) &&& (63 : Int32)) = (36 : Int32) then (if ai_in (l3 + (1 : Int32)) h.2.2.2.2 then (sh_b2 (f_CB_whose N (h.1 17 0 (l3 + (1 : Int32)).toNatClampNeg) h) (fun v131 h132 => (if ai_in (l3 + (1 : Int32)) h132.2.2.2.2 then (sh_b2 (f_M_whose N (h132.1 17 0 (l3 + (1 : Int32)).toNatClampNeg) h132) (fun v133 h134 => (if v131 = v133 then f_law_b2107 N k18 l3 h134 else k1740 h134))) else none))) else none) else (if ((h.1 17 0 l3.toNatClampNeg) &&& (63 : Int32)) = (37 : Int32) then (if ai_in (l3 + (1 : Int32)) h.2.2.2.2 then (if ai_in (l3 + (2 : Int32)) h.2.2.2.2 then (if ai_in (l3 + (3 : Int32)) h.2.2.2.2 then (if (h.1 17 0 (l3 + (3 : Int32)).toNatClampNeg) = 0 then f_law_b1766 N k18 k1800 l3 (h.1 17 0 (l3 + (1 : Int32)).toNatClampNeg) (h.1 17 0 (l3 + (2 : Int32)).toNatClampNeg) (0 : Int32) h else f_law_b1766 N k18 k1800 l3 (h.1 17 0 (l3 + (1 : Int32)).toNatClampNeg) (h.1 17 0 (l3 + (2 : Int32)).toNatClampNeg) (1 : Int32) h) else none) else none) else none) else (if ((h.1 17 0 l3.toNatClampNeg) &&& (63 : Int32)) = (38 : Int32) then (if ai_in (l3 + (1 : Int32)) h.2.2.2.2 then (if ai_in (l3 + (2 : Int32)) h.2.2.2.2 then (if ai_in (l3 + (3 : Int32)) h.2.2.2.2 then (if ai_in (l3 + (4 : Int32)) h.2.2.2.2 then (Option.bind (f_CB_trickle N (h.1 17 0 (l3 + (1 : Int32)).toNatClampNeg) (h.1 17 0 (l3 + (2 : Int32)).toNatClampNeg) (h.1 17 0 (l3 + (3 : Int32)).toNatClampNeg) (h.1 17 0 (l3 + (4 : Int32)).toNatClampNeg) h) (fun v135 => (if ai_in (l3 + (1 : Int32)) h.2.2.2.2 then (if ai_in (l3 + (2 : Int32)) h.2.2.2.2 then (if ai_in (l3 + (3 : Int32)) h.2.2.2.2 then (if ai_in (l3 + (4 : Int32)) h.2.2.2.2 then (Option.bind (f_M_trickle N (h.1 17 0 (l3 + (1 : Int32)).toNatClampNeg) (h.1 17 0 (l3 + (2 : Int32)).toNatClampNeg) (h.1 17 0 (l3 + (3 : Int32)).toNatClampNeg) (h.1 17 0 (l3 + (4 : Int32)).toNatClampNeg) h) (fun v136 => (if v135 = v136 then f_law_b2107 N k18 l3 h else k1853 h))) else none) else none) else none) else none))) else none) else none) else none) else none) else (if ((h.1 17 0 l3.toNatClampNeg) &&& (63 : Int32)) = (39 : Int32) then (if ai_in (l3 + (1 : Int32)) h.2.2.2.2 then (if ai_in (l3 + (2 : Int32)) h.2.2.2.2 then (if ai_in (l3 + (3 : Int32)) h.2.2.2.2 then (if ai_in (l3 + (4 : Int32)) h.2.2.2.2 then (Option.bind (f_CB_trickled N (h.1 17 0 (l3 + (1 : Int32)).toNatClampNeg) (h.1 17 0 (l3 + (2 : Int32)).toNatClampNeg) (h.1 17 0 (l3 + (3 : Int32)).toNatClampNeg) (h.1 17 0 (l3 + (4 : Int32)).toNatClampNeg) h) (fun v137 => (if ai_in (l3 + (1 : Int32)) h.2.2.2.2 then (if ai_in (l3 + (2 : Int32)) h.2.2.2.2 then (if ai_in (l3 + (3 : Int32)) h.2.2.2.2 then (if ai_in (l3 + (4 : Int32)) h.2.2.2.2 then (Option.bind (f_M_trickled N (h.1 17 0 (l3 + (1 : Int32)).toNatClampNeg) (h.1 17 0 (l3 + (2 : Int32)).toNatClampNeg) (h.1 17 0 (l3 + (3 : Int32)).toNatClampNeg) (h.1 17 0 (l3 + (4 : Int32)).toNatClampNeg) h) (fun v138 => (if v137 = v138 then f_law_b2107 N k18 l3 h else k1906 h))) else none) else none) else none) else none))) else none) else none) else none) else none) else (if ((h.1 17 0 l3.toNatClampNeg) &&& (63 : Int32)) = (40 : Int32) then (if ai_in (l3 + (1 : Int32)) h.2.2.2.2 then (if ai_in (l3 + (2 : Int32)) h.2.2.2.2 then (if ai_in (l3 + (3 : Int32)) h.2.2.2.2 then (Option.bind (f_CB_burnAt N (h.1 17 0 (l3 + (1 : Int32)).toNatClampNeg) (h.1 17 0 (l3 + (2 : Int32)).toNatClampNeg) (h.1 17 0 (l3 + (3 : Int32)).toNatClampNeg) h) (fun v139 => (if ai_in (l3 + (1 : Int32)) h.2.2.2.2 then (if ai_in (l3 + (2 : Int32)) h.2.2.2.2 then (if ai_in (l3 + (3 : Int32)) h.2.2.2.2 then (Option.bind (f_M_burnAt N (h.1 17 0 (l3 + (1 : Int32)).toNatClampNeg) (h.1 17 0 (l3 + (2 : Int32)).toNatClampNeg) (h.1 17 0 (l3 + (3 : Int32)).toNatClampNeg) h) (fun v140 => (if v139 = v140 then f_law_b2107 N k18 l3 h else k1949 h))) else none) else none) else none))) else none) else none) else none) else (if ((h.1 17 0 l3.toNatClampNeg) &&& (63 : Int32)) = (41 : Int32) then (if ai_in (l3 + (1 : Int32)) h.2.2.2.2 then (if ai_in (l3 + (2 : Int32)) h.2.2.2.2 then (if ai_in (l3 + (3 : Int32)) h.2.2.2.2 then (if ai_in (l3 + (4 : Int32)) h.2.2.2.2 then (if ai_in (l3 + (5 : Int32)) h.2.2.2.2 then (if ai_in (l3 + (6 : Int32)) h.2.2.2.2 then (if ai_in (l3 + (7 : Int32)) h.2.2.2.2 then (Option.bind (f_CB_sort (h.1 17 0 (l3 + (1 : Int32)).toNatClampNeg) (h.1 17 0 (l3 + (2 : Int32)).toNatClampNeg) (h.1 17 0 (l3 + (3 : Int32)).toNatClampNeg) (h.1 17 0 (l3 + (4 : Int32)).toNatClampNeg) (h.1 17 0 (l3 + (5 : Int32)).toNatClampNeg) (h.1 17 0 (l3 + (6 : Int32)).toNatClampNeg) (h.1 17 0 (l3 + (7 : Int32)).toNatClampNeg) h) (fun v141 => (if ai_in (l3 + (1 : Int32)) h.2.2.2.2 then (if ai_in (l3 + (2 : Int32)) h.2.2.2.2 then (if ai_in (l3 + (3 : Int32)) h.2.2.2.2 then (if ai_in (l3 + (4 : Int32)) h.2.2.2.2 then (if ai_in (l3 + (5 : Int32)) h.2.2.2.2 then (if ai_in (l3 + (6 : Int32)) h.2.2.2.2 then (if ai_in (l3 + (7 : Int32)) h.2.2.2.2 then (Option.bind (f_M_sort (h.1 17 0 (l3 + (1 : Int32)).toNatClampNeg) (h.1 17 0 (l3 + (2 : Int32)).toNatClampNeg) (h.1 17 0 (l3 + (3 : Int32)).toNatClampNeg) (h.1 17 0 (l3 + (4 : Int32)).toNatClampNeg) (h.1 17 0 (l3 + (5 : Int32)).toNatClampNeg) (h.1 17 0 (l3 + (6 : Int32)).toNatClampNeg) (h.1 17 0 (l3 + (7 : Int32)).toNatClampNeg) h) (fun v142 => (if v141 = v142 then f_law_b2107 N k18 l3 h else k2036 h))) else none) else none) else none) else none) else none) else none) else none))) else none) else none) else none) else none) else none) else none) else none) else (if ((h.1 17 0 l3.toNatClampNeg) &&& (63 : Int32)) = (42 : Int32) then (if ai_in (l3 + (1 : Int32)) h.2.2.2.2 then (sh_b2 (f_CB_hold N (h.1 17 0 (l3 + (1 : Int32)).toNatClampNeg) h) (fun v143 h144 => (if ai_in (l3 + (1 : Int32)) h144.2.2.2.2 then (sh_b2 (f_M_hold N (h144.1 17 0 (l3 + (1 : Int32)).toNatClampNeg) h144) (fun v145 h146 => (if v143 = v145 then f_law_b2107 N k18 l3 h146 else k2059 h146))) else none))) else none) else (if ((h.1 17 0 l3.toNatClampNeg) &&& (63 : Int32)) = (43 : Int32) then (if ai_in (l3 + (1 : Int32)) h.2.2.2.2 then (sh_b2 (f_CB_restore N (h.1 17 0 (l3 + (1 : Int32)).toNatClampNeg) h) (fun v147 h148 => (if ai_in (l3 + (1 : Int32)) h148.2.2.2.2 then (sh_b2 (f_M_restore N (h148.1 17 0 (l3 + (1 : Int32)).toNatClampNeg) h148) (fun v149 h150 => (if v147 = v149 then f_law_b2107 N k18 l3 h150 else k2082 h150))) else none))) else none) else (if ((h.1 17 0 l3.toNatClampNeg) &&& (63 : Int32)) = (44 : Int32) then (if ai_in (l3 + (1 : Int32)) h.2.2.2.2 then (Option.bind (f_CB_count (h.1 17 0 (l3 + (1 : Int32)).toNatClampNeg) h) (fun v151 => (if ai_in (l3 + (1 : Int32)) h.2.2.2.2 then (Option.bind (f_M_count (h.1 17 0 (l3 + (1 : Int32)).toNatClampNeg) h) (fun v152 => (if v151 = v152 then f_law_b2107 N k18 l3 h else k2105 h))) else none))) else none) else f_law_b2107 N k18 l3 h))))))))))))))))))))))))))))))))))))))))))))) else none))) n
theorem x_law_l18 (N : Nat) {d : Nat} (hd : 67 ≤ d) {Q : ai_Q} {R : Int32 × sh_H → Prop} (hR : ∀ r h, R (r, h) → Q (some (aI r)) (sh_E h))  (k289 : sh_H → Option (Int32 × sh_H)) (hk289 : ∀ {d0 d1 d2 d3 : Option ai_V} (h : sh_H), sh_ok (k289 h) R → wq_L d Q 289 [d0, d1, d2, d3] [] (sh_E h)) (k312 : sh_H → Option (Int32 × sh_H)) (hk312 : ∀ {d0 d1 d2 d3 : Option ai_V} (h : sh_H), sh_ok (k312 h) R → wq_L d Q 312 [d0, d1, d2, d3] [] (sh_E h)) (k325 : sh_H → Option (Int32 × sh_H)) (hk325 : ∀ {d0 d1 d2 d3 : Option ai_V} (h : sh_H), sh_ok (k325 h) R → wq_L d Q 325 [d0, d1, d2, d3] [] (sh_E h)) (k338 : sh_H → Option (Int32 × sh_H)) (hk338 : ∀ {d0 d1 d2 d3 : Option ai_V} (h : sh_H), sh_ok (k338 h) R → wq_L d Q 338 [d0, d1, d2, d3] [] (sh_E h)) (k371 : sh_H → Option (Int32 × sh_H)) (hk371 : ∀ {d0 d1 d2 d3 : Option ai_V} (h : sh_H), sh_ok (k371 h) R → wq_L d Q 371 [d0, d1, d2, d3] [] (sh_E h)) (k404 : sh_H → Option (Int32 × sh_H)) (hk404 : ∀ {d0 d1 d2 d3 : Option ai_V} (h : sh_H), sh_ok (k404 h) R → wq_L d Q 404 [d0, d1, d2, d3] [] (sh_E h)) (k437 : sh_H → Option (Int32 × sh_H)) (hk437 : ∀ {d0 d1 d2 d3 : Option ai_V} (h : sh_H), sh_ok (k437 h) R → wq_L d Q 437 [d0, d1, d2, d3] [] (sh_E h)) (k480 : sh_H → Option (Int32 × sh_H)) (hk480 : ∀ {d0 d1 d2 d3 : Option ai_V} (h : sh_H), sh_ok (k480 h) R → wq_L d Q 480 [d0, d1, d2, d3] [] (sh_E h)) (k513 : sh_H → Option (Int32 × sh_H)) (hk513 : ∀ {d0 d1 d2 d3 : Option ai_V} (h : sh_H), sh_ok (k513 h) R → wq_L d Q 513 [d0, d1, d2, d3] [] (sh_E h)) (k546 : sh_H → Option (Int32 × sh_H)) (hk546 : ∀ {d0 d1 d2 d3 : Option ai_V} (h : sh_H), sh_ok (k546 h) R → wq_L d Q 546 [d0, d1, d2, d3] [] (sh_E h)) (k599 : sh_H → Option (Int32 × sh_H)) (hk599 : ∀ {d0 d1 d2 d3 : Option ai_V} (h : sh_H), sh_ok (k599 h) R → wq_L d Q 599 [d0, d1, d2, d3] [] (sh_E h)) (k642 : sh_H → Option (Int32 × sh_H)) (hk642 : ∀ {d0 d1 d2 d3 : Option ai_V} (h : sh_H), sh_ok (k642 h) R → wq_L d Q 642 [d0, d1, d2, d3] [] (sh_E h)) (k721 : sh_H → Option (Int32 × sh_H)) (hk721 : ∀ {d0 d1 d2 d3 : Option ai_V} (h : sh_H), sh_ok (k721 h) R → wq_L d Q 721 [d0, d1, d2, d3] [] (sh_E h)) (k744 : sh_H → Option (Int32 × sh_H)) (hk744 : ∀ {d0 d1 d2 d3 : Option ai_V} (h : sh_H), sh_ok (k744 h) R → wq_L d Q 744 [d0, d1, d2, d3] [] (sh_E h)) (k757 : sh_H → Option (Int32 × sh_H)) (hk757 : ∀ {d0 d1 d2 d3 : Option ai_V} (h : sh_H), sh_ok (k757 h) R → wq_L d Q 757 [d0, d1, d2, d3] [] (sh_E h)) (k770 : sh_H → Option (Int32 × sh_H)) (hk770 : ∀ {d0 d1 d2 d3 : Option ai_V} (h : sh_H), sh_ok (k770 h) R → wq_L d Q 770 [d0, d1, d2, d3] [] (sh_E h)) (k803 : sh_H → Option (Int32 × sh_H)) (hk803 : ∀ {d0 d1 d2 d3 : Option ai_V} (h : sh_H), sh_ok (k803 h) R → wq_L d Q 803 [d0, d1, d2, d3] [] (sh_E h)) (k836 : sh_H → Option (Int32 × sh_H)) (hk836 : ∀ {d0 d1 d2 d3 : Option ai_V} (h : sh_H), sh_ok (k836 h) R → wq_L d Q 836 [d0, d1, d2, d3] [] (sh_E h)) (k860 : sh_H → Option (Int32 × sh_H)) (hk860 : ∀ {d0 d1 d2 d3 : Option ai_V} (h : sh_H), sh_ok (k860 h) R → wq_L d Q 860 [d0, d1, d2, d3] [] (sh_E h)) (k903 : sh_H → Option (Int32 × sh_H)) (hk903 : ∀ {d0 d1 d2 d3 : Option ai_V} (h : sh_H), sh_ok (k903 h) R → wq_L d Q 903 [d0, d1, d2, d3] [] (sh_E h)) (k956 : sh_H → Option (Int32 × sh_H)) (hk956 : ∀ {d0 d1 d2 d3 : Option ai_V} (h : sh_H), sh_ok (k956 h) R → wq_L d Q 956 [d0, d1, d2, d3] [] (sh_E h)) (k989 : sh_H → Option (Int32 × sh_H)) (hk989 : ∀ {d0 d1 d2 d3 : Option ai_V} (h : sh_H), sh_ok (k989 h) R → wq_L d Q 989 [d0, d1, d2, d3] [] (sh_E h)) (k1022 : sh_H → Option (Int32 × sh_H)) (hk1022 : ∀ {d0 d1 d2 d3 : Option ai_V} (h : sh_H), sh_ok (k1022 h) R → wq_L d Q 1022 [d0, d1, d2, d3] [] (sh_E h)) (k1098 : sh_H → Option (Int32 × sh_H)) (hk1098 : ∀ {d0 d1 d2 d3 : Option ai_V} (h : sh_H), sh_ok (k1098 h) R → wq_L d Q 1098 [d0, d1, d2, d3] [] (sh_E h)) (k1173 : sh_H → Option (Int32 × sh_H)) (hk1173 : ∀ {d0 d1 d2 d3 : Option ai_V} (h : sh_H), sh_ok (k1173 h) R → wq_L d Q 1173 [d0, d1, d2, d3] [] (sh_E h)) (k1249 : sh_H → Option (Int32 × sh_H)) (hk1249 : ∀ {d0 d1 d2 d3 : Option ai_V} (h : sh_H), sh_ok (k1249 h) R → wq_L d Q 1249 [d0, d1, d2, d3] [] (sh_E h)) (k1292 : sh_H → Option (Int32 × sh_H)) (hk1292 : ∀ {d0 d1 d2 d3 : Option ai_V} (h : sh_H), sh_ok (k1292 h) R → wq_L d Q 1292 [d0, d1, d2, d3] [] (sh_E h)) (k1335 : sh_H → Option (Int32 × sh_H)) (hk1335 : ∀ {d0 d1 d2 d3 : Option ai_V} (h : sh_H), sh_ok (k1335 h) R → wq_L d Q 1335 [d0, d1, d2, d3] [] (sh_E h)) (k1410 : sh_H → Option (Int32 × sh_H)) (hk1410 : ∀ {d0 d1 d2 d3 : Option ai_V} (h : sh_H), sh_ok (k1410 h) R → wq_L d Q 1410 [d0, d1, d2, d3] [] (sh_E h)) (k1479 : sh_H → Option (Int32 × sh_H)) (hk1479 : ∀ {d0 d1 d2 d3 : Option ai_V} (h : sh_H), sh_ok (k1479 h) R → wq_L d Q 1479 [d0, d1, d2, d3] [] (sh_E h)) (k1522 : sh_H → Option (Int32 × sh_H)) (hk1522 : ∀ {d0 d1 d2 d3 : Option ai_V} (h : sh_H), sh_ok (k1522 h) R → wq_L d Q 1522 [d0, d1, d2, d3] [] (sh_E h)) (k1545 : sh_H → Option (Int32 × sh_H)) (hk1545 : ∀ {d0 d1 d2 d3 : Option ai_V} (h : sh_H), sh_ok (k1545 h) R → wq_L d Q 1545 [d0, d1, d2, d3] [] (sh_E h)) (k1588 : sh_H → Option (Int32 × sh_H)) (hk1588 : ∀ {d0 d1 d2 d3 : Option ai_V} (h : sh_H), sh_ok (k1588 h) R → wq_L d Q 1588 [d0, d1, d2, d3] [] (sh_E h)) (k1611 : sh_H → Option (Int32 × sh_H)) (hk1611 : ∀ {d0 d1 d2 d3 : Option ai_V} (h : sh_H), sh_ok (k1611 h) R → wq_L d Q 1611 [d0, d1, d2, d3] [] (sh_E h)) (k1664 : sh_H → Option (Int32 × sh_H)) (hk1664 : ∀ {d0 d1 d2 d3 : Option ai_V} (h : sh_H), sh_ok (k1664 h) R → wq_L d Q 1664 [d0, d1, d2, d3] [] (sh_E h)) (k1717 : sh_H → Option (Int32 × sh_H)) (hk1717 : ∀ {d0 d1 d2 d3 : Option ai_V} (h : sh_H), sh_ok (k1717 h) R → wq_L d Q 1717 [d0, d1, d2, d3] [] (sh_E h)) (k1740 : sh_H → Option (Int32 × sh_H)) (hk1740 : ∀ {d0 d1 d2 d3 : Option ai_V} (h : sh_H), sh_ok (k1740 h) R → wq_L d Q 1740 [d0, d1, d2, d3] [] (sh_E h)) (k1800 : sh_H → Option (Int32 × sh_H)) (hk1800 : ∀ {d0 d1 d2 d3 : Option ai_V} (h : sh_H), sh_ok (k1800 h) R → wq_L d Q 1800 [d0, d1, d2, d3] [] (sh_E h)) (k1853 : sh_H → Option (Int32 × sh_H)) (hk1853 : ∀ {d0 d1 d2 d3 : Option ai_V} (h : sh_H), sh_ok (k1853 h) R → wq_L d Q 1853 [d0, d1, d2, d3] [] (sh_E h)) (k1906 : sh_H → Option (Int32 × sh_H)) (hk1906 : ∀ {d0 d1 d2 d3 : Option ai_V} (h : sh_H), sh_ok (k1906 h) R → wq_L d Q 1906 [d0, d1, d2, d3] [] (sh_E h)) (k1949 : sh_H → Option (Int32 × sh_H)) (hk1949 : ∀ {d0 d1 d2 d3 : Option ai_V} (h : sh_H), sh_ok (k1949 h) R → wq_L d Q 1949 [d0, d1, d2, d3] [] (sh_E h)) (k2036 : sh_H → Option (Int32 × sh_H)) (hk2036 : ∀ {d0 d1 d2 d3 : Option ai_V} (h : sh_H), sh_ok (k2036 h) R → wq_L d Q 2036 [d0, d1, d2, d3] [] (sh_E h)) (k2059 : sh_H → Option (Int32 × sh_H)) (hk2059 : ∀ {d0 d1 d2 d3 : Option ai_V} (h : sh_H), sh_ok (k2059 h) R → wq_L d Q 2059 [d0, d1, d2, d3] [] (sh_E h)) (k2082 : sh_H → Option (Int32 × sh_H)) (hk2082 : ∀ {d0 d1 d2 d3 : Option ai_V} (h : sh_H), sh_ok (k2082 h) R → wq_L d Q 2082 [d0, d1, d2, d3] [] (sh_E h)) (k2105 : sh_H → Option (Int32 × sh_H)) (hk2105 : ∀ {d0 d1 d2 d3 : Option ai_V} (h : sh_H), sh_ok (k2105 h) R → wq_L d Q 2105 [d0, d1, d2, d3] [] (sh_E h)) (k2113 : sh_H → Option (Int32 × sh_H)) (hk2113 : ∀ {d0 d1 d2 d3 : Option ai_V} (h : sh_H), sh_ok (k2113 h) R → wq_L d Q 2113 [d0, d1, d2, d3] [] (sh_E h)) (n : Nat) : ∀ (l3 : Int32) (h : sh_H), sh_ok (f_law_l18 N k289 k312 k325 k338 k371 k404 k437 k480 k513 k546 k599 k642 k721 k744 k757 k770 k803 k836 k860 k903 k956 k989 k1022 k1098 k1173 k1249 k1292 k1335 k1410 k1479 k1522 k1545 k1588 k1611 k1664 k1717 k1740 k1800 k1853 k1906 k1949 k2036 k2059 k2082 k2105 k2113 n l3 h) R → wq_L d Q 18 [oR 17 0, oR 11 0, oR 12 0, oI l3] [] (sh_E h) := by
  induction n with
  | zero => intro l3 h H; exact H.elim
  | succ n ih =>
    intro l3 h H
    have hk18 := @ih
    revert hk18 H
    show sh_ok ((fun k18 l3 h => (if ((Int32.ofNat h.2.2.2.2) - (8 : Int32)) < l3 then k2113 h else (if ai_in l3 h.2.2.2.2 then (if ((h.1 17 0 l3.toNatClampNeg) &&& (63 : Int32)) = (0 : Int32) then (if ai_in (l3 + (1 : Int32)) h.2.2.2.2 then (if ai_in (l3 + (2 : Int32)) h.2.2.2.2 then (if ai_in (l3 + (3 : Int32)) h.2.2.2.2 then (if ai_in (l3 + (4 : Int32)) h.2.2.2.2 then (if ai_in (l3 + (5 : Int32)) h.2.2.2.2 then (sh_b2 (f_CB_feed N (h.1 17 0 (l3 + (1 : Int32)).toNatClampNeg) (h.1 17 0 (l3 + (2 : Int32)).toNatClampNeg) (h.1 17 0 (l3 + (3 : Int32)).toNatClampNeg) (h.1 17 0 (l3 + (4 : Int32)).toNatClampNeg) (h.1 17 0 (l3 + (5 : Int32)).toNatClampNeg) h) (fun v13 h14 => (if ai_in (l3 + (1 : Int32)) h14.2.2.2.2 then (if ai_in (l3 + (2 : Int32)) h14.2.2.2.2 then (if ai_in (l3 + (3 : Int32)) h14.2.2.2.2 then (if ai_in (l3 + (4 : Int32)) h14.2.2.2.2 then (if ai_in (l3 + (5 : Int32)) h14.2.2.2.2 then (sh_b2 (f_M_feed N (h14.1 17 0 (l3 + (1 : Int32)).toNatClampNeg) (h14.1 17 0 (l3 + (2 : Int32)).toNatClampNeg) (h14.1 17 0 (l3 + (3 : Int32)).toNatClampNeg) (h14.1 17 0 (l3 + (4 : Int32)).toNatClampNeg) (h14.1 17 0 (l3 + (5 : Int32)).toNatClampNeg) h14) (fun v15 h16 => (if v13 = v15 then f_law_b2107 N k18 l3 h16 else k289 h16))) else none) else none) else none) else none) else none))) else none) else none) else none) else none) else none) else (if ((h.1 17 0 l3.toNatClampNeg) &&& (63 : Int32)) = (1 : Int32) then (if ai_in (l3 + (1 : Int32)) h.2.2.2.2 then (sh_b2 (f_CB_back (h.1 17 0 (l3 + (1 : Int32)).toNatClampNeg) h) (fun v17 h18 => (if ai_in (l3 + (1 : Int32)) h18.2.2.2.2 then (sh_b2 (f_M_back (h18.1 17 0 (l3 + (1 : Int32)).toNatClampNeg) h18) (fun v19 h20 => (if v17 = v19 then f_law_b2107 N k18 l3 h20 else k312 h20))) else none))) else none) else (if ((h.1 17 0 l3.toNatClampNeg) &&& (63 : Int32)) = (2 : Int32) then (sh_b2 (f_CB_read N h) (fun v21 h22 => (sh_b2 (f_M_read N h22) (fun v23 h24 => (if v21 = v23 then f_law_b2107 N k18 l3 h24 else k325 h24))))) else (if ((h.1 17 0 l3.toNatClampNeg) &&& (63 : Int32)) = (3 : Int32) then (Option.bind (f_CB_place h) (fun v25 => (Option.bind (f_M_place h) (fun v26 => (if v25 = v26 then f_law_b2107 N k18 l3 h else k338 h))))) else (if ((h.1 17 0 l3.toNatClampNeg) &&& (63 : Int32)) = (4 : Int32) then (if ai_in (l3 + (1 : Int32)) h.2.2.2.2 then (if ai_in (l3 + (2 : Int32)) h.2.2.2.2 then (Option.bind (f_CB_kind (h.1 17 0 (l3 + (1 : Int32)).toNatClampNeg) (h.1 17 0 (l3 + (2 : Int32)).toNatClampNeg) h) (fun v27 => (if ai_in (l3 + (1 : Int32)) h.2.2.2.2 then (if ai_in (l3 + (2 : Int32)) h.2.2.2.2 then (Option.bind (f_M_kind (h.1 17 0 (l3 + (1 : Int32)).toNatClampNeg) (h.1 17 0 (l3 + (2 : Int32)).toNatClampNeg) h) (fun v28 => (if v27 = v28 then f_law_b2107 N k18 l3 h else k371 h))) else none) else none))) else none) else none) else (if ((h.1 17 0 l3.toNatClampNeg) &&& (63 : Int32)) = (5 : Int32) then (if ai_in (l3 + (1 : Int32)) h.2.2.2.2 then (if ai_in (l3 + (2 : Int32)) h.2.2.2.2 then (Option.bind (f_CB_island (h.1 17 0 (l3 + (1 : Int32)).toNatClampNeg) (h.1 17 0 (l3 + (2 : Int32)).toNatClampNeg) h) (fun v29 => (if ai_in (l3 + (1 : Int32)) h.2.2.2.2 then (if ai_in (l3 + (2 : Int32)) h.2.2.2.2 then (Option.bind (f_M_island (h.1 17 0 (l3 + (1 : Int32)).toNatClampNeg) (h.1 17 0 (l3 + (2 : Int32)).toNatClampNeg) h) (fun v30 => (if v29 = v30 then f_law_b2107 N k18 l3 h else k404 h))) else none) else none))) else none) else none) else (if ((h.1 17 0 l3.toNatClampNeg) &&& (63 : Int32)) = (6 : Int32) then (if ai_in (l3 + (1 : Int32)) h.2.2.2.2 then (if ai_in (l3 + (2 : Int32)) h.2.2.2.2 then (Option.bind (f_CB_boat N (h.1 17 0 (l3 + (1 : Int32)).toNatClampNeg) (h.1 17 0 (l3 + (2 : Int32)).toNatClampNeg) h) (fun v31 => (if ai_in (l3 + (1 : Int32)) h.2.2.2.2 then (if ai_in (l3 + (2 : Int32)) h.2.2.2.2 then (Option.bind (f_M_boat N (h.1 17 0 (l3 + (1 : Int32)).toNatClampNeg) (h.1 17 0 (l3 + (2 : Int32)).toNatClampNeg) h) (fun v32 => (if v31 = v32 then f_law_b2107 N k18 l3 h else k437 h))) else none) else none))) else none) else none) else (if ((h.1 17 0 l3.toNatClampNeg) &&& (63 : Int32)) = (7 : Int32) then (if ai_in (l3 + (1 : Int32)) h.2.2.2.2 then (if ai_in (l3 + (2 : Int32)) h.2.2.2.2 then (if ai_in (l3 + (3 : Int32)) h.2.2.2.2 then (sh_b2 (f_CB_want N (h.1 17 0 (l3 + (1 : Int32)).toNatClampNeg) (h.1 17 0 (l3 + (2 : Int32)).toNatClampNeg) (h.1 17 0 (l3 + (3 : Int32)).toNatClampNeg) h) (fun v33 h34 => (if ai_in (l3 + (1 : Int32)) h34.2.2.2.2 then (if ai_in (l3 + (2 : Int32)) h34.2.2.2.2 then (if ai_in (l3 + (3 : Int32)) h34.2.2.2.2 then (sh_b2 (f_M_want N (h34.1 17 0 (l3 + (1 : Int32)).toNatClampNeg) (h34.1 17 0 (l3 + (2 : Int32)).toNatClampNeg) (h34.1 17 0 (l3 + (3 : Int32)).toNatClampNeg) h34) (fun v35 h36 => (if v33 = v35 then f_law_b2107 N k18 l3 h36 else k480 h36))) else none) else none) else none))) else none) else none) else none) else (if ((h.1 17 0 l3.toNatClampNeg) &&& (63 : Int32)) = (8 : Int32) then (if ai_in (l3 + (1 : Int32)) h.2.2.2.2 then (if ai_in (l3 + (2 : Int32)) h.2.2.2.2 then (sh_b2 (f_CB_strike N (h.1 17 0 (l3 + (1 : Int32)).toNatClampNeg) (h.1 17 0 (l3 + (2 : Int32)).toNatClampNeg) h) (fun v37 h38 => (if ai_in (l3 + (1 : Int32)) h38.2.2.2.2 then (if ai_in (l3 + (2 : Int32)) h38.2.2.2.2 then (sh_b2 (f_M_strike N (h38.1 17 0 (l3 + (1 : Int32)).toNatClampNeg) (h38.1 17 0 (l3 + (2 : Int32)).toNatClampNeg) h38) (fun v39 h40 => (if v37 = v39 then f_law_b2107 N k18 l3 h40 else k513 h40))) else none) else none))) else none) else none) else (if ((h.1 17 0 l3.toNatClampNeg) &&& (63 : Int32)) = (9 : Int32) then (if ai_in (l3 + (1 : Int32)) h.2.2.2.2 then (if ai_in (l3 + (2 : Int32)) h.2.2.2.2 then (sh_b2 (f_CB_burn N (h.1 17 0 (l3 + (1 : Int32)).toNatClampNeg) (h.1 17 0 (l3 + (2 : Int32)).toNatClampNeg) h) (fun v41 h42 => (if ai_in (l3 + (1 : Int32)) h42.2.2.2.2 then (if ai_in (l3 + (2 : Int32)) h42.2.2.2.2 then (sh_b2 (f_M_burn N (h42.1 17 0 (l3 + (1 : Int32)).toNatClampNeg) (h42.1 17 0 (l3 + (2 : Int32)).toNatClampNeg) h42) (fun v43 h44 => (if v41 = v43 then f_law_b2107 N k18 l3 h44 else k546 h44))) else none) else none))) else none) else none) else (if ((h.1 17 0 l3.toNatClampNeg) &&& (63 : Int32)) = (10 : Int32) then (if ai_in (l3 + (1 : Int32)) h.2.2.2.2 then (if ai_in (l3 + (2 : Int32)) h.2.2.2.2 then (if ai_in (l3 + (3 : Int32)) h.2.2.2.2 then (if ai_in (l3 + (4 : Int32)) h.2.2.2.2 then (sh_b2 (f_CB_lay (h.1 17 0 (l3 + (1 : Int32)).toNatClampNeg) (h.1 17 0 (l3 + (2 : Int32)).toNatClampNeg) (h.1 17 0 (l3 + (3 : Int32)).toNatClampNeg) (h.1 17 0 (l3 + (4 : Int32)).toNatClampNeg) h) (fun v45 h46 => (if ai_in (l3 + (1 : Int32)) h46.2.2.2.2 then (if ai_in (l3 + (2 : Int32)) h46.2.2.2.2 then (if ai_in (l3 + (3 : Int32)) h46.2.2.2.2 then (if ai_in (l3 + (4 : Int32)) h46.2.2.2.2 then (sh_b2 (f_M_lay (h46.1 17 0 (l3 + (1 : Int32)).toNatClampNeg) (h46.1 17 0 (l3 + (2 : Int32)).toNatClampNeg) (h46.1 17 0 (l3 + (3 : Int32)).toNatClampNeg) (h46.1 17 0 (l3 + (4 : Int32)).toNatClampNeg) h46) (fun v47 h48 => (if v45 = v47 then f_law_b2107 N k18 l3 h48 else k599 h48))) else none) else none) else none) else none))) else none) else none) else none) else none) else (if ((h.1 17 0 l3.toNatClampNeg) &&& (63 : Int32)) = (11 : Int32) then (if ai_in (l3 + (1 : Int32)) h.2.2.2.2 then (if ai_in (l3 + (2 : Int32)) h.2.2.2.2 then (if ai_in (l3 + (3 : Int32)) h.2.2.2.2 then (Option.bind (f_CB_has N (h.1 17 0 (l3 + (1 : Int32)).toNatClampNeg) (h.1 17 0 (l3 + (2 : Int32)).toNatClampNeg) (h.1 17 0 (l3 + (3 : Int32)).toNatClampNeg) h) (fun v49 => (if ai_in (l3 + (1 : Int32)) h.2.2.2.2 then (if ai_in (l3 + (2 : Int32)) h.2.2.2.2 then (if ai_in (l3 + (3 : Int32)) h.2.2.2.2 then (Option.bind (f_M_has N (h.1 17 0 (l3 + (1 : Int32)).toNatClampNeg) (h.1 17 0 (l3 + (2 : Int32)).toNatClampNeg) (h.1 17 0 (l3 + (3 : Int32)).toNatClampNeg) h) (fun v50 => (if v49 = v50 then f_law_b2107 N k18 l3 h else k642 h))) else none) else none) else none))) else none) else none) else none) else (if ((h.1 17 0 l3.toNatClampNeg) &&& (63 : Int32)) = (12 : Int32) then (if ai_in (l3 + (1 : Int32)) h.2.2.2.2 then (if ai_in (l3 + (2 : Int32)) h.2.2.2.2 then (if ai_in (l3 + (3 : Int32)) h.2.2.2.2 then (if ai_in (l3 + (4 : Int32)) h.2.2.2.2 then (if ai_in (l3 + (5 : Int32)) h.2.2.2.2 then (if (h.1 17 0 (l3 + (5 : Int32)).toNatClampNeg) = 0 then f_law_b678 N k18 k721 l3 (h.1 17 0 (l3 + (1 : Int32)).toNatClampNeg) (h.1 17 0 (l3 + (2 : Int32)).toNatClampNeg) (h.1 17 0 (l3 + (3 : Int32)).toNatClampNeg) (h.1 17 0 (l3 + (4 : Int32)).toNatClampNeg) (0 : Int32) h else f_law_b678 N k18 k721 l3 (h.1 17 0 (l3 + (1 : Int32)).toNatClampNeg) (h.1 17 0 (l3 + (2 : Int32)).toNatClampNeg) (h.1 17 0 (l3 + (3 : Int32)).toNatClampNeg) (h.1 17 0 (l3 + (4 : Int32)).toNatClampNeg) (1 : Int32) h) else none) else none) else none) else none) else none) else (if ((h.1 17 0 l3.toNatClampNeg) &&& (63 : Int32)) = (13 : Int32) then (if ai_in (l3 + (1 : Int32)) h.2.2.2.2 then (Option.bind (f_CB_done (h.1 17 0 (l3 + (1 : Int32)).toNatClampNeg) h) (fun v51 => (if ai_in (l3 + (1 : Int32)) h.2.2.2.2 then (Option.bind (f_M_done (h.1 17 0 (l3 + (1 : Int32)).toNatClampNeg) h) (fun v52 => (if v51 = v52 then f_law_b2107 N k18 l3 h else k744 h))) else none))) else none) else (if ((h.1 17 0 l3.toNatClampNeg) &&& (63 : Int32)) = (14 : Int32) then (sh_b2 (f_CB_judge N h) (fun v53 h54 => (sh_b2 (f_M_judge N h54) (fun v55 h56 => (if v53 = v55 then f_law_b2107 N k18 l3 h56 else k757 h56))))) else (if ((h.1 17 0 l3.toNatClampNeg) &&& (63 : Int32)) = (15 : Int32) then (sh_b2 (f_CB_why N h) (fun v57 h58 => (sh_b2 (f_M_why N h58) (fun v59 h60 => (if v57 = v59 then f_law_b2107 N k18 l3 h60 else k770 h60))))) else (if ((h.1 17 0 l3.toNatClampNeg) &&& (63 : Int32)) = (16 : Int32) then (if ai_in (l3 + (1 : Int32)) h.2.2.2.2 then (if ai_in (l3 + (2 : Int32)) h.2.2.2.2 then (sh_b2 (f_CB_months N (h.1 17 0 (l3 + (1 : Int32)).toNatClampNeg) (h.1 17 0 (l3 + (2 : Int32)).toNatClampNeg) h) (fun v61 h62 => (if ai_in (l3 + (1 : Int32)) h62.2.2.2.2 then (if ai_in (l3 + (2 : Int32)) h62.2.2.2.2 then (sh_b2 (f_M_months N (h62.1 17 0 (l3 + (1 : Int32)).toNatClampNeg) (h62.1 17 0 (l3 + (2 : Int32)).toNatClampNeg) h62) (fun v63 h64 => (if v61 = v63 then f_law_b2107 N k18 l3 h64 else k803 h64))) else none) else none))) else none) else none) else (if ((h.1 17 0 l3.toNatClampNeg) &&& (63 : Int32)) = (17 : Int32) then (if ai_in (l3 + (1 : Int32)) h.2.2.2.2 then (if ai_in (l3 + (2 : Int32)) h.2.2.2.2 then (Option.bind (f_CB_lacks (h.1 17 0 (l3 + (1 : Int32)).toNatClampNeg) (h.1 17 0 (l3 + (2 : Int32)).toNatClampNeg) h) (fun v65 => (if ai_in (l3 + (1 : Int32)) h.2.2.2.2 then (if ai_in (l3 + (2 : Int32)) h.2.2.2.2 then (Option.bind (f_M_lacks (h.1 17 0 (l3 + (1 : Int32)).toNatClampNeg) (h.1 17 0 (l3 + (2 : Int32)).toNatClampNeg) h) (fun v66 => (if v65 = v66 then f_law_b2107 N k18 l3 h else k836 h))) else none) else none))) else none) else none) else (if ((h.1 17 0 l3.toNatClampNeg) &&& (63 : Int32)) = (18 : Int32) then (if ai_in (l3 + (1 : Int32)) h.2.2.2.2 then (Option.bind (f_CB_spent (h.1 17 0 (l3 + (1 : Int32)).toNatClampNeg) h) (fun v67 => (if ai_in (l3 + (1 : Int32)) h.2.2.2.2 then (Option.bind (f_M_spent (h.1 17 0 (l3 + (1 : Int32)).toNatClampNeg) h) (fun v68 => (if (lg_cmp v67 v68) = 0 then f_law_b2107 N k18 l3 h else k860 h))) else none))) else none) else (if ((h.1 17 0 l3.toNatClampNeg) &&& (63 : Int32)) = (19 : Int32) then (if ai_in (l3 + (1 : Int32)) h.2.2.2.2 then (if ai_in (l3 + (2 : Int32)) h.2.2.2.2 then (if ai_in (l3 + (3 : Int32)) h.2.2.2.2 then (sh_b2 (f_CB_pay N (h.1 17 0 (l3 + (1 : Int32)).toNatClampNeg) (h.1 17 0 (l3 + (2 : Int32)).toNatClampNeg) (h.1 17 0 (l3 + (3 : Int32)).toNatClampNeg) h) (fun v69 h70 => (if ai_in (l3 + (1 : Int32)) h70.2.2.2.2 then (if ai_in (l3 + (2 : Int32)) h70.2.2.2.2 then (if ai_in (l3 + (3 : Int32)) h70.2.2.2.2 then (sh_b2 (f_M_pay N (h70.1 17 0 (l3 + (1 : Int32)).toNatClampNeg) (h70.1 17 0 (l3 + (2 : Int32)).toNatClampNeg) (h70.1 17 0 (l3 + (3 : Int32)).toNatClampNeg) h70) (fun v71 h72 => (if v69 = v71 then f_law_b2107 N k18 l3 h72 else k903 h72))) else none) else none) else none))) else none) else none) else none) else (if ((h.1 17 0 l3.toNatClampNeg) &&& (63 : Int32)) = (20 : Int32) then (if ai_in (l3 + (1 : Int32)) h.2.2.2.2 then (if ai_in (l3 + (2 : Int32)) h.2.2.2.2 then (if ai_in (l3 + (3 : Int32)) h.2.2.2.2 then (if ai_in (l3 + (4 : Int32)) h.2.2.2.2 then (sh_b2 (f_CB_change N (h.1 17 0 (l3 + (1 : Int32)).toNatClampNeg) (h.1 17 0 (l3 + (2 : Int32)).toNatClampNeg) (h.1 17 0 (l3 + (3 : Int32)).toNatClampNeg) (h.1 17 0 (l3 + (4 : Int32)).toNatClampNeg) h) (fun v73 h74 => (if ai_in (l3 + (1 : Int32)) h74.2.2.2.2 then (if ai_in (l3 + (2 : Int32)) h74.2.2.2.2 then (if ai_in (l3 + (3 : Int32)) h74.2.2.2.2 then (if ai_in (l3 + (4 : Int32)) h74.2.2.2.2 then (sh_b2 (f_M_change N (h74.1 17 0 (l3 + (1 : Int32)).toNatClampNeg) (h74.1 17 0 (l3 + (2 : Int32)).toNatClampNeg) (h74.1 17 0 (l3 + (3 : Int32)).toNatClampNeg) (h74.1 17 0 (l3 + (4 : Int32)).toNatClampNeg) h74) (fun v75 h76 => (if v73 = v75 then f_law_b2107 N k18 l3 h76 else k956 h76))) else none) else none) else none) else none))) else none) else none) else none) else none) else (if ((h.1 17 0 l3.toNatClampNeg) &&& (63 : Int32)) = (21 : Int32) then (if ai_in (l3 + (1 : Int32)) h.2.2.2.2 then (if ai_in (l3 + (2 : Int32)) h.2.2.2.2 then (sh_b2 (f_CB_which N (h.1 17 0 (l3 + (1 : Int32)).toNatClampNeg) (h.1 17 0 (l3 + (2 : Int32)).toNatClampNeg) h) (fun v77 h78 => (if ai_in (l3 + (1 : Int32)) h78.2.2.2.2 then (if ai_in (l3 + (2 : Int32)) h78.2.2.2.2 then (sh_b2 (f_M_which N (h78.1 17 0 (l3 + (1 : Int32)).toNatClampNeg) (h78.1 17 0 (l3 + (2 : Int32)).toNatClampNeg) h78) (fun v79 h80 => (if v77 = v79 then f_law_b2107 N k18 l3 h80 else k989 h80))) else none) else none))) else none) else none) else (if ((h.1 17 0 l3.toNatClampNeg) &&& (63 : Int32)) = (22 : Int32) then (if ai_in (l3 + (1 : Int32)) h.2.2.2.2 then (if ai_in (l3 + (2 : Int32)) h.2.2.2.2 then (sh_b2 (f_CB_whichSum N (h.1 17 0 (l3 + (1 : Int32)).toNatClampNeg) (h.1 17 0 (l3 + (2 : Int32)).toNatClampNeg) h) (fun v81 h82 => (if ai_in (l3 + (1 : Int32)) h82.2.2.2.2 then (if ai_in (l3 + (2 : Int32)) h82.2.2.2.2 then (sh_b2 (f_M_whichSum N (h82.1 17 0 (l3 + (1 : Int32)).toNatClampNeg) (h82.1 17 0 (l3 + (2 : Int32)).toNatClampNeg) h82) (fun v83 h84 => (if v81 = v83 then f_law_b2107 N k18 l3 h84 else k1022 h84))) else none) else none))) else none) else none) else (if ((h.1 17 0 l3.toNatClampNeg) &&& (63 : Int32)) = (23 : Int32) then (if ai_in (l3 + (1 : Int32)) h.2.2.2.2 then (if ai_in (l3 + (2 : Int32)) h.2.2.2.2 then (if ai_in (l3 + (3 : Int32)) h.2.2.2.2 then (if ai_in (l3 + (4 : Int32)) h.2.2.2.2 then (if ai_in (l3 + (5 : Int32)) h.2.2.2.2 then (if ai_in (l3 + (6 : Int32)) h.2.2.2.2 then (sh_b2 (f_CB_least N (h.1 17 0 (l3 + (1 : Int32)).toNatClampNeg) (h.1 17 0 (l3 + (2 : Int32)).toNatClampNeg) (h.1 17 0 (l3 + (3 : Int32)).toNatClampNeg) (h.1 17 0 (l3 + (4 : Int32)).toNatClampNeg) (h.1 17 0 (l3 + (5 : Int32)).toNatClampNeg) (h.1 17 0 (l3 + (6 : Int32)).toNatClampNeg) h) (fun v85 h86 => (if ai_in (l3 + (1 : Int32)) h86.2.2.2.2 then (if ai_in (l3 + (2 : Int32)) h86.2.2.2.2 then (if ai_in (l3 + (3 : Int32)) h86.2.2.2.2 then (if ai_in (l3 + (4 : Int32)) h86.2.2.2.2 then (if ai_in (l3 + (5 : Int32)) h86.2.2.2.2 then (if ai_in (l3 + (6 : Int32)) h86.2.2.2.2 then (sh_b2 (f_M_least N (h86.1 17 0 (l3 + (1 : Int32)).toNatClampNeg) (h86.1 17 0 (l3 + (2 : Int32)).toNatClampNeg) (h86.1 17 0 (l3 + (3 : Int32)).toNatClampNeg) (h86.1 17 0 (l3 + (4 : Int32)).toNatClampNeg) (h86.1 17 0 (l3 + (5 : Int32)).toNatClampNeg) (h86.1 17 0 (l3 + (6 : Int32)).toNatClampNeg) h86) (fun v87 h88 => (if (lg_cmp v85 v87) = 0 then f_law_b2107 N k18 l3 h88 else k1098 h88))) else none) else none) else none) else none) else none) else none))) else none) else none) else none) else none) else none) else none) else (if ((h.1 17 0 l3.toNatClampNeg) &&& (63 : Int32)) = (24 : Int32) then (if ai_in (l3 + (1 : Int32)) h.2.2.2.2 then (if ai_in (l3 + (2 : Int32)) h.2.2.2.2 then (if ai_in (l3 + (3 : Int32)) h.2.2.2.2 then (if ai_in (l3 + (4 : Int32)) h.2.2.2.2 then (if ai_in (l3 + (5 : Int32)) h.2.2.2.2 then (if ai_in (l3 + (6 : Int32)) h.2.2.2.2 then (sh_b2 (f_CB_order N (h.1 17 0 (l3 + (1 : Int32)).toNatClampNeg) (h.1 17 0 (l3 + (2 : Int32)).toNatClampNeg) (h.1 17 0 (l3 + (3 : Int32)).toNatClampNeg) (h.1 17 0 (l3 + (4 : Int32)).toNatClampNeg) (h.1 17 0 (l3 + (5 : Int32)).toNatClampNeg) (h.1 17 0 (l3 + (6 : Int32)).toNatClampNeg) h) (fun v89 h90 => (if ai_in (l3 + (1 : Int32)) h90.2.2.2.2 then (if ai_in (l3 + (2 : Int32)) h90.2.2.2.2 then (if ai_in (l3 + (3 : Int32)) h90.2.2.2.2 then (if ai_in (l3 + (4 : Int32)) h90.2.2.2.2 then (if ai_in (l3 + (5 : Int32)) h90.2.2.2.2 then (if ai_in (l3 + (6 : Int32)) h90.2.2.2.2 then (sh_b2 (f_M_order N (h90.1 17 0 (l3 + (1 : Int32)).toNatClampNeg) (h90.1 17 0 (l3 + (2 : Int32)).toNatClampNeg) (h90.1 17 0 (l3 + (3 : Int32)).toNatClampNeg) (h90.1 17 0 (l3 + (4 : Int32)).toNatClampNeg) (h90.1 17 0 (l3 + (5 : Int32)).toNatClampNeg) (h90.1 17 0 (l3 + (6 : Int32)).toNatClampNeg) h90) (fun v91 h92 => (if v89 = v91 then f_law_b2107 N k18 l3 h92 else k1173 h92))) else none) else none) else none) else none) else none) else none))) else none) else none) else none) else none) else none) else none) else (if ((h.1 17 0 l3.toNatClampNeg) &&& (63 : Int32)) = (25 : Int32) then (if ai_in (l3 + (1 : Int32)) h.2.2.2.2 then (if ai_in (l3 + (2 : Int32)) h.2.2.2.2 then (if ai_in (l3 + (3 : Int32)) h.2.2.2.2 then (if ai_in (l3 + (4 : Int32)) h.2.2.2.2 then (if ai_in (l3 + (5 : Int32)) h.2.2.2.2 then (if ai_in (l3 + (6 : Int32)) h.2.2.2.2 then (sh_b2 (f_CB_price N (h.1 17 0 (l3 + (1 : Int32)).toNatClampNeg) (h.1 17 0 (l3 + (2 : Int32)).toNatClampNeg) (h.1 17 0 (l3 + (3 : Int32)).toNatClampNeg) (h.1 17 0 (l3 + (4 : Int32)).toNatClampNeg) (h.1 17 0 (l3 + (5 : Int32)).toNatClampNeg) (h.1 17 0 (l3 + (6 : Int32)).toNatClampNeg) h) (fun v93 h94 => (if ai_in (l3 + (1 : Int32)) h94.2.2.2.2 then (if ai_in (l3 + (2 : Int32)) h94.2.2.2.2 then (if ai_in (l3 + (3 : Int32)) h94.2.2.2.2 then (if ai_in (l3 + (4 : Int32)) h94.2.2.2.2 then (if ai_in (l3 + (5 : Int32)) h94.2.2.2.2 then (if ai_in (l3 + (6 : Int32)) h94.2.2.2.2 then (sh_b2 (f_M_price N (h94.1 17 0 (l3 + (1 : Int32)).toNatClampNeg) (h94.1 17 0 (l3 + (2 : Int32)).toNatClampNeg) (h94.1 17 0 (l3 + (3 : Int32)).toNatClampNeg) (h94.1 17 0 (l3 + (4 : Int32)).toNatClampNeg) (h94.1 17 0 (l3 + (5 : Int32)).toNatClampNeg) (h94.1 17 0 (l3 + (6 : Int32)).toNatClampNeg) h94) (fun v95 h96 => (if (lg_cmp v93 v95) = 0 then f_law_b2107 N k18 l3 h96 else k1249 h96))) else none) else none) else none) else none) else none) else none))) else none) else none) else none) else none) else none) else none) else (if ((h.1 17 0 l3.toNatClampNeg) &&& (63 : Int32)) = (26 : Int32) then (if ai_in (l3 + (1 : Int32)) h.2.2.2.2 then (if ai_in (l3 + (2 : Int32)) h.2.2.2.2 then (if ai_in (l3 + (3 : Int32)) h.2.2.2.2 then (sh_b2 (f_CB_pool N (h.1 17 0 (l3 + (1 : Int32)).toNatClampNeg) (h.1 17 0 (l3 + (2 : Int32)).toNatClampNeg) (h.1 17 0 (l3 + (3 : Int32)).toNatClampNeg) h) (fun v97 h98 => (if ai_in (l3 + (1 : Int32)) h98.2.2.2.2 then (if ai_in (l3 + (2 : Int32)) h98.2.2.2.2 then (if ai_in (l3 + (3 : Int32)) h98.2.2.2.2 then (sh_b2 (f_M_pool N (h98.1 17 0 (l3 + (1 : Int32)).toNatClampNeg) (h98.1 17 0 (l3 + (2 : Int32)).toNatClampNeg) (h98.1 17 0 (l3 + (3 : Int32)).toNatClampNeg) h98) (fun v99 h100 => (if v97 = v99 then f_law_b2107 N k18 l3 h100 else k1292 h100))) else none) else none) else none))) else none) else none) else none) else (if ((h.1 17 0 l3.toNatClampNeg) &&& (63 : Int32)) = (27 : Int32) then (if ai_in (l3 + (1 : Int32)) h.2.2.2.2 then (if ai_in (l3 + (2 : Int32)) h.2.2.2.2 then (if ai_in (l3 + (3 : Int32)) h.2.2.2.2 then (sh_b2 (f_CB_saved N (h.1 17 0 (l3 + (1 : Int32)).toNatClampNeg) (h.1 17 0 (l3 + (2 : Int32)).toNatClampNeg) (h.1 17 0 (l3 + (3 : Int32)).toNatClampNeg) h) (fun v101 h102 => (if ai_in (l3 + (1 : Int32)) h102.2.2.2.2 then (if ai_in (l3 + (2 : Int32)) h102.2.2.2.2 then (if ai_in (l3 + (3 : Int32)) h102.2.2.2.2 then (sh_b2 (f_M_saved N (h102.1 17 0 (l3 + (1 : Int32)).toNatClampNeg) (h102.1 17 0 (l3 + (2 : Int32)).toNatClampNeg) (h102.1 17 0 (l3 + (3 : Int32)).toNatClampNeg) h102) (fun v103 h104 => (if v101 = v103 then f_law_b2107 N k18 l3 h104 else k1335 h104))) else none) else none) else none))) else none) else none) else none) else (if ((h.1 17 0 l3.toNatClampNeg) &&& (63 : Int32)) = (28 : Int32) then (if ai_in (l3 + (1 : Int32)) h.2.2.2.2 then (if ai_in (l3 + (2 : Int32)) h.2.2.2.2 then (if ai_in (l3 + (3 : Int32)) h.2.2.2.2 then (if ai_in (l3 + (4 : Int32)) h.2.2.2.2 then (if ai_in (l3 + (5 : Int32)) h.2.2.2.2 then (if ai_in (l3 + (6 : Int32)) h.2.2.2.2 then (sh_b2 (f_CB_holds N (h.1 17 0 (l3 + (1 : Int32)).toNatClampNeg) (h.1 17 0 (l3 + (2 : Int32)).toNatClampNeg) (h.1 17 0 (l3 + (3 : Int32)).toNatClampNeg) (h.1 17 0 (l3 + (4 : Int32)).toNatClampNeg) (h.1 17 0 (l3 + (5 : Int32)).toNatClampNeg) (h.1 17 0 (l3 + (6 : Int32)).toNatClampNeg) h) (fun v105 h106 => (if ai_in (l3 + (1 : Int32)) h106.2.2.2.2 then (if ai_in (l3 + (2 : Int32)) h106.2.2.2.2 then (if ai_in (l3 + (3 : Int32)) h106.2.2.2.2 then (if ai_in (l3 + (4 : Int32)) h106.2.2.2.2 then (if ai_in (l3 + (5 : Int32)) h106.2.2.2.2 then (if ai_in (l3 + (6 : Int32)) h106.2.2.2.2 then (sh_b2 (f_M_holds N (h106.1 17 0 (l3 + (1 : Int32)).toNatClampNeg) (h106.1 17 0 (l3 + (2 : Int32)).toNatClampNeg) (h106.1 17 0 (l3 + (3 : Int32)).toNatClampNeg) (h106.1 17 0 (l3 + (4 : Int32)).toNatClampNeg) (h106.1 17 0 (l3 + (5 : Int32)).toNatClampNeg) (h106.1 17 0 (l3 + (6 : Int32)).toNatClampNeg) h106) (fun v107 h108 => (if v105 = v107 then f_law_b2107 N k18 l3 h108 else k1410 h108))) else none) else none) else none) else none) else none) else none))) else none) else none) else none) else none) else none) else none) else (if ((h.1 17 0 l3.toNatClampNeg) &&& (63 : Int32)) = (29 : Int32) then (if ai_in (l3 + (1 : Int32)) h.2.2.2.2 then (if ai_in (l3 + (2 : Int32)) h.2.2.2.2 then (if ai_in (l3 + (3 : Int32)) h.2.2.2.2 then (if ai_in (l3 + (4 : Int32)) h.2.2.2.2 then (if (h.1 17 0 (l3 + (4 : Int32)).toNatClampNeg) = 0 then f_law_b1441 N k18 k1479 l3 (h.1 17 0 (l3 + (1 : Int32)).toNatClampNeg) (h.1 17 0 (l3 + (2 : Int32)).toNatClampNeg) (h.1 17 0 (l3 + (3 : Int32)).toNatClampNeg) (0 : Int32) h else f_law_b1441 N k18 k1479 l3 (h.1 17 0 (l3 + (1 : Int32)).toNatClampNeg) (h.1 17 0 (l3 + (2 : Int32)).toNatClampNeg) (h.1 17 0 (l3 + (3 : Int32)).toNatClampNeg) (1 : Int32) h) else none) else none) else none) else none) else (if ((h.1 17 0 l3.toNatClampNeg) &&& (63 : Int32)) = (30 : Int32) then (if ai_in (l3 + (1 : Int32)) h.2.2.2.2 then (if ai_in (l3 + (2 : Int32)) h.2.2.2.2 then (if ai_in (l3 + (3 : Int32)) h.2.2.2.2 then (sh_b2 (f_CB_looked N (h.1 17 0 (l3 + (1 : Int32)).toNatClampNeg) (h.1 17 0 (l3 + (2 : Int32)).toNatClampNeg) (h.1 17 0 (l3 + (3 : Int32)).toNatClampNeg) h) (fun v109 h110 => (if ai_in (l3 + (1 : Int32)) h110.2.2.2.2 then (if ai_in (l3 + (2 : Int32)) h110.2.2.2.2 then (if ai_in (l3 + (3 : Int32)) h110.2.2.2.2 then (sh_b2 (f_M_looked (h110.1 17 0 (l3 + (1 : Int32)).toNatClampNeg) (h110.1 17 0 (l3 + (2 : Int32)).toNatClampNeg) (h110.1 17 0 (l3 + (3 : Int32)).toNatClampNeg) h110) (fun v111 h112 => (if v109 = v111 then f_law_b2107 N k18 l3 h112 else k1522 h112))) else none) else none) else none))) else none) else none) else none) else (if ((h.1 17 0 l3.toNatClampNeg) &&& (63 : Int32)) = (31 : Int32) then (if ai_in (l3 + (1 : Int32)) h.2.2.2.2 then (sh_b2 (f_CB_annul N (h.1 17 0 (l3 + (1 : Int32)).toNatClampNeg) h) (fun v113 h114 => (if ai_in (l3 + (1 : Int32)) h114.2.2.2.2 then (sh_b2 (f_M_annul (h114.1 17 0 (l3 + (1 : Int32)).toNatClampNeg) h114) (fun v115 h116 => (if v113 = v115 then f_law_b2107 N k18 l3 h116 else k1545 h116))) else none))) else none) else (if ((h.1 17 0 l3.toNatClampNeg) &&& (63 : Int32)) = (32 : Int32) then (if ai_in (l3 + (1 : Int32)) h.2.2.2.2 then (if ai_in (l3 + (2 : Int32)) h.2.2.2.2 then (if ai_in (l3 + (3 : Int32)) h.2.2.2.2 then (sh_b2 (f_CB_balance N (h.1 17 0 (l3 + (1 : Int32)).toNatClampNeg) (h.1 17 0 (l3 + (2 : Int32)).toNatClampNeg) (h.1 17 0 (l3 + (3 : Int32)).toNatClampNeg) h) (fun v117 h118 => (if ai_in (l3 + (1 : Int32)) h118.2.2.2.2 then (if ai_in (l3 + (2 : Int32)) h118.2.2.2.2 then (if ai_in (l3 + (3 : Int32)) h118.2.2.2.2 then (Option.bind (f_M_balance N (h118.1 17 0 (l3 + (1 : Int32)).toNatClampNeg) (h118.1 17 0 (l3 + (2 : Int32)).toNatClampNeg) (h118.1 17 0 (l3 + (3 : Int32)).toNatClampNeg) h118) (fun v119 => (if v117 = v119 then f_law_b2107 N k18 l3 h118 else k1588 h118))) else none) else none) else none))) else none) else none) else none) else (if ((h.1 17 0 l3.toNatClampNeg) &&& (63 : Int32)) = (33 : Int32) then (if ai_in (l3 + (1 : Int32)) h.2.2.2.2 then (sh_b2 (f_CB_richest N (h.1 17 0 (l3 + (1 : Int32)).toNatClampNeg) h) (fun v120 h121 => (if ai_in (l3 + (1 : Int32)) h121.2.2.2.2 then (Option.bind (f_M_richest N (h121.1 17 0 (l3 + (1 : Int32)).toNatClampNeg) h121) (fun v122 => (if v120 = v122 then f_law_b2107 N k18 l3 h121 else k1611 h121))) else none))) else none) else (if ((h.1 17 0 l3.toNatClampNeg) &&& (63 : Int32)) = (34 : Int32) then (if ai_in (l3 + (1 : Int32)) h.2.2.2.2 then (if ai_in (l3 + (2 : Int32)) h.2.2.2.2 then (if ai_in (l3 + (3 : Int32)) h.2.2.2.2 then (if ai_in (l3 + (4 : Int32)) h.2.2.2.2 then (sh_b2 (f_CB_jars N (h.1 17 0 (l3 + (1 : Int32)).toNatClampNeg) (h.1 17 0 (l3 + (2 : Int32)).toNatClampNeg) (h.1 17 0 (l3 + (3 : Int32)).toNatClampNeg) (h.1 17 0 (l3 + (4 : Int32)).toNatClampNeg) h) (fun v123 h124 => (if ai_in (l3 + (1 : Int32)) h124.2.2.2.2 then (if ai_in (l3 + (2 : Int32)) h124.2.2.2.2 then (if ai_in (l3 + (3 : Int32)) h124.2.2.2.2 then (if ai_in (l3 + (4 : Int32)) h124.2.2.2.2 then (sh_b2 (f_M_jars N (h124.1 17 0 (l3 + (1 : Int32)).toNatClampNeg) (h124.1 17 0 (l3 + (2 : Int32)).toNatClampNeg) (h124.1 17 0 (l3 + (3 : Int32)).toNatClampNeg) (h124.1 17 0 (l3 + (4 : Int32)).toNatClampNeg) h124) (fun v125 h126 => (if v123 = v125 then f_law_b2107 N k18 l3 h126 else k1664 h126))) else none) else none) else none) else none))) else none) else none) else none) else none) else (if ((h.1 17 0 l3.toNatClampNeg) &&& (63 : Int32)) = (35 : Int32) then (if ai_in (l3 + (1 : Int32)) h.2.2.2.2 then (if ai_in (l3 + (2 : Int32)) h.2.2.2.2 then (if ai_in (l3 + (3 : Int32)) h.2.2.2.2 then (if ai_in (l3 + (4 : Int32)) h.2.2.2.2 then (sh_b2 (f_CB_ends N (h.1 17 0 (l3 + (1 : Int32)).toNatClampNeg) (h.1 17 0 (l3 + (2 : Int32)).toNatClampNeg) (h.1 17 0 (l3 + (3 : Int32)).toNatClampNeg) (h.1 17 0 (l3 + (4 : Int32)).toNatClampNeg) h) (fun v127 h128 => (if ai_in (l3 + (1 : Int32)) h128.2.2.2.2 then (if ai_in (l3 + (2 : Int32)) h128.2.2.2.2 then (if ai_in (l3 + (3 : Int32)) h128.2.2.2.2 then (if ai_in (l3 + (4 : Int32)) h128.2.2.2.2 then (sh_b2 (f_M_ends N (h128.1 17 0 (l3 + (1 : Int32)).toNatClampNeg) (h128.1 17 0 (l3 + (2 : Int32)).toNatClampNeg) (h128.1 17 0 (l3 + (3 : Int32)).toNatClampNeg) (h128.1 17 0 (l3 + (4 : Int32)).toNatClampNeg) h128) (fun v129 h130 => (if v127 = v129 then f_law_b2107 N k18 l3 h130 else k1717 h130))) else none) else none) else none) else none))) else none) else none) else none) else none) else (if ((h.1 17 0 l3.toNatClampNeg) &&& (63 : Int32)) = (36 : Int32) then (if ai_in (l3 + (1 : Int32)) h.2.2.2.2 then (sh_b2 (f_CB_whose N (h.1 17 0 (l3 + (1 : Int32)).toNatClampNeg) h) (fun v131 h132 => (if ai_in (l3 + (1 : Int32)) h132.2.2.2.2 then (sh_b2 (f_M_whose N (h132.1 17 0 (l3 + (1 : Int32)).toNatClampNeg) h132) (fun v133 h134 => (if v131 = v133 then f_law_b2107 N k18 l3 h134 else k1740 h134))) else none))) else none) else (if ((h.1 17 0 l3.toNatClampNeg) &&& (63 : Int32)) = (37 : Int32) then (if ai_in (l3 + (1 : Int32)) h.2.2.2.2 then (if ai_in (l3 + (2 : Int32)) h.2.2.2.2 then (if ai_in (l3 + (3 : Int32)) h.2.2.2.2 then (if (h.1 17 0 (l3 + (3 : Int32)).toNatClampNeg) = 0 then f_law_b1766 N k18 k1800 l3 (h.1 17 0 (l3 + (1 : Int32)).toNatClampNeg) (h.1 17 0 (l3 + (2 : Int32)).toNatClampNeg) (0 : Int32) h else f_law_b1766 N k18 k1800 l3 (h.1 17 0 (l3 + (1 : Int32)).toNatClampNeg) (h.1 17 0 (l3 + (2 : Int32)).toNatClampNeg) (1 : Int32) h) else none) else none) else none) else (if ((h.1 17 0 l3.toNatClampNeg) &&& (63 : Int32)) = (38 : Int32) then (if ai_in (l3 + (1 : Int32)) h.2.2.2.2 then (if ai_in (l3 + (2 : Int32)) h.2.2.2.2 then (if ai_in (l3 + (3 : Int32)) h.2.2.2.2 then (if ai_in (l3 + (4 : Int32)) h.2.2.2.2 then (Option.bind (f_CB_trickle N (h.1 17 0 (l3 + (1 : Int32)).toNatClampNeg) (h.1 17 0 (l3 + (2 : Int32)).toNatClampNeg) (h.1 17 0 (l3 + (3 : Int32)).toNatClampNeg) (h.1 17 0 (l3 + (4 : Int32)).toNatClampNeg) h) (fun v135 => (if ai_in (l3 + (1 : Int32)) h.2.2.2.2 then (if ai_in (l3 + (2 : Int32)) h.2.2.2.2 then (if ai_in (l3 + (3 : Int32)) h.2.2.2.2 then (if ai_in (l3 + (4 : Int32)) h.2.2.2.2 then (Option.bind (f_M_trickle N (h.1 17 0 (l3 + (1 : Int32)).toNatClampNeg) (h.1 17 0 (l3 + (2 : Int32)).toNatClampNeg) (h.1 17 0 (l3 + (3 : Int32)).toNatClampNeg) (h.1 17 0 (l3 + (4 : Int32)).toNatClampNeg) h) (fun v136 => (if v135 = v136 then f_law_b2107 N k18 l3 h else k1853 h))) else none) else none) else none) else none))) else none) else none) else none) else none) else (if ((h.1 17 0 l3.toNatClampNeg) &&& (63 : Int32)) = (39 : Int32) then (if ai_in (l3 + (1 : Int32)) h.2.2.2.2 then (if ai_in (l3 + (2 : Int32)) h.2.2.2.2 then (if ai_in (l3 + (3 : Int32)) h.2.2.2.2 then (if ai_in (l3 + (4 : Int32)) h.2.2.2.2 then (Option.bind (f_CB_trickled N (h.1 17 0 (l3 + (1 : Int32)).toNatClampNeg) (h.1 17 0 (l3 + (2 : Int32)).toNatClampNeg) (h.1 17 0 (l3 + (3 : Int32)).toNatClampNeg) (h.1 17 0 (l3 + (4 : Int32)).toNatClampNeg) h) (fun v137 => (if ai_in (l3 + (1 : Int32)) h.2.2.2.2 then (if ai_in (l3 + (2 : Int32)) h.2.2.2.2 then (if ai_in (l3 + (3 : Int32)) h.2.2.2.2 then (if ai_in (l3 + (4 : Int32)) h.2.2.2.2 then (Option.bind (f_M_trickled N (h.1 17 0 (l3 + (1 : Int32)).toNatClampNeg) (h.1 17 0 (l3 + (2 : Int32)).toNatClampNeg) (h.1 17 0 (l3 + (3 : Int32)).toNatClampNeg) (h.1 17 0 (l3 + (4 : Int32)).toNatClampNeg) h) (fun v138 => (if v137 = v138 then f_law_b2107 N k18 l3 h else k1906 h))) else none) else none) else none) else none))) else none) else none) else none) else none) else (if ((h.1 17 0 l3.toNatClampNeg) &&& (63 : Int32)) = (40 : Int32) then (if ai_in (l3 + (1 : Int32)) h.2.2.2.2 then (if ai_in (l3 + (2 : Int32)) h.2.2.2.2 then (if ai_in (l3 + (3 : Int32)) h.2.2.2.2 then (Option.bind (f_CB_burnAt N (h.1 17 0 (l3 + (1 : Int32)).toNatClampNeg) (h.1 17 0 (l3 + (2 : Int32)).toNatClampNeg) (h.1 17 0 (l3 + (3 : Int32)).toNatClampNeg) h) (fun v139 => (if ai_in (l3 + (1 : Int32)) h.2.2.2.2 then (if ai_in (l3 + (2 : Int32)) h.2.2.2.2 then (if ai_in (l3 + (3 : Int32)) h.2.2.2.2 then (Option.bind (f_M_burnAt N (h.1 17 0 (l3 + (1 : Int32)).toNatClampNeg) (h.1 17 0 (l3 + (2 : Int32)).toNatClampNeg) (h.1 17 0 (l3 + (3 : Int32)).toNatClampNeg) h) (fun v140 => (if v139 = v140 then f_law_b2107 N k18 l3 h else k1949 h))) else none) else none) else none))) else none) else none) else none) else (if ((h.1 17 0 l3.toNatClampNeg) &&& (63 : Int32)) = (41 : Int32) then (if ai_in (l3 + (1 : Int32)) h.2.2.2.2 then (if ai_in (l3 + (2 : Int32)) h.2.2.2.2 then (if ai_in (l3 + (3 : Int32)) h.2.2.2.2 then (if ai_in (l3 + (4 : Int32)) h.2.2.2.2 then (if ai_in (l3 + (5 : Int32)) h.2.2.2.2 then (if ai_in (l3 + (6 : Int32)) h.2.2.2.2 then (if ai_in (l3 + (7 : Int32)) h.2.2.2.2 then (Option.bind (f_CB_sort (h.1 17 0 (l3 + (1 : Int32)).toNatClampNeg) (h.1 17 0 (l3 + (2 : Int32)).toNatClampNeg) (h.1 17 0 (l3 + (3 : Int32)).toNatClampNeg) (h.1 17 0 (l3 + (4 : Int32)).toNatClampNeg) (h.1 17 0 (l3 + (5 : Int32)).toNatClampNeg) (h.1 17 0 (l3 + (6 : Int32)).toNatClampNeg) (h.1 17 0 (l3 + (7 : Int32)).toNatClampNeg) h) (fun v141 => (if ai_in (l3 + (1 : Int32)) h.2.2.2.2 then (if ai_in (l3 + (2 : Int32)) h.2.2.2.2 then (if ai_in (l3 + (3 : Int32)) h.2.2.2.2 then (if ai_in (l3 + (4 : Int32)) h.2.2.2.2 then (if ai_in (l3 + (5 : Int32)) h.2.2.2.2 then (if ai_in (l3 + (6 : Int32)) h.2.2.2.2 then (if ai_in (l3 + (7 : Int32)) h.2.2.2.2 then (Option.bind (f_M_sort (h.1 17 0 (l3 + (1 : Int32)).toNatClampNeg) (h.1 17 0 (l3 + (2 : Int32)).toNatClampNeg) (h.1 17 0 (l3 + (3 : Int32)).toNatClampNeg) (h.1 17 0 (l3 + (4 : Int32)).toNatClampNeg) (h.1 17 0 (l3 + (5 : Int32)).toNatClampNeg) (h.1 17 0 (l3 + (6 : Int32)).toNatClampNeg) (h.1 17 0 (l3 + (7 : Int32)).toNatClampNeg) h) (fun v142 => (if v141 = v142 then f_law_b2107 N k18 l3 h else k2036 h))) else none) else none) else none) else none) else none) else none) else none))) else none) else none) else none) else none) else none) else none) else none) else (if ((h.1 17 0 l3.toNatClampNeg) &&& (63 : Int32)) = (42 : Int32) then (if ai_in (l3 + (1 : Int32)) h.2.2.2.2 then (sh_b2 (f_CB_hold N (h.1 17 0 (l3 + (1 : Int32)).toNatClampNeg) h) (fun v143 h144 => (if ai_in (l3 + (1 : Int32)) h144.2.2.2.2 then (sh_b2 (f_M_hold N (h144.1 17 0 (l3 + (1 : Int32)).toNatClampNeg) h144) (fun v145 h146 => (if v143 = v145 then f_law_b2107 N k18 l3 h146 else k2059 h146))) else none))) else none) else (if ((h.1 17 0 l3.toNatClampNeg) &&& (63 : Int32)) = (43 : Int32) then (if ai_in (l3 + (1 : Int32)) h.2.2.2.2 then (sh_b2 (f_CB_restore N (h.1 17 0 (l3 + (1 : Int32)).toNatClampNeg) h) (fun v147 h148 => (if ai_in (l3 + (1 : Int32)) h148.2.2.2.2 then (sh_b2 (f_M_restore N (h148.1 17 0 (l3 + (1 : Int32)).toNatClampNeg) h148) (fun v149 h150 => (if v147 = v149 then f_law_b2107 N k18 l3 h150 else k2082 h150))) else none))) else none) else (if ((h.1 17 0 l3.toNatClampNeg) &&& (63 : Int32)) = (44 : Int32) then (if ai_in (l3 + (1 : Int32)) h.2.2.2.2 then (Option.bind (f_CB_count (h.1 17 0 (l3 + (1 : Int32)).toNatClampNeg) h) (fun v151 => (if ai_in (l3 + (1 : Int32)) h.2.2.2.2 then (Option.bind (f_M_count (h.1 17 0 (l3 + (1 : Int32)).toNatClampNeg) h) (fun v152 => (if v151 = v152 then f_law_b2107 N k18 l3 h else k2105 h))) else none))) else none) else f_law_b2107 N k18 l3 h))))))))))))))))))))))))))))))))))))))))))))) else none))) (f_law_l18 N k289 k312 k325 k338 k371 k404 k437 k480 k513 k546 k599 k642 k721 k744 k757 k770 k803 k836 k860 k903 k956 k989 k1022 k1098 k1173 k1249 k1292 k1335 k1410 k1479 k1522 k1545 k1588 k1611 k1664 k1717 k1740 k1800 k1853 k1906 k1949 k2036 k2059 k2082 k2105 k2113 n) l3 h) R → _
    generalize f_law_l18 N k289 k312 k325 k338 k371 k404 k437 k480 k513 k546 k599 k642 k721 k744 k757 k770 k803 k836 k860 k903 k956 k989 k1022 k1098 k1173 k1249 k1292 k1335 k1410 k1479 k1522 k1545 k1588 k1611 k1664 k1717 k1740 k1800 k1853 k1906 k1949 k2036 k2059 k2082 k2105 k2113 n = k18
    intro H hk18
    refine ai_WP_steps mc_L (sh_CM d) 6 (And.intro (fun c => ?_) (fun c => ?_))
    · replace H := sh_okT c H
      exact hk2113 h H
    · replace H := sh_okF c H
      show wq_L d Q 27 [oR 17 0, oR 11 0, oR 12 0, oI l3] [] (sh_E h)
      have c := sh_okG H
      replace H := sh_okH H
      refine ai_WP_steps mc_L (sh_CM d) 3 (And.intro c ?_)
      show wq_L d Q 30 [oR 17 0, oR 11 0, oR 12 0, oI l3] [aI (h.1 17 0 l3.toNatClampNeg)] (sh_E h)
      refine ai_WP_steps mc_L (sh_CM d) 3 (And.intro (fun c => ?_) (fun c => ?_))
      · replace H := sh_okT c H
        show wq_L d Q 228 [oR 17 0, oR 11 0, oR 12 0, oI l3] [] (sh_E h)
        have c := sh_okG H
        replace H := sh_okH H
        refine ai_WP_steps mc_L (sh_CM d) 6 (And.intro c ?_)
        show wq_L d Q 234 [oR 17 0, oR 11 0, oR 12 0, oI l3] [aI (h.1 17 0 (l3 + (1 : Int32)).toNatClampNeg), aR 11 0] (sh_E h)
        have c := sh_okG H
        replace H := sh_okH H
        refine ai_WP_steps mc_L (sh_CM d) 5 (And.intro c ?_)
        show wq_L d Q 239 [oR 17 0, oR 11 0, oR 12 0, oI l3] [aI (h.1 17 0 (l3 + (2 : Int32)).toNatClampNeg), aI (h.1 17 0 (l3 + (1 : Int32)).toNatClampNeg), aR 11 0] (sh_E h)
        have c := sh_okG H
        replace H := sh_okH H
        refine ai_WP_steps mc_L (sh_CM d) 5 (And.intro c ?_)
        show wq_L d Q 244 [oR 17 0, oR 11 0, oR 12 0, oI l3] [aI (h.1 17 0 (l3 + (3 : Int32)).toNatClampNeg), aI (h.1 17 0 (l3 + (2 : Int32)).toNatClampNeg), aI (h.1 17 0 (l3 + (1 : Int32)).toNatClampNeg), aR 11 0] (sh_E h)
        have c := sh_okG H
        replace H := sh_okH H
        refine ai_WP_steps mc_L (sh_CM d) 5 (And.intro c ?_)
        show wq_L d Q 249 [oR 17 0, oR 11 0, oR 12 0, oI l3] [aI (h.1 17 0 (l3 + (4 : Int32)).toNatClampNeg), aI (h.1 17 0 (l3 + (3 : Int32)).toNatClampNeg), aI (h.1 17 0 (l3 + (2 : Int32)).toNatClampNeg), aI (h.1 17 0 (l3 + (1 : Int32)).toNatClampNeg), aR 11 0] (sh_E h)
        have c := sh_okG H
        replace H := sh_okH H
        refine ai_WP_steps mc_L (sh_CM d) 5 (And.intro c ?_)
        show wq_L d Q 254 [oR 17 0, oR 11 0, oR 12 0, oI l3] [aI (h.1 17 0 (l3 + (5 : Int32)).toNatClampNeg), aI (h.1 17 0 (l3 + (4 : Int32)).toNatClampNeg), aI (h.1 17 0 (l3 + (3 : Int32)).toNatClampNeg), aI (h.1 17 0 (l3 + (2 : Int32)).toNatClampNeg), aI (h.1 17 0 (l3 + (1 : Int32)).toNatClampNeg), aR 11 0] (sh_E h)
        refine ai_WP_steps mc_L (sh_CM d) 1 (And.intro (Nat.le_of_ble_eq_true rfl) (x_CB_feed N (Nat.le_trans (Nat.le_of_ble_eq_true rfl) hd) (h.1 17 0 (l3 + (1 : Int32)).toNatClampNeg) (h.1 17 0 (l3 + (2 : Int32)).toNatClampNeg) (h.1 17 0 (l3 + (3 : Int32)).toNatClampNeg) (h.1 17 0 (l3 + (4 : Int32)).toNatClampNeg) (h.1 17 0 (l3 + (5 : Int32)).toNatClampNeg) h (sh_okB H) (fun v13 h14 H => ?_)))
        show wq_L d Q 257 [oR 17 0, oR 11 0, oR 12 0, oI l3] [aI v13] (sh_E h14)
        have c := sh_okG H
        replace H := sh_okH H
        refine ai_WP_steps mc_L (sh_CM d) 6 (And.intro c ?_)
        show wq_L d Q 263 [oR 17 0, oR 11 0, oR 12 0, oI l3] [aI (h14.1 17 0 (l3 + (1 : Int32)).toNatClampNeg), aR 12 0, aI v13] (sh_E h14)
        have c := sh_okG H
        replace H := sh_okH H
        refine ai_WP_steps mc_L (sh_CM d) 5 (And.intro c ?_)
        show wq_L d Q 268 [oR 17 0, oR 11 0, oR 12 0, oI l3] [aI (h14.1 17 0 (l3 + (2 : Int32)).toNatClampNeg), aI (h14.1 17 0 (l3 + (1 : Int32)).toNatClampNeg), aR 12 0, aI v13] (sh_E h14)
        have c := sh_okG H
        replace H := sh_okH H
        refine ai_WP_steps mc_L (sh_CM d) 5 (And.intro c ?_)
        show wq_L d Q 273 [oR 17 0, oR 11 0, oR 12 0, oI l3] [aI (h14.1 17 0 (l3 + (3 : Int32)).toNatClampNeg), aI (h14.1 17 0 (l3 + (2 : Int32)).toNatClampNeg), aI (h14.1 17 0 (l3 + (1 : Int32)).toNatClampNeg), aR 12 0, aI v13] (sh_E h14)
        have c := sh_okG H
        replace H := sh_okH H
        refine ai_WP_steps mc_L (sh_CM d) 5 (And.intro c ?_)
        show wq_L d Q 278 [oR 17 0, oR 11 0, oR 12 0, oI l3] [aI (h14.1 17 0 (l3 + (4 : Int32)).toNatClampNeg), aI (h14.1 17 0 (l3 + (3 : Int32)).toNatClampNeg), aI (h14.1 17 0 (l3 + (2 : Int32)).toNatClampNeg), aI (h14.1 17 0 (l3 + (1 : Int32)).toNatClampNeg), aR 12 0, aI v13] (sh_E h14)
        have c := sh_okG H
        replace H := sh_okH H
        refine ai_WP_steps mc_L (sh_CM d) 5 (And.intro c ?_)
        show wq_L d Q 283 [oR 17 0, oR 11 0, oR 12 0, oI l3] [aI (h14.1 17 0 (l3 + (5 : Int32)).toNatClampNeg), aI (h14.1 17 0 (l3 + (4 : Int32)).toNatClampNeg), aI (h14.1 17 0 (l3 + (3 : Int32)).toNatClampNeg), aI (h14.1 17 0 (l3 + (2 : Int32)).toNatClampNeg), aI (h14.1 17 0 (l3 + (1 : Int32)).toNatClampNeg), aR 12 0, aI v13] (sh_E h14)
        refine ai_WP_steps mc_L (sh_CM d) 1 (And.intro (Nat.le_of_ble_eq_true rfl) (x_M_feed N (Nat.le_trans (Nat.le_of_ble_eq_true rfl) hd) (h14.1 17 0 (l3 + (1 : Int32)).toNatClampNeg) (h14.1 17 0 (l3 + (2 : Int32)).toNatClampNeg) (h14.1 17 0 (l3 + (3 : Int32)).toNatClampNeg) (h14.1 17 0 (l3 + (4 : Int32)).toNatClampNeg) (h14.1 17 0 (l3 + (5 : Int32)).toNatClampNeg) h14 (sh_okB H) (fun v15 h16 H => ?_)))
        show wq_L d Q 286 [oR 17 0, oR 11 0, oR 12 0, oI l3] [aI v15, aI v13] (sh_E h16)
        refine ai_WP_steps mc_L (sh_CM d) 1 (And.intro (fun c => ?_) (fun c => ?_))
        · replace H := sh_okT c H
          exact x_law_b2107 N hd hR k18 hk18 l3 h16 H
        · replace H := sh_okF c H
          exact hk289 h16 H
      replace H := sh_okF c H
      refine And.intro (fun c => ?_) (fun c => ?_)
      · replace H := sh_okT c H
        show wq_L d Q 291 [oR 17 0, oR 11 0, oR 12 0, oI l3] [] (sh_E h)
        have c := sh_okG H
        replace H := sh_okH H
        refine ai_WP_steps mc_L (sh_CM d) 6 (And.intro c ?_)
        show wq_L d Q 297 [oR 17 0, oR 11 0, oR 12 0, oI l3] [aI (h.1 17 0 (l3 + (1 : Int32)).toNatClampNeg), aR 11 0] (sh_E h)
        refine ai_WP_steps mc_L (sh_CM d) 1 (And.intro (Nat.le_of_ble_eq_true rfl) (x_CB_back (Nat.le_trans (Nat.le_of_ble_eq_true rfl) hd) (h.1 17 0 (l3 + (1 : Int32)).toNatClampNeg) h (sh_okB H) (fun v17 h18 H => ?_)))
        show wq_L d Q 300 [oR 17 0, oR 11 0, oR 12 0, oI l3] [aI v17] (sh_E h18)
        have c := sh_okG H
        replace H := sh_okH H
        refine ai_WP_steps mc_L (sh_CM d) 6 (And.intro c ?_)
        show wq_L d Q 306 [oR 17 0, oR 11 0, oR 12 0, oI l3] [aI (h18.1 17 0 (l3 + (1 : Int32)).toNatClampNeg), aR 12 0, aI v17] (sh_E h18)
        refine ai_WP_steps mc_L (sh_CM d) 1 (And.intro (Nat.le_of_ble_eq_true rfl) (x_M_back (Nat.le_trans (Nat.le_of_ble_eq_true rfl) hd) (h18.1 17 0 (l3 + (1 : Int32)).toNatClampNeg) h18 (sh_okB H) (fun v19 h20 H => ?_)))
        show wq_L d Q 309 [oR 17 0, oR 11 0, oR 12 0, oI l3] [aI v19, aI v17] (sh_E h20)
        refine ai_WP_steps mc_L (sh_CM d) 1 (And.intro (fun c => ?_) (fun c => ?_))
        · replace H := sh_okT c H
          exact x_law_b2107 N hd hR k18 hk18 l3 h20 H
        · replace H := sh_okF c H
          exact hk312 h20 H
      replace H := sh_okF c H
      refine And.intro (fun c => ?_) (fun c => ?_)
      · replace H := sh_okT c H
        show wq_L d Q 314 [oR 17 0, oR 11 0, oR 12 0, oI l3] [] (sh_E h)
        refine ai_WP_steps mc_L (sh_CM d) 2 (And.intro (Nat.le_of_ble_eq_true rfl) (x_CB_read N (Nat.le_trans (Nat.le_of_ble_eq_true rfl) hd) h (sh_okB H) (fun v21 h22 H => ?_)))
        show wq_L d Q 318 [oR 17 0, oR 11 0, oR 12 0, oI l3] [aI v21] (sh_E h22)
        refine ai_WP_steps mc_L (sh_CM d) 2 (And.intro (Nat.le_of_ble_eq_true rfl) (x_M_read N (Nat.le_trans (Nat.le_of_ble_eq_true rfl) hd) h22 (sh_okB H) (fun v23 h24 H => ?_)))
        show wq_L d Q 322 [oR 17 0, oR 11 0, oR 12 0, oI l3] [aI v23, aI v21] (sh_E h24)
        refine ai_WP_steps mc_L (sh_CM d) 1 (And.intro (fun c => ?_) (fun c => ?_))
        · replace H := sh_okT c H
          exact x_law_b2107 N hd hR k18 hk18 l3 h24 H
        · replace H := sh_okF c H
          exact hk325 h24 H
      replace H := sh_okF c H
      refine And.intro (fun c => ?_) (fun c => ?_)
      · replace H := sh_okT c H
        show wq_L d Q 327 [oR 17 0, oR 11 0, oR 12 0, oI l3] [] (sh_E h)
        refine ai_WP_steps mc_L (sh_CM d) 2 (And.intro (Nat.le_of_ble_eq_true rfl) (x_CB_place (Nat.le_trans (Nat.le_of_ble_eq_true rfl) hd) h (sh_okB H) (fun v25 H => ?_)))
        show wq_L d Q 331 [oR 17 0, oR 11 0, oR 12 0, oI l3] [aI v25] (sh_E h)
        refine ai_WP_steps mc_L (sh_CM d) 2 (And.intro (Nat.le_of_ble_eq_true rfl) (x_M_place (Nat.le_trans (Nat.le_of_ble_eq_true rfl) hd) h (sh_okB H) (fun v26 H => ?_)))
        show wq_L d Q 335 [oR 17 0, oR 11 0, oR 12 0, oI l3] [aI v26, aI v25] (sh_E h)
        refine ai_WP_steps mc_L (sh_CM d) 1 (And.intro (fun c => ?_) (fun c => ?_))
        · replace H := sh_okT c H
          exact x_law_b2107 N hd hR k18 hk18 l3 h H
        · replace H := sh_okF c H
          exact hk338 h H
      replace H := sh_okF c H
      refine And.intro (fun c => ?_) (fun c => ?_)
      · replace H := sh_okT c H
        show wq_L d Q 340 [oR 17 0, oR 11 0, oR 12 0, oI l3] [] (sh_E h)
        have c := sh_okG H
        replace H := sh_okH H
        refine ai_WP_steps mc_L (sh_CM d) 6 (And.intro c ?_)
        show wq_L d Q 346 [oR 17 0, oR 11 0, oR 12 0, oI l3] [aI (h.1 17 0 (l3 + (1 : Int32)).toNatClampNeg), aR 11 0] (sh_E h)
        have c := sh_okG H
        replace H := sh_okH H
        refine ai_WP_steps mc_L (sh_CM d) 5 (And.intro c ?_)
        show wq_L d Q 351 [oR 17 0, oR 11 0, oR 12 0, oI l3] [aI (h.1 17 0 (l3 + (2 : Int32)).toNatClampNeg), aI (h.1 17 0 (l3 + (1 : Int32)).toNatClampNeg), aR 11 0] (sh_E h)
        refine ai_WP_steps mc_L (sh_CM d) 1 (And.intro (Nat.le_of_ble_eq_true rfl) (x_CB_kind (Nat.le_trans (Nat.le_of_ble_eq_true rfl) hd) (h.1 17 0 (l3 + (1 : Int32)).toNatClampNeg) (h.1 17 0 (l3 + (2 : Int32)).toNatClampNeg) h (sh_okB H) (fun v27 H => ?_)))
        show wq_L d Q 354 [oR 17 0, oR 11 0, oR 12 0, oI l3] [aI v27] (sh_E h)
        have c := sh_okG H
        replace H := sh_okH H
        refine ai_WP_steps mc_L (sh_CM d) 6 (And.intro c ?_)
        show wq_L d Q 360 [oR 17 0, oR 11 0, oR 12 0, oI l3] [aI (h.1 17 0 (l3 + (1 : Int32)).toNatClampNeg), aR 12 0, aI v27] (sh_E h)
        have c := sh_okG H
        replace H := sh_okH H
        refine ai_WP_steps mc_L (sh_CM d) 5 (And.intro c ?_)
        show wq_L d Q 365 [oR 17 0, oR 11 0, oR 12 0, oI l3] [aI (h.1 17 0 (l3 + (2 : Int32)).toNatClampNeg), aI (h.1 17 0 (l3 + (1 : Int32)).toNatClampNeg), aR 12 0, aI v27] (sh_E h)
        refine ai_WP_steps mc_L (sh_CM d) 1 (And.intro (Nat.le_of_ble_eq_true rfl) (x_M_kind (Nat.le_trans (Nat.le_of_ble_eq_true rfl) hd) (h.1 17 0 (l3 + (1 : Int32)).toNatClampNeg) (h.1 17 0 (l3 + (2 : Int32)).toNatClampNeg) h (sh_okB H) (fun v28 H => ?_)))
        show wq_L d Q 368 [oR 17 0, oR 11 0, oR 12 0, oI l3] [aI v28, aI v27] (sh_E h)
        refine ai_WP_steps mc_L (sh_CM d) 1 (And.intro (fun c => ?_) (fun c => ?_))
        · replace H := sh_okT c H
          exact x_law_b2107 N hd hR k18 hk18 l3 h H
        · replace H := sh_okF c H
          exact hk371 h H
      replace H := sh_okF c H
      refine And.intro (fun c => ?_) (fun c => ?_)
      · replace H := sh_okT c H
        show wq_L d Q 373 [oR 17 0, oR 11 0, oR 12 0, oI l3] [] (sh_E h)
        have c := sh_okG H
        replace H := sh_okH H
        refine ai_WP_steps mc_L (sh_CM d) 6 (And.intro c ?_)
        show wq_L d Q 379 [oR 17 0, oR 11 0, oR 12 0, oI l3] [aI (h.1 17 0 (l3 + (1 : Int32)).toNatClampNeg), aR 11 0] (sh_E h)
        have c := sh_okG H
        replace H := sh_okH H
        refine ai_WP_steps mc_L (sh_CM d) 5 (And.intro c ?_)
        show wq_L d Q 384 [oR 17 0, oR 11 0, oR 12 0, oI l3] [aI (h.1 17 0 (l3 + (2 : Int32)).toNatClampNeg), aI (h.1 17 0 (l3 + (1 : Int32)).toNatClampNeg), aR 11 0] (sh_E h)
        refine ai_WP_steps mc_L (sh_CM d) 1 (And.intro (Nat.le_of_ble_eq_true rfl) (x_CB_island (Nat.le_trans (Nat.le_of_ble_eq_true rfl) hd) (h.1 17 0 (l3 + (1 : Int32)).toNatClampNeg) (h.1 17 0 (l3 + (2 : Int32)).toNatClampNeg) h (sh_okB H) (fun v29 H => ?_)))
        show wq_L d Q 387 [oR 17 0, oR 11 0, oR 12 0, oI l3] [aI v29] (sh_E h)
        have c := sh_okG H
        replace H := sh_okH H
        refine ai_WP_steps mc_L (sh_CM d) 6 (And.intro c ?_)
        show wq_L d Q 393 [oR 17 0, oR 11 0, oR 12 0, oI l3] [aI (h.1 17 0 (l3 + (1 : Int32)).toNatClampNeg), aR 12 0, aI v29] (sh_E h)
        have c := sh_okG H
        replace H := sh_okH H
        refine ai_WP_steps mc_L (sh_CM d) 5 (And.intro c ?_)
        show wq_L d Q 398 [oR 17 0, oR 11 0, oR 12 0, oI l3] [aI (h.1 17 0 (l3 + (2 : Int32)).toNatClampNeg), aI (h.1 17 0 (l3 + (1 : Int32)).toNatClampNeg), aR 12 0, aI v29] (sh_E h)
        refine ai_WP_steps mc_L (sh_CM d) 1 (And.intro (Nat.le_of_ble_eq_true rfl) (x_M_island (Nat.le_trans (Nat.le_of_ble_eq_true rfl) hd) (h.1 17 0 (l3 + (1 : Int32)).toNatClampNeg) (h.1 17 0 (l3 + (2 : Int32)).toNatClampNeg) h (sh_okB H) (fun v30 H => ?_)))
        show wq_L d Q 401 [oR 17 0, oR 11 0, oR 12 0, oI l3] [aI v30, aI v29] (sh_E h)
        refine ai_WP_steps mc_L (sh_CM d) 1 (And.intro (fun c => ?_) (fun c => ?_))
        · replace H := sh_okT c H
          exact x_law_b2107 N hd hR k18 hk18 l3 h H
        · replace H := sh_okF c H
          exact hk404 h H
      replace H := sh_okF c H
      refine And.intro (fun c => ?_) (fun c => ?_)
      · replace H := sh_okT c H
        show wq_L d Q 406 [oR 17 0, oR 11 0, oR 12 0, oI l3] [] (sh_E h)
        have c := sh_okG H
        replace H := sh_okH H
        refine ai_WP_steps mc_L (sh_CM d) 6 (And.intro c ?_)
        show wq_L d Q 412 [oR 17 0, oR 11 0, oR 12 0, oI l3] [aI (h.1 17 0 (l3 + (1 : Int32)).toNatClampNeg), aR 11 0] (sh_E h)
        have c := sh_okG H
        replace H := sh_okH H
        refine ai_WP_steps mc_L (sh_CM d) 5 (And.intro c ?_)
        show wq_L d Q 417 [oR 17 0, oR 11 0, oR 12 0, oI l3] [aI (h.1 17 0 (l3 + (2 : Int32)).toNatClampNeg), aI (h.1 17 0 (l3 + (1 : Int32)).toNatClampNeg), aR 11 0] (sh_E h)
        refine ai_WP_steps mc_L (sh_CM d) 1 (And.intro (Nat.le_of_ble_eq_true rfl) (x_CB_boat N (Nat.le_trans (Nat.le_of_ble_eq_true rfl) hd) (h.1 17 0 (l3 + (1 : Int32)).toNatClampNeg) (h.1 17 0 (l3 + (2 : Int32)).toNatClampNeg) h (sh_okB H) (fun v31 H => ?_)))
        show wq_L d Q 420 [oR 17 0, oR 11 0, oR 12 0, oI l3] [aI v31] (sh_E h)
        have c := sh_okG H
        replace H := sh_okH H
        refine ai_WP_steps mc_L (sh_CM d) 6 (And.intro c ?_)
        show wq_L d Q 426 [oR 17 0, oR 11 0, oR 12 0, oI l3] [aI (h.1 17 0 (l3 + (1 : Int32)).toNatClampNeg), aR 12 0, aI v31] (sh_E h)
        have c := sh_okG H
        replace H := sh_okH H
        refine ai_WP_steps mc_L (sh_CM d) 5 (And.intro c ?_)
        show wq_L d Q 431 [oR 17 0, oR 11 0, oR 12 0, oI l3] [aI (h.1 17 0 (l3 + (2 : Int32)).toNatClampNeg), aI (h.1 17 0 (l3 + (1 : Int32)).toNatClampNeg), aR 12 0, aI v31] (sh_E h)
        refine ai_WP_steps mc_L (sh_CM d) 1 (And.intro (Nat.le_of_ble_eq_true rfl) (x_M_boat N (Nat.le_trans (Nat.le_of_ble_eq_true rfl) hd) (h.1 17 0 (l3 + (1 : Int32)).toNatClampNeg) (h.1 17 0 (l3 + (2 : Int32)).toNatClampNeg) h (sh_okB H) (fun v32 H => ?_)))
        show wq_L d Q 434 [oR 17 0, oR 11 0, oR 12 0, oI l3] [aI v32, aI v31] (sh_E h)
        refine ai_WP_steps mc_L (sh_CM d) 1 (And.intro (fun c => ?_) (fun c => ?_))
        · replace H := sh_okT c H
          exact x_law_b2107 N hd hR k18 hk18 l3 h H
        · replace H := sh_okF c H
          exact hk437 h H
      replace H := sh_okF c H
      refine And.intro (fun c => ?_) (fun c => ?_)
      · replace H := sh_okT c H
        show wq_L d Q 439 [oR 17 0, oR 11 0, oR 12 0, oI l3] [] (sh_E h)
        have c := sh_okG H
        replace H := sh_okH H
        refine ai_WP_steps mc_L (sh_CM d) 6 (And.intro c ?_)
        show wq_L d Q 445 [oR 17 0, oR 11 0, oR 12 0, oI l3] [aI (h.1 17 0 (l3 + (1 : Int32)).toNatClampNeg), aR 11 0] (sh_E h)
        have c := sh_okG H
        replace H := sh_okH H
        refine ai_WP_steps mc_L (sh_CM d) 5 (And.intro c ?_)
        show wq_L d Q 450 [oR 17 0, oR 11 0, oR 12 0, oI l3] [aI (h.1 17 0 (l3 + (2 : Int32)).toNatClampNeg), aI (h.1 17 0 (l3 + (1 : Int32)).toNatClampNeg), aR 11 0] (sh_E h)
        have c := sh_okG H
        replace H := sh_okH H
        refine ai_WP_steps mc_L (sh_CM d) 5 (And.intro c ?_)
        show wq_L d Q 455 [oR 17 0, oR 11 0, oR 12 0, oI l3] [aI (h.1 17 0 (l3 + (3 : Int32)).toNatClampNeg), aI (h.1 17 0 (l3 + (2 : Int32)).toNatClampNeg), aI (h.1 17 0 (l3 + (1 : Int32)).toNatClampNeg), aR 11 0] (sh_E h)
        refine ai_WP_steps mc_L (sh_CM d) 1 (And.intro (Nat.le_of_ble_eq_true rfl) (x_CB_want N (Nat.le_trans (Nat.le_of_ble_eq_true rfl) hd) (h.1 17 0 (l3 + (1 : Int32)).toNatClampNeg) (h.1 17 0 (l3 + (2 : Int32)).toNatClampNeg) (h.1 17 0 (l3 + (3 : Int32)).toNatClampNeg) h (sh_okB H) (fun v33 h34 H => ?_)))
        show wq_L d Q 458 [oR 17 0, oR 11 0, oR 12 0, oI l3] [aI v33] (sh_E h34)
        have c := sh_okG H
        replace H := sh_okH H
        refine ai_WP_steps mc_L (sh_CM d) 6 (And.intro c ?_)
        show wq_L d Q 464 [oR 17 0, oR 11 0, oR 12 0, oI l3] [aI (h34.1 17 0 (l3 + (1 : Int32)).toNatClampNeg), aR 12 0, aI v33] (sh_E h34)
        have c := sh_okG H
        replace H := sh_okH H
        refine ai_WP_steps mc_L (sh_CM d) 5 (And.intro c ?_)
        show wq_L d Q 469 [oR 17 0, oR 11 0, oR 12 0, oI l3] [aI (h34.1 17 0 (l3 + (2 : Int32)).toNatClampNeg), aI (h34.1 17 0 (l3 + (1 : Int32)).toNatClampNeg), aR 12 0, aI v33] (sh_E h34)
        have c := sh_okG H
        replace H := sh_okH H
        refine ai_WP_steps mc_L (sh_CM d) 5 (And.intro c ?_)
        show wq_L d Q 474 [oR 17 0, oR 11 0, oR 12 0, oI l3] [aI (h34.1 17 0 (l3 + (3 : Int32)).toNatClampNeg), aI (h34.1 17 0 (l3 + (2 : Int32)).toNatClampNeg), aI (h34.1 17 0 (l3 + (1 : Int32)).toNatClampNeg), aR 12 0, aI v33] (sh_E h34)
        refine ai_WP_steps mc_L (sh_CM d) 1 (And.intro (Nat.le_of_ble_eq_true rfl) (x_M_want N (Nat.le_trans (Nat.le_of_ble_eq_true rfl) hd) (h34.1 17 0 (l3 + (1 : Int32)).toNatClampNeg) (h34.1 17 0 (l3 + (2 : Int32)).toNatClampNeg) (h34.1 17 0 (l3 + (3 : Int32)).toNatClampNeg) h34 (sh_okB H) (fun v35 h36 H => ?_)))
        show wq_L d Q 477 [oR 17 0, oR 11 0, oR 12 0, oI l3] [aI v35, aI v33] (sh_E h36)
        refine ai_WP_steps mc_L (sh_CM d) 1 (And.intro (fun c => ?_) (fun c => ?_))
        · replace H := sh_okT c H
          exact x_law_b2107 N hd hR k18 hk18 l3 h36 H
        · replace H := sh_okF c H
          exact hk480 h36 H
      replace H := sh_okF c H
      refine And.intro (fun c => ?_) (fun c => ?_)
      · replace H := sh_okT c H
        show wq_L d Q 482 [oR 17 0, oR 11 0, oR 12 0, oI l3] [] (sh_E h)
        have c := sh_okG H
        replace H := sh_okH H
        refine ai_WP_steps mc_L (sh_CM d) 6 (And.intro c ?_)
        show wq_L d Q 488 [oR 17 0, oR 11 0, oR 12 0, oI l3] [aI (h.1 17 0 (l3 + (1 : Int32)).toNatClampNeg), aR 11 0] (sh_E h)
        have c := sh_okG H
        replace H := sh_okH H
        refine ai_WP_steps mc_L (sh_CM d) 5 (And.intro c ?_)
        show wq_L d Q 493 [oR 17 0, oR 11 0, oR 12 0, oI l3] [aI (h.1 17 0 (l3 + (2 : Int32)).toNatClampNeg), aI (h.1 17 0 (l3 + (1 : Int32)).toNatClampNeg), aR 11 0] (sh_E h)
        refine ai_WP_steps mc_L (sh_CM d) 1 (And.intro (Nat.le_of_ble_eq_true rfl) (x_CB_strike N (Nat.le_trans (Nat.le_of_ble_eq_true rfl) hd) (h.1 17 0 (l3 + (1 : Int32)).toNatClampNeg) (h.1 17 0 (l3 + (2 : Int32)).toNatClampNeg) h (sh_okB H) (fun v37 h38 H => ?_)))
        show wq_L d Q 496 [oR 17 0, oR 11 0, oR 12 0, oI l3] [aI v37] (sh_E h38)
        have c := sh_okG H
        replace H := sh_okH H
        refine ai_WP_steps mc_L (sh_CM d) 6 (And.intro c ?_)
        show wq_L d Q 502 [oR 17 0, oR 11 0, oR 12 0, oI l3] [aI (h38.1 17 0 (l3 + (1 : Int32)).toNatClampNeg), aR 12 0, aI v37] (sh_E h38)
        have c := sh_okG H
        replace H := sh_okH H
        refine ai_WP_steps mc_L (sh_CM d) 5 (And.intro c ?_)
        show wq_L d Q 507 [oR 17 0, oR 11 0, oR 12 0, oI l3] [aI (h38.1 17 0 (l3 + (2 : Int32)).toNatClampNeg), aI (h38.1 17 0 (l3 + (1 : Int32)).toNatClampNeg), aR 12 0, aI v37] (sh_E h38)
        refine ai_WP_steps mc_L (sh_CM d) 1 (And.intro (Nat.le_of_ble_eq_true rfl) (x_M_strike N (Nat.le_trans (Nat.le_of_ble_eq_true rfl) hd) (h38.1 17 0 (l3 + (1 : Int32)).toNatClampNeg) (h38.1 17 0 (l3 + (2 : Int32)).toNatClampNeg) h38 (sh_okB H) (fun v39 h40 H => ?_)))
        show wq_L d Q 510 [oR 17 0, oR 11 0, oR 12 0, oI l3] [aI v39, aI v37] (sh_E h40)
        refine ai_WP_steps mc_L (sh_CM d) 1 (And.intro (fun c => ?_) (fun c => ?_))
        · replace H := sh_okT c H
          exact x_law_b2107 N hd hR k18 hk18 l3 h40 H
        · replace H := sh_okF c H
          exact hk513 h40 H
      replace H := sh_okF c H
      refine And.intro (fun c => ?_) (fun c => ?_)
      · replace H := sh_okT c H
        show wq_L d Q 515 [oR 17 0, oR 11 0, oR 12 0, oI l3] [] (sh_E h)
        have c := sh_okG H
        replace H := sh_okH H
        refine ai_WP_steps mc_L (sh_CM d) 6 (And.intro c ?_)
        show wq_L d Q 521 [oR 17 0, oR 11 0, oR 12 0, oI l3] [aI (h.1 17 0 (l3 + (1 : Int32)).toNatClampNeg), aR 11 0] (sh_E h)
        have c := sh_okG H
        replace H := sh_okH H
        refine ai_WP_steps mc_L (sh_CM d) 5 (And.intro c ?_)
        show wq_L d Q 526 [oR 17 0, oR 11 0, oR 12 0, oI l3] [aI (h.1 17 0 (l3 + (2 : Int32)).toNatClampNeg), aI (h.1 17 0 (l3 + (1 : Int32)).toNatClampNeg), aR 11 0] (sh_E h)
        refine ai_WP_steps mc_L (sh_CM d) 1 (And.intro (Nat.le_of_ble_eq_true rfl) (x_CB_burn N (Nat.le_trans (Nat.le_of_ble_eq_true rfl) hd) (h.1 17 0 (l3 + (1 : Int32)).toNatClampNeg) (h.1 17 0 (l3 + (2 : Int32)).toNatClampNeg) h (sh_okB H) (fun v41 h42 H => ?_)))
        show wq_L d Q 529 [oR 17 0, oR 11 0, oR 12 0, oI l3] [aI v41] (sh_E h42)
        have c := sh_okG H
        replace H := sh_okH H
        refine ai_WP_steps mc_L (sh_CM d) 6 (And.intro c ?_)
        show wq_L d Q 535 [oR 17 0, oR 11 0, oR 12 0, oI l3] [aI (h42.1 17 0 (l3 + (1 : Int32)).toNatClampNeg), aR 12 0, aI v41] (sh_E h42)
        have c := sh_okG H
        replace H := sh_okH H
        refine ai_WP_steps mc_L (sh_CM d) 5 (And.intro c ?_)
        show wq_L d Q 540 [oR 17 0, oR 11 0, oR 12 0, oI l3] [aI (h42.1 17 0 (l3 + (2 : Int32)).toNatClampNeg), aI (h42.1 17 0 (l3 + (1 : Int32)).toNatClampNeg), aR 12 0, aI v41] (sh_E h42)
        refine ai_WP_steps mc_L (sh_CM d) 1 (And.intro (Nat.le_of_ble_eq_true rfl) (x_M_burn N (Nat.le_trans (Nat.le_of_ble_eq_true rfl) hd) (h42.1 17 0 (l3 + (1 : Int32)).toNatClampNeg) (h42.1 17 0 (l3 + (2 : Int32)).toNatClampNeg) h42 (sh_okB H) (fun v43 h44 H => ?_)))
        show wq_L d Q 543 [oR 17 0, oR 11 0, oR 12 0, oI l3] [aI v43, aI v41] (sh_E h44)
        refine ai_WP_steps mc_L (sh_CM d) 1 (And.intro (fun c => ?_) (fun c => ?_))
        · replace H := sh_okT c H
          exact x_law_b2107 N hd hR k18 hk18 l3 h44 H
        · replace H := sh_okF c H
          exact hk546 h44 H
      replace H := sh_okF c H
      refine And.intro (fun c => ?_) (fun c => ?_)
      · replace H := sh_okT c H
        show wq_L d Q 548 [oR 17 0, oR 11 0, oR 12 0, oI l3] [] (sh_E h)
        have c := sh_okG H
        replace H := sh_okH H
        refine ai_WP_steps mc_L (sh_CM d) 6 (And.intro c ?_)
        show wq_L d Q 554 [oR 17 0, oR 11 0, oR 12 0, oI l3] [aI (h.1 17 0 (l3 + (1 : Int32)).toNatClampNeg), aR 11 0] (sh_E h)
        have c := sh_okG H
        replace H := sh_okH H
        refine ai_WP_steps mc_L (sh_CM d) 5 (And.intro c ?_)
        show wq_L d Q 559 [oR 17 0, oR 11 0, oR 12 0, oI l3] [aI (h.1 17 0 (l3 + (2 : Int32)).toNatClampNeg), aI (h.1 17 0 (l3 + (1 : Int32)).toNatClampNeg), aR 11 0] (sh_E h)
        have c := sh_okG H
        replace H := sh_okH H
        refine ai_WP_steps mc_L (sh_CM d) 5 (And.intro c ?_)
        show wq_L d Q 564 [oR 17 0, oR 11 0, oR 12 0, oI l3] [aI (h.1 17 0 (l3 + (3 : Int32)).toNatClampNeg), aI (h.1 17 0 (l3 + (2 : Int32)).toNatClampNeg), aI (h.1 17 0 (l3 + (1 : Int32)).toNatClampNeg), aR 11 0] (sh_E h)
        have c := sh_okG H
        replace H := sh_okH H
        refine ai_WP_steps mc_L (sh_CM d) 5 (And.intro c ?_)
        show wq_L d Q 569 [oR 17 0, oR 11 0, oR 12 0, oI l3] [aI (h.1 17 0 (l3 + (4 : Int32)).toNatClampNeg), aI (h.1 17 0 (l3 + (3 : Int32)).toNatClampNeg), aI (h.1 17 0 (l3 + (2 : Int32)).toNatClampNeg), aI (h.1 17 0 (l3 + (1 : Int32)).toNatClampNeg), aR 11 0] (sh_E h)
        refine ai_WP_steps mc_L (sh_CM d) 1 (And.intro (Nat.le_of_ble_eq_true rfl) (x_CB_lay (Nat.le_trans (Nat.le_of_ble_eq_true rfl) hd) (h.1 17 0 (l3 + (1 : Int32)).toNatClampNeg) (h.1 17 0 (l3 + (2 : Int32)).toNatClampNeg) (h.1 17 0 (l3 + (3 : Int32)).toNatClampNeg) (h.1 17 0 (l3 + (4 : Int32)).toNatClampNeg) h (sh_okB H) (fun v45 h46 H => ?_)))
        show wq_L d Q 572 [oR 17 0, oR 11 0, oR 12 0, oI l3] [aI v45] (sh_E h46)
        have c := sh_okG H
        replace H := sh_okH H
        refine ai_WP_steps mc_L (sh_CM d) 6 (And.intro c ?_)
        show wq_L d Q 578 [oR 17 0, oR 11 0, oR 12 0, oI l3] [aI (h46.1 17 0 (l3 + (1 : Int32)).toNatClampNeg), aR 12 0, aI v45] (sh_E h46)
        have c := sh_okG H
        replace H := sh_okH H
        refine ai_WP_steps mc_L (sh_CM d) 5 (And.intro c ?_)
        show wq_L d Q 583 [oR 17 0, oR 11 0, oR 12 0, oI l3] [aI (h46.1 17 0 (l3 + (2 : Int32)).toNatClampNeg), aI (h46.1 17 0 (l3 + (1 : Int32)).toNatClampNeg), aR 12 0, aI v45] (sh_E h46)
        have c := sh_okG H
        replace H := sh_okH H
        refine ai_WP_steps mc_L (sh_CM d) 5 (And.intro c ?_)
        show wq_L d Q 588 [oR 17 0, oR 11 0, oR 12 0, oI l3] [aI (h46.1 17 0 (l3 + (3 : Int32)).toNatClampNeg), aI (h46.1 17 0 (l3 + (2 : Int32)).toNatClampNeg), aI (h46.1 17 0 (l3 + (1 : Int32)).toNatClampNeg), aR 12 0, aI v45] (sh_E h46)
        have c := sh_okG H
        replace H := sh_okH H
        refine ai_WP_steps mc_L (sh_CM d) 5 (And.intro c ?_)
        show wq_L d Q 593 [oR 17 0, oR 11 0, oR 12 0, oI l3] [aI (h46.1 17 0 (l3 + (4 : Int32)).toNatClampNeg), aI (h46.1 17 0 (l3 + (3 : Int32)).toNatClampNeg), aI (h46.1 17 0 (l3 + (2 : Int32)).toNatClampNeg), aI (h46.1 17 0 (l3 + (1 : Int32)).toNatClampNeg), aR 12 0, aI v45] (sh_E h46)
        refine ai_WP_steps mc_L (sh_CM d) 1 (And.intro (Nat.le_of_ble_eq_true rfl) (x_M_lay (Nat.le_trans (Nat.le_of_ble_eq_true rfl) hd) (h46.1 17 0 (l3 + (1 : Int32)).toNatClampNeg) (h46.1 17 0 (l3 + (2 : Int32)).toNatClampNeg) (h46.1 17 0 (l3 + (3 : Int32)).toNatClampNeg) (h46.1 17 0 (l3 + (4 : Int32)).toNatClampNeg) h46 (sh_okB H) (fun v47 h48 H => ?_)))
        show wq_L d Q 596 [oR 17 0, oR 11 0, oR 12 0, oI l3] [aI v47, aI v45] (sh_E h48)
        refine ai_WP_steps mc_L (sh_CM d) 1 (And.intro (fun c => ?_) (fun c => ?_))
        · replace H := sh_okT c H
          exact x_law_b2107 N hd hR k18 hk18 l3 h48 H
        · replace H := sh_okF c H
          exact hk599 h48 H
      replace H := sh_okF c H
      refine And.intro (fun c => ?_) (fun c => ?_)
      · replace H := sh_okT c H
        show wq_L d Q 601 [oR 17 0, oR 11 0, oR 12 0, oI l3] [] (sh_E h)
        have c := sh_okG H
        replace H := sh_okH H
        refine ai_WP_steps mc_L (sh_CM d) 6 (And.intro c ?_)
        show wq_L d Q 607 [oR 17 0, oR 11 0, oR 12 0, oI l3] [aI (h.1 17 0 (l3 + (1 : Int32)).toNatClampNeg), aR 11 0] (sh_E h)
        have c := sh_okG H
        replace H := sh_okH H
        refine ai_WP_steps mc_L (sh_CM d) 5 (And.intro c ?_)
        show wq_L d Q 612 [oR 17 0, oR 11 0, oR 12 0, oI l3] [aI (h.1 17 0 (l3 + (2 : Int32)).toNatClampNeg), aI (h.1 17 0 (l3 + (1 : Int32)).toNatClampNeg), aR 11 0] (sh_E h)
        have c := sh_okG H
        replace H := sh_okH H
        refine ai_WP_steps mc_L (sh_CM d) 5 (And.intro c ?_)
        show wq_L d Q 617 [oR 17 0, oR 11 0, oR 12 0, oI l3] [aI (h.1 17 0 (l3 + (3 : Int32)).toNatClampNeg), aI (h.1 17 0 (l3 + (2 : Int32)).toNatClampNeg), aI (h.1 17 0 (l3 + (1 : Int32)).toNatClampNeg), aR 11 0] (sh_E h)
        refine ai_WP_steps mc_L (sh_CM d) 1 (And.intro (Nat.le_of_ble_eq_true rfl) (x_CB_has N (Nat.le_trans (Nat.le_of_ble_eq_true rfl) hd) (h.1 17 0 (l3 + (1 : Int32)).toNatClampNeg) (h.1 17 0 (l3 + (2 : Int32)).toNatClampNeg) (h.1 17 0 (l3 + (3 : Int32)).toNatClampNeg) h (sh_okB H) (fun v49 H => ?_)))
        show wq_L d Q 620 [oR 17 0, oR 11 0, oR 12 0, oI l3] [aI v49] (sh_E h)
        have c := sh_okG H
        replace H := sh_okH H
        refine ai_WP_steps mc_L (sh_CM d) 6 (And.intro c ?_)
        show wq_L d Q 626 [oR 17 0, oR 11 0, oR 12 0, oI l3] [aI (h.1 17 0 (l3 + (1 : Int32)).toNatClampNeg), aR 12 0, aI v49] (sh_E h)
        have c := sh_okG H
        replace H := sh_okH H
        refine ai_WP_steps mc_L (sh_CM d) 5 (And.intro c ?_)
        show wq_L d Q 631 [oR 17 0, oR 11 0, oR 12 0, oI l3] [aI (h.1 17 0 (l3 + (2 : Int32)).toNatClampNeg), aI (h.1 17 0 (l3 + (1 : Int32)).toNatClampNeg), aR 12 0, aI v49] (sh_E h)
        have c := sh_okG H
        replace H := sh_okH H
        refine ai_WP_steps mc_L (sh_CM d) 5 (And.intro c ?_)
        show wq_L d Q 636 [oR 17 0, oR 11 0, oR 12 0, oI l3] [aI (h.1 17 0 (l3 + (3 : Int32)).toNatClampNeg), aI (h.1 17 0 (l3 + (2 : Int32)).toNatClampNeg), aI (h.1 17 0 (l3 + (1 : Int32)).toNatClampNeg), aR 12 0, aI v49] (sh_E h)
        refine ai_WP_steps mc_L (sh_CM d) 1 (And.intro (Nat.le_of_ble_eq_true rfl) (x_M_has N (Nat.le_trans (Nat.le_of_ble_eq_true rfl) hd) (h.1 17 0 (l3 + (1 : Int32)).toNatClampNeg) (h.1 17 0 (l3 + (2 : Int32)).toNatClampNeg) (h.1 17 0 (l3 + (3 : Int32)).toNatClampNeg) h (sh_okB H) (fun v50 H => ?_)))
        show wq_L d Q 639 [oR 17 0, oR 11 0, oR 12 0, oI l3] [aI v50, aI v49] (sh_E h)
        refine ai_WP_steps mc_L (sh_CM d) 1 (And.intro (fun c => ?_) (fun c => ?_))
        · replace H := sh_okT c H
          exact x_law_b2107 N hd hR k18 hk18 l3 h H
        · replace H := sh_okF c H
          exact hk642 h H
      replace H := sh_okF c H
      refine And.intro (fun c => ?_) (fun c => ?_)
      · replace H := sh_okT c H
        show wq_L d Q 644 [oR 17 0, oR 11 0, oR 12 0, oI l3] [] (sh_E h)
        have c := sh_okG H
        replace H := sh_okH H
        refine ai_WP_steps mc_L (sh_CM d) 6 (And.intro c ?_)
        show wq_L d Q 650 [oR 17 0, oR 11 0, oR 12 0, oI l3] [aI (h.1 17 0 (l3 + (1 : Int32)).toNatClampNeg), aR 11 0] (sh_E h)
        have c := sh_okG H
        replace H := sh_okH H
        refine ai_WP_steps mc_L (sh_CM d) 5 (And.intro c ?_)
        show wq_L d Q 655 [oR 17 0, oR 11 0, oR 12 0, oI l3] [aI (h.1 17 0 (l3 + (2 : Int32)).toNatClampNeg), aI (h.1 17 0 (l3 + (1 : Int32)).toNatClampNeg), aR 11 0] (sh_E h)
        have c := sh_okG H
        replace H := sh_okH H
        refine ai_WP_steps mc_L (sh_CM d) 5 (And.intro c ?_)
        show wq_L d Q 660 [oR 17 0, oR 11 0, oR 12 0, oI l3] [aI (h.1 17 0 (l3 + (3 : Int32)).toNatClampNeg), aI (h.1 17 0 (l3 + (2 : Int32)).toNatClampNeg), aI (h.1 17 0 (l3 + (1 : Int32)).toNatClampNeg), aR 11 0] (sh_E h)
        have c := sh_okG H
        replace H := sh_okH H
        refine ai_WP_steps mc_L (sh_CM d) 5 (And.intro c ?_)
        show wq_L d Q 665 [oR 17 0, oR 11 0, oR 12 0, oI l3] [aI (h.1 17 0 (l3 + (4 : Int32)).toNatClampNeg), aI (h.1 17 0 (l3 + (3 : Int32)).toNatClampNeg), aI (h.1 17 0 (l3 + (2 : Int32)).toNatClampNeg), aI (h.1 17 0 (l3 + (1 : Int32)).toNatClampNeg), aR 11 0] (sh_E h)
        have c := sh_okG H
        replace H := sh_okH H
        refine ai_WP_steps mc_L (sh_CM d) 5 (And.intro c ?_)
        show wq_L d Q 670 [oR 17 0, oR 11 0, oR 12 0, oI l3] [aI (h.1 17 0 (l3 + (5 : Int32)).toNatClampNeg), aI (h.1 17 0 (l3 + (4 : Int32)).toNatClampNeg), aI (h.1 17 0 (l3 + (3 : Int32)).toNatClampNeg), aI (h.1 17 0 (l3 + (2 : Int32)).toNatClampNeg), aI (h.1 17 0 (l3 + (1 : Int32)).toNatClampNeg), aR 11 0] (sh_E h)
        refine ai_WP_steps mc_L (sh_CM d) 1 (And.intro (fun c => ?_) (fun c => ?_))
        · replace H := sh_okT c H
          show wq_L d Q 677 [oR 17 0, oR 11 0, oR 12 0, oI l3] [aI (h.1 17 0 (l3 + (4 : Int32)).toNatClampNeg), aI (h.1 17 0 (l3 + (3 : Int32)).toNatClampNeg), aI (h.1 17 0 (l3 + (2 : Int32)).toNatClampNeg), aI (h.1 17 0 (l3 + (1 : Int32)).toNatClampNeg), aR 11 0] (sh_E h)
          refine ai_WP_steps mc_L (sh_CM d) 1 ?_
          exact x_law_b678 N hd hR k18 hk18 k721 hk721 l3 (h.1 17 0 (l3 + (1 : Int32)).toNatClampNeg) (h.1 17 0 (l3 + (2 : Int32)).toNatClampNeg) (h.1 17 0 (l3 + (3 : Int32)).toNatClampNeg) (h.1 17 0 (l3 + (4 : Int32)).toNatClampNeg) (0 : Int32) h H
        · replace H := sh_okF c H
          show wq_L d Q 673 [oR 17 0, oR 11 0, oR 12 0, oI l3] [aI (h.1 17 0 (l3 + (4 : Int32)).toNatClampNeg), aI (h.1 17 0 (l3 + (3 : Int32)).toNatClampNeg), aI (h.1 17 0 (l3 + (2 : Int32)).toNatClampNeg), aI (h.1 17 0 (l3 + (1 : Int32)).toNatClampNeg), aR 11 0] (sh_E h)
          refine ai_WP_steps mc_L (sh_CM d) 2 ?_
          exact x_law_b678 N hd hR k18 hk18 k721 hk721 l3 (h.1 17 0 (l3 + (1 : Int32)).toNatClampNeg) (h.1 17 0 (l3 + (2 : Int32)).toNatClampNeg) (h.1 17 0 (l3 + (3 : Int32)).toNatClampNeg) (h.1 17 0 (l3 + (4 : Int32)).toNatClampNeg) (1 : Int32) h H
      replace H := sh_okF c H
      refine And.intro (fun c => ?_) (fun c => ?_)
      · replace H := sh_okT c H
        show wq_L d Q 723 [oR 17 0, oR 11 0, oR 12 0, oI l3] [] (sh_E h)
        have c := sh_okG H
        replace H := sh_okH H
        refine ai_WP_steps mc_L (sh_CM d) 6 (And.intro c ?_)
        show wq_L d Q 729 [oR 17 0, oR 11 0, oR 12 0, oI l3] [aI (h.1 17 0 (l3 + (1 : Int32)).toNatClampNeg), aR 11 0] (sh_E h)
        refine ai_WP_steps mc_L (sh_CM d) 1 (And.intro (Nat.le_of_ble_eq_true rfl) (x_CB_done (Nat.le_trans (Nat.le_of_ble_eq_true rfl) hd) (h.1 17 0 (l3 + (1 : Int32)).toNatClampNeg) h (sh_okB H) (fun v51 H => ?_)))
        show wq_L d Q 732 [oR 17 0, oR 11 0, oR 12 0, oI l3] [aI v51] (sh_E h)
        have c := sh_okG H
        replace H := sh_okH H
        refine ai_WP_steps mc_L (sh_CM d) 6 (And.intro c ?_)
        show wq_L d Q 738 [oR 17 0, oR 11 0, oR 12 0, oI l3] [aI (h.1 17 0 (l3 + (1 : Int32)).toNatClampNeg), aR 12 0, aI v51] (sh_E h)
        refine ai_WP_steps mc_L (sh_CM d) 1 (And.intro (Nat.le_of_ble_eq_true rfl) (x_M_done (Nat.le_trans (Nat.le_of_ble_eq_true rfl) hd) (h.1 17 0 (l3 + (1 : Int32)).toNatClampNeg) h (sh_okB H) (fun v52 H => ?_)))
        show wq_L d Q 741 [oR 17 0, oR 11 0, oR 12 0, oI l3] [aI v52, aI v51] (sh_E h)
        refine ai_WP_steps mc_L (sh_CM d) 1 (And.intro (fun c => ?_) (fun c => ?_))
        · replace H := sh_okT c H
          exact x_law_b2107 N hd hR k18 hk18 l3 h H
        · replace H := sh_okF c H
          exact hk744 h H
      replace H := sh_okF c H
      refine And.intro (fun c => ?_) (fun c => ?_)
      · replace H := sh_okT c H
        show wq_L d Q 746 [oR 17 0, oR 11 0, oR 12 0, oI l3] [] (sh_E h)
        refine ai_WP_steps mc_L (sh_CM d) 2 (And.intro (Nat.le_of_ble_eq_true rfl) (x_CB_judge N (Nat.le_trans (Nat.le_of_ble_eq_true rfl) hd) h (sh_okB H) (fun v53 h54 H => ?_)))
        show wq_L d Q 750 [oR 17 0, oR 11 0, oR 12 0, oI l3] [aI v53] (sh_E h54)
        refine ai_WP_steps mc_L (sh_CM d) 2 (And.intro (Nat.le_of_ble_eq_true rfl) (x_M_judge N (Nat.le_trans (Nat.le_of_ble_eq_true rfl) hd) h54 (sh_okB H) (fun v55 h56 H => ?_)))
        show wq_L d Q 754 [oR 17 0, oR 11 0, oR 12 0, oI l3] [aI v55, aI v53] (sh_E h56)
        refine ai_WP_steps mc_L (sh_CM d) 1 (And.intro (fun c => ?_) (fun c => ?_))
        · replace H := sh_okT c H
          exact x_law_b2107 N hd hR k18 hk18 l3 h56 H
        · replace H := sh_okF c H
          exact hk757 h56 H
      replace H := sh_okF c H
      refine And.intro (fun c => ?_) (fun c => ?_)
      · replace H := sh_okT c H
        show wq_L d Q 759 [oR 17 0, oR 11 0, oR 12 0, oI l3] [] (sh_E h)
        refine ai_WP_steps mc_L (sh_CM d) 2 (And.intro (Nat.le_of_ble_eq_true rfl) (x_CB_why N (Nat.le_trans (Nat.le_of_ble_eq_true rfl) hd) h (sh_okB H) (fun v57 h58 H => ?_)))
        show wq_L d Q 763 [oR 17 0, oR 11 0, oR 12 0, oI l3] [aI v57] (sh_E h58)
        refine ai_WP_steps mc_L (sh_CM d) 2 (And.intro (Nat.le_of_ble_eq_true rfl) (x_M_why N (Nat.le_trans (Nat.le_of_ble_eq_true rfl) hd) h58 (sh_okB H) (fun v59 h60 H => ?_)))
        show wq_L d Q 767 [oR 17 0, oR 11 0, oR 12 0, oI l3] [aI v59, aI v57] (sh_E h60)
        refine ai_WP_steps mc_L (sh_CM d) 1 (And.intro (fun c => ?_) (fun c => ?_))
        · replace H := sh_okT c H
          exact x_law_b2107 N hd hR k18 hk18 l3 h60 H
        · replace H := sh_okF c H
          exact hk770 h60 H
      replace H := sh_okF c H
      refine And.intro (fun c => ?_) (fun c => ?_)
      · replace H := sh_okT c H
        show wq_L d Q 772 [oR 17 0, oR 11 0, oR 12 0, oI l3] [] (sh_E h)
        have c := sh_okG H
        replace H := sh_okH H
        refine ai_WP_steps mc_L (sh_CM d) 6 (And.intro c ?_)
        show wq_L d Q 778 [oR 17 0, oR 11 0, oR 12 0, oI l3] [aI (h.1 17 0 (l3 + (1 : Int32)).toNatClampNeg), aR 11 0] (sh_E h)
        have c := sh_okG H
        replace H := sh_okH H
        refine ai_WP_steps mc_L (sh_CM d) 5 (And.intro c ?_)
        show wq_L d Q 783 [oR 17 0, oR 11 0, oR 12 0, oI l3] [aI (h.1 17 0 (l3 + (2 : Int32)).toNatClampNeg), aI (h.1 17 0 (l3 + (1 : Int32)).toNatClampNeg), aR 11 0] (sh_E h)
        refine ai_WP_steps mc_L (sh_CM d) 1 (And.intro (Nat.le_of_ble_eq_true rfl) (x_CB_months N (Nat.le_trans (Nat.le_of_ble_eq_true rfl) hd) (h.1 17 0 (l3 + (1 : Int32)).toNatClampNeg) (h.1 17 0 (l3 + (2 : Int32)).toNatClampNeg) h (sh_okB H) (fun v61 h62 H => ?_)))
        show wq_L d Q 786 [oR 17 0, oR 11 0, oR 12 0, oI l3] [aI v61] (sh_E h62)
        have c := sh_okG H
        replace H := sh_okH H
        refine ai_WP_steps mc_L (sh_CM d) 6 (And.intro c ?_)
        show wq_L d Q 792 [oR 17 0, oR 11 0, oR 12 0, oI l3] [aI (h62.1 17 0 (l3 + (1 : Int32)).toNatClampNeg), aR 12 0, aI v61] (sh_E h62)
        have c := sh_okG H
        replace H := sh_okH H
        refine ai_WP_steps mc_L (sh_CM d) 5 (And.intro c ?_)
        show wq_L d Q 797 [oR 17 0, oR 11 0, oR 12 0, oI l3] [aI (h62.1 17 0 (l3 + (2 : Int32)).toNatClampNeg), aI (h62.1 17 0 (l3 + (1 : Int32)).toNatClampNeg), aR 12 0, aI v61] (sh_E h62)
        refine ai_WP_steps mc_L (sh_CM d) 1 (And.intro (Nat.le_of_ble_eq_true rfl) (x_M_months N (Nat.le_trans (Nat.le_of_ble_eq_true rfl) hd) (h62.1 17 0 (l3 + (1 : Int32)).toNatClampNeg) (h62.1 17 0 (l3 + (2 : Int32)).toNatClampNeg) h62 (sh_okB H) (fun v63 h64 H => ?_)))
        show wq_L d Q 800 [oR 17 0, oR 11 0, oR 12 0, oI l3] [aI v63, aI v61] (sh_E h64)
        refine ai_WP_steps mc_L (sh_CM d) 1 (And.intro (fun c => ?_) (fun c => ?_))
        · replace H := sh_okT c H
          exact x_law_b2107 N hd hR k18 hk18 l3 h64 H
        · replace H := sh_okF c H
          exact hk803 h64 H
      replace H := sh_okF c H
      refine And.intro (fun c => ?_) (fun c => ?_)
      · replace H := sh_okT c H
        show wq_L d Q 805 [oR 17 0, oR 11 0, oR 12 0, oI l3] [] (sh_E h)
        have c := sh_okG H
        replace H := sh_okH H
        refine ai_WP_steps mc_L (sh_CM d) 6 (And.intro c ?_)
        show wq_L d Q 811 [oR 17 0, oR 11 0, oR 12 0, oI l3] [aI (h.1 17 0 (l3 + (1 : Int32)).toNatClampNeg), aR 11 0] (sh_E h)
        have c := sh_okG H
        replace H := sh_okH H
        refine ai_WP_steps mc_L (sh_CM d) 5 (And.intro c ?_)
        show wq_L d Q 816 [oR 17 0, oR 11 0, oR 12 0, oI l3] [aI (h.1 17 0 (l3 + (2 : Int32)).toNatClampNeg), aI (h.1 17 0 (l3 + (1 : Int32)).toNatClampNeg), aR 11 0] (sh_E h)
        refine ai_WP_steps mc_L (sh_CM d) 1 (And.intro (Nat.le_of_ble_eq_true rfl) (x_CB_lacks (Nat.le_trans (Nat.le_of_ble_eq_true rfl) hd) (h.1 17 0 (l3 + (1 : Int32)).toNatClampNeg) (h.1 17 0 (l3 + (2 : Int32)).toNatClampNeg) h (sh_okB H) (fun v65 H => ?_)))
        show wq_L d Q 819 [oR 17 0, oR 11 0, oR 12 0, oI l3] [aI v65] (sh_E h)
        have c := sh_okG H
        replace H := sh_okH H
        refine ai_WP_steps mc_L (sh_CM d) 6 (And.intro c ?_)
        show wq_L d Q 825 [oR 17 0, oR 11 0, oR 12 0, oI l3] [aI (h.1 17 0 (l3 + (1 : Int32)).toNatClampNeg), aR 12 0, aI v65] (sh_E h)
        have c := sh_okG H
        replace H := sh_okH H
        refine ai_WP_steps mc_L (sh_CM d) 5 (And.intro c ?_)
        show wq_L d Q 830 [oR 17 0, oR 11 0, oR 12 0, oI l3] [aI (h.1 17 0 (l3 + (2 : Int32)).toNatClampNeg), aI (h.1 17 0 (l3 + (1 : Int32)).toNatClampNeg), aR 12 0, aI v65] (sh_E h)
        refine ai_WP_steps mc_L (sh_CM d) 1 (And.intro (Nat.le_of_ble_eq_true rfl) (x_M_lacks (Nat.le_trans (Nat.le_of_ble_eq_true rfl) hd) (h.1 17 0 (l3 + (1 : Int32)).toNatClampNeg) (h.1 17 0 (l3 + (2 : Int32)).toNatClampNeg) h (sh_okB H) (fun v66 H => ?_)))
        show wq_L d Q 833 [oR 17 0, oR 11 0, oR 12 0, oI l3] [aI v66, aI v65] (sh_E h)
        refine ai_WP_steps mc_L (sh_CM d) 1 (And.intro (fun c => ?_) (fun c => ?_))
        · replace H := sh_okT c H
          exact x_law_b2107 N hd hR k18 hk18 l3 h H
        · replace H := sh_okF c H
          exact hk836 h H
      replace H := sh_okF c H
      refine And.intro (fun c => ?_) (fun c => ?_)
      · replace H := sh_okT c H
        show wq_L d Q 838 [oR 17 0, oR 11 0, oR 12 0, oI l3] [] (sh_E h)
        have c := sh_okG H
        replace H := sh_okH H
        refine ai_WP_steps mc_L (sh_CM d) 6 (And.intro c ?_)
        show wq_L d Q 844 [oR 17 0, oR 11 0, oR 12 0, oI l3] [aI (h.1 17 0 (l3 + (1 : Int32)).toNatClampNeg), aR 11 0] (sh_E h)
        refine ai_WP_steps mc_L (sh_CM d) 1 (And.intro (Nat.le_of_ble_eq_true rfl) (x_CB_spent (Nat.le_trans (Nat.le_of_ble_eq_true rfl) hd) (h.1 17 0 (l3 + (1 : Int32)).toNatClampNeg) h (sh_okB H) (fun v67 H => ?_)))
        show wq_L d Q 847 [oR 17 0, oR 11 0, oR 12 0, oI l3] [aL v67] (sh_E h)
        have c := sh_okG H
        replace H := sh_okH H
        refine ai_WP_steps mc_L (sh_CM d) 6 (And.intro c ?_)
        show wq_L d Q 853 [oR 17 0, oR 11 0, oR 12 0, oI l3] [aI (h.1 17 0 (l3 + (1 : Int32)).toNatClampNeg), aR 12 0, aL v67] (sh_E h)
        refine ai_WP_steps mc_L (sh_CM d) 1 (And.intro (Nat.le_of_ble_eq_true rfl) (x_M_spent (Nat.le_trans (Nat.le_of_ble_eq_true rfl) hd) (h.1 17 0 (l3 + (1 : Int32)).toNatClampNeg) h (sh_okB H) (fun v68 H => ?_)))
        show wq_L d Q 856 [oR 17 0, oR 11 0, oR 12 0, oI l3] [aL v68, aL v67] (sh_E h)
        refine ai_WP_steps mc_L (sh_CM d) 2 (And.intro (fun c => ?_) (fun c => ?_))
        · replace H := sh_okT c H
          exact x_law_b2107 N hd hR k18 hk18 l3 h H
        · replace H := sh_okF c H
          exact hk860 h H
      replace H := sh_okF c H
      refine And.intro (fun c => ?_) (fun c => ?_)
      · replace H := sh_okT c H
        show wq_L d Q 862 [oR 17 0, oR 11 0, oR 12 0, oI l3] [] (sh_E h)
        have c := sh_okG H
        replace H := sh_okH H
        refine ai_WP_steps mc_L (sh_CM d) 6 (And.intro c ?_)
        show wq_L d Q 868 [oR 17 0, oR 11 0, oR 12 0, oI l3] [aI (h.1 17 0 (l3 + (1 : Int32)).toNatClampNeg), aR 11 0] (sh_E h)
        have c := sh_okG H
        replace H := sh_okH H
        refine ai_WP_steps mc_L (sh_CM d) 5 (And.intro c ?_)
        show wq_L d Q 873 [oR 17 0, oR 11 0, oR 12 0, oI l3] [aI (h.1 17 0 (l3 + (2 : Int32)).toNatClampNeg), aI (h.1 17 0 (l3 + (1 : Int32)).toNatClampNeg), aR 11 0] (sh_E h)
        have c := sh_okG H
        replace H := sh_okH H
        refine ai_WP_steps mc_L (sh_CM d) 5 (And.intro c ?_)
        show wq_L d Q 878 [oR 17 0, oR 11 0, oR 12 0, oI l3] [aI (h.1 17 0 (l3 + (3 : Int32)).toNatClampNeg), aI (h.1 17 0 (l3 + (2 : Int32)).toNatClampNeg), aI (h.1 17 0 (l3 + (1 : Int32)).toNatClampNeg), aR 11 0] (sh_E h)
        refine ai_WP_steps mc_L (sh_CM d) 1 (And.intro (Nat.le_of_ble_eq_true rfl) (x_CB_pay N (Nat.le_trans (Nat.le_of_ble_eq_true rfl) hd) (h.1 17 0 (l3 + (1 : Int32)).toNatClampNeg) (h.1 17 0 (l3 + (2 : Int32)).toNatClampNeg) (h.1 17 0 (l3 + (3 : Int32)).toNatClampNeg) h (sh_okB H) (fun v69 h70 H => ?_)))
        show wq_L d Q 881 [oR 17 0, oR 11 0, oR 12 0, oI l3] [aI v69] (sh_E h70)
        have c := sh_okG H
        replace H := sh_okH H
        refine ai_WP_steps mc_L (sh_CM d) 6 (And.intro c ?_)
        show wq_L d Q 887 [oR 17 0, oR 11 0, oR 12 0, oI l3] [aI (h70.1 17 0 (l3 + (1 : Int32)).toNatClampNeg), aR 12 0, aI v69] (sh_E h70)
        have c := sh_okG H
        replace H := sh_okH H
        refine ai_WP_steps mc_L (sh_CM d) 5 (And.intro c ?_)
        show wq_L d Q 892 [oR 17 0, oR 11 0, oR 12 0, oI l3] [aI (h70.1 17 0 (l3 + (2 : Int32)).toNatClampNeg), aI (h70.1 17 0 (l3 + (1 : Int32)).toNatClampNeg), aR 12 0, aI v69] (sh_E h70)
        have c := sh_okG H
        replace H := sh_okH H
        refine ai_WP_steps mc_L (sh_CM d) 5 (And.intro c ?_)
        show wq_L d Q 897 [oR 17 0, oR 11 0, oR 12 0, oI l3] [aI (h70.1 17 0 (l3 + (3 : Int32)).toNatClampNeg), aI (h70.1 17 0 (l3 + (2 : Int32)).toNatClampNeg), aI (h70.1 17 0 (l3 + (1 : Int32)).toNatClampNeg), aR 12 0, aI v69] (sh_E h70)
        refine ai_WP_steps mc_L (sh_CM d) 1 (And.intro (Nat.le_of_ble_eq_true rfl) (x_M_pay N (Nat.le_trans (Nat.le_of_ble_eq_true rfl) hd) (h70.1 17 0 (l3 + (1 : Int32)).toNatClampNeg) (h70.1 17 0 (l3 + (2 : Int32)).toNatClampNeg) (h70.1 17 0 (l3 + (3 : Int32)).toNatClampNeg) h70 (sh_okB H) (fun v71 h72 H => ?_)))
        show wq_L d Q 900 [oR 17 0, oR 11 0, oR 12 0, oI l3] [aI v71, aI v69] (sh_E h72)
        refine ai_WP_steps mc_L (sh_CM d) 1 (And.intro (fun c => ?_) (fun c => ?_))
        · replace H := sh_okT c H
          exact x_law_b2107 N hd hR k18 hk18 l3 h72 H
        · replace H := sh_okF c H
          exact hk903 h72 H
      replace H := sh_okF c H
      refine And.intro (fun c => ?_) (fun c => ?_)
      · replace H := sh_okT c H
        show wq_L d Q 905 [oR 17 0, oR 11 0, oR 12 0, oI l3] [] (sh_E h)
        have c := sh_okG H
        replace H := sh_okH H
        refine ai_WP_steps mc_L (sh_CM d) 6 (And.intro c ?_)
        show wq_L d Q 911 [oR 17 0, oR 11 0, oR 12 0, oI l3] [aI (h.1 17 0 (l3 + (1 : Int32)).toNatClampNeg), aR 11 0] (sh_E h)
        have c := sh_okG H
        replace H := sh_okH H
        refine ai_WP_steps mc_L (sh_CM d) 5 (And.intro c ?_)
        show wq_L d Q 916 [oR 17 0, oR 11 0, oR 12 0, oI l3] [aI (h.1 17 0 (l3 + (2 : Int32)).toNatClampNeg), aI (h.1 17 0 (l3 + (1 : Int32)).toNatClampNeg), aR 11 0] (sh_E h)
        have c := sh_okG H
        replace H := sh_okH H
        refine ai_WP_steps mc_L (sh_CM d) 5 (And.intro c ?_)
        show wq_L d Q 921 [oR 17 0, oR 11 0, oR 12 0, oI l3] [aI (h.1 17 0 (l3 + (3 : Int32)).toNatClampNeg), aI (h.1 17 0 (l3 + (2 : Int32)).toNatClampNeg), aI (h.1 17 0 (l3 + (1 : Int32)).toNatClampNeg), aR 11 0] (sh_E h)
        have c := sh_okG H
        replace H := sh_okH H
        refine ai_WP_steps mc_L (sh_CM d) 5 (And.intro c ?_)
        show wq_L d Q 926 [oR 17 0, oR 11 0, oR 12 0, oI l3] [aI (h.1 17 0 (l3 + (4 : Int32)).toNatClampNeg), aI (h.1 17 0 (l3 + (3 : Int32)).toNatClampNeg), aI (h.1 17 0 (l3 + (2 : Int32)).toNatClampNeg), aI (h.1 17 0 (l3 + (1 : Int32)).toNatClampNeg), aR 11 0] (sh_E h)
        refine ai_WP_steps mc_L (sh_CM d) 1 (And.intro (Nat.le_of_ble_eq_true rfl) (x_CB_change N (Nat.le_trans (Nat.le_of_ble_eq_true rfl) hd) (h.1 17 0 (l3 + (1 : Int32)).toNatClampNeg) (h.1 17 0 (l3 + (2 : Int32)).toNatClampNeg) (h.1 17 0 (l3 + (3 : Int32)).toNatClampNeg) (h.1 17 0 (l3 + (4 : Int32)).toNatClampNeg) h (sh_okB H) (fun v73 h74 H => ?_)))
        show wq_L d Q 929 [oR 17 0, oR 11 0, oR 12 0, oI l3] [aI v73] (sh_E h74)
        have c := sh_okG H
        replace H := sh_okH H
        refine ai_WP_steps mc_L (sh_CM d) 6 (And.intro c ?_)
        show wq_L d Q 935 [oR 17 0, oR 11 0, oR 12 0, oI l3] [aI (h74.1 17 0 (l3 + (1 : Int32)).toNatClampNeg), aR 12 0, aI v73] (sh_E h74)
        have c := sh_okG H
        replace H := sh_okH H
        refine ai_WP_steps mc_L (sh_CM d) 5 (And.intro c ?_)
        show wq_L d Q 940 [oR 17 0, oR 11 0, oR 12 0, oI l3] [aI (h74.1 17 0 (l3 + (2 : Int32)).toNatClampNeg), aI (h74.1 17 0 (l3 + (1 : Int32)).toNatClampNeg), aR 12 0, aI v73] (sh_E h74)
        have c := sh_okG H
        replace H := sh_okH H
        refine ai_WP_steps mc_L (sh_CM d) 5 (And.intro c ?_)
        show wq_L d Q 945 [oR 17 0, oR 11 0, oR 12 0, oI l3] [aI (h74.1 17 0 (l3 + (3 : Int32)).toNatClampNeg), aI (h74.1 17 0 (l3 + (2 : Int32)).toNatClampNeg), aI (h74.1 17 0 (l3 + (1 : Int32)).toNatClampNeg), aR 12 0, aI v73] (sh_E h74)
        have c := sh_okG H
        replace H := sh_okH H
        refine ai_WP_steps mc_L (sh_CM d) 5 (And.intro c ?_)
        show wq_L d Q 950 [oR 17 0, oR 11 0, oR 12 0, oI l3] [aI (h74.1 17 0 (l3 + (4 : Int32)).toNatClampNeg), aI (h74.1 17 0 (l3 + (3 : Int32)).toNatClampNeg), aI (h74.1 17 0 (l3 + (2 : Int32)).toNatClampNeg), aI (h74.1 17 0 (l3 + (1 : Int32)).toNatClampNeg), aR 12 0, aI v73] (sh_E h74)
        refine ai_WP_steps mc_L (sh_CM d) 1 (And.intro (Nat.le_of_ble_eq_true rfl) (x_M_change N (Nat.le_trans (Nat.le_of_ble_eq_true rfl) hd) (h74.1 17 0 (l3 + (1 : Int32)).toNatClampNeg) (h74.1 17 0 (l3 + (2 : Int32)).toNatClampNeg) (h74.1 17 0 (l3 + (3 : Int32)).toNatClampNeg) (h74.1 17 0 (l3 + (4 : Int32)).toNatClampNeg) h74 (sh_okB H) (fun v75 h76 H => ?_)))
        show wq_L d Q 953 [oR 17 0, oR 11 0, oR 12 0, oI l3] [aI v75, aI v73] (sh_E h76)
        refine ai_WP_steps mc_L (sh_CM d) 1 (And.intro (fun c => ?_) (fun c => ?_))
        · replace H := sh_okT c H
          exact x_law_b2107 N hd hR k18 hk18 l3 h76 H
        · replace H := sh_okF c H
          exact hk956 h76 H
      replace H := sh_okF c H
      refine And.intro (fun c => ?_) (fun c => ?_)
      · replace H := sh_okT c H
        show wq_L d Q 958 [oR 17 0, oR 11 0, oR 12 0, oI l3] [] (sh_E h)
        have c := sh_okG H
        replace H := sh_okH H
        refine ai_WP_steps mc_L (sh_CM d) 6 (And.intro c ?_)
        show wq_L d Q 964 [oR 17 0, oR 11 0, oR 12 0, oI l3] [aI (h.1 17 0 (l3 + (1 : Int32)).toNatClampNeg), aR 11 0] (sh_E h)
        have c := sh_okG H
        replace H := sh_okH H
        refine ai_WP_steps mc_L (sh_CM d) 5 (And.intro c ?_)
        show wq_L d Q 969 [oR 17 0, oR 11 0, oR 12 0, oI l3] [aI (h.1 17 0 (l3 + (2 : Int32)).toNatClampNeg), aI (h.1 17 0 (l3 + (1 : Int32)).toNatClampNeg), aR 11 0] (sh_E h)
        refine ai_WP_steps mc_L (sh_CM d) 1 (And.intro (Nat.le_of_ble_eq_true rfl) (x_CB_which N (Nat.le_trans (Nat.le_of_ble_eq_true rfl) hd) (h.1 17 0 (l3 + (1 : Int32)).toNatClampNeg) (h.1 17 0 (l3 + (2 : Int32)).toNatClampNeg) h (sh_okB H) (fun v77 h78 H => ?_)))
        show wq_L d Q 972 [oR 17 0, oR 11 0, oR 12 0, oI l3] [aI v77] (sh_E h78)
        have c := sh_okG H
        replace H := sh_okH H
        refine ai_WP_steps mc_L (sh_CM d) 6 (And.intro c ?_)
        show wq_L d Q 978 [oR 17 0, oR 11 0, oR 12 0, oI l3] [aI (h78.1 17 0 (l3 + (1 : Int32)).toNatClampNeg), aR 12 0, aI v77] (sh_E h78)
        have c := sh_okG H
        replace H := sh_okH H
        refine ai_WP_steps mc_L (sh_CM d) 5 (And.intro c ?_)
        show wq_L d Q 983 [oR 17 0, oR 11 0, oR 12 0, oI l3] [aI (h78.1 17 0 (l3 + (2 : Int32)).toNatClampNeg), aI (h78.1 17 0 (l3 + (1 : Int32)).toNatClampNeg), aR 12 0, aI v77] (sh_E h78)
        refine ai_WP_steps mc_L (sh_CM d) 1 (And.intro (Nat.le_of_ble_eq_true rfl) (x_M_which N (Nat.le_trans (Nat.le_of_ble_eq_true rfl) hd) (h78.1 17 0 (l3 + (1 : Int32)).toNatClampNeg) (h78.1 17 0 (l3 + (2 : Int32)).toNatClampNeg) h78 (sh_okB H) (fun v79 h80 H => ?_)))
        show wq_L d Q 986 [oR 17 0, oR 11 0, oR 12 0, oI l3] [aI v79, aI v77] (sh_E h80)
        refine ai_WP_steps mc_L (sh_CM d) 1 (And.intro (fun c => ?_) (fun c => ?_))
        · replace H := sh_okT c H
          exact x_law_b2107 N hd hR k18 hk18 l3 h80 H
        · replace H := sh_okF c H
          exact hk989 h80 H
      replace H := sh_okF c H
      refine And.intro (fun c => ?_) (fun c => ?_)
      · replace H := sh_okT c H
        show wq_L d Q 991 [oR 17 0, oR 11 0, oR 12 0, oI l3] [] (sh_E h)
        have c := sh_okG H
        replace H := sh_okH H
        refine ai_WP_steps mc_L (sh_CM d) 6 (And.intro c ?_)
        show wq_L d Q 997 [oR 17 0, oR 11 0, oR 12 0, oI l3] [aI (h.1 17 0 (l3 + (1 : Int32)).toNatClampNeg), aR 11 0] (sh_E h)
        have c := sh_okG H
        replace H := sh_okH H
        refine ai_WP_steps mc_L (sh_CM d) 5 (And.intro c ?_)
        show wq_L d Q 1002 [oR 17 0, oR 11 0, oR 12 0, oI l3] [aI (h.1 17 0 (l3 + (2 : Int32)).toNatClampNeg), aI (h.1 17 0 (l3 + (1 : Int32)).toNatClampNeg), aR 11 0] (sh_E h)
        refine ai_WP_steps mc_L (sh_CM d) 1 (And.intro (Nat.le_of_ble_eq_true rfl) (x_CB_whichSum N (Nat.le_trans (Nat.le_of_ble_eq_true rfl) hd) (h.1 17 0 (l3 + (1 : Int32)).toNatClampNeg) (h.1 17 0 (l3 + (2 : Int32)).toNatClampNeg) h (sh_okB H) (fun v81 h82 H => ?_)))
        show wq_L d Q 1005 [oR 17 0, oR 11 0, oR 12 0, oI l3] [aI v81] (sh_E h82)
        have c := sh_okG H
        replace H := sh_okH H
        refine ai_WP_steps mc_L (sh_CM d) 6 (And.intro c ?_)
        show wq_L d Q 1011 [oR 17 0, oR 11 0, oR 12 0, oI l3] [aI (h82.1 17 0 (l3 + (1 : Int32)).toNatClampNeg), aR 12 0, aI v81] (sh_E h82)
        have c := sh_okG H
        replace H := sh_okH H
        refine ai_WP_steps mc_L (sh_CM d) 5 (And.intro c ?_)
        show wq_L d Q 1016 [oR 17 0, oR 11 0, oR 12 0, oI l3] [aI (h82.1 17 0 (l3 + (2 : Int32)).toNatClampNeg), aI (h82.1 17 0 (l3 + (1 : Int32)).toNatClampNeg), aR 12 0, aI v81] (sh_E h82)
        refine ai_WP_steps mc_L (sh_CM d) 1 (And.intro (Nat.le_of_ble_eq_true rfl) (x_M_whichSum N (Nat.le_trans (Nat.le_of_ble_eq_true rfl) hd) (h82.1 17 0 (l3 + (1 : Int32)).toNatClampNeg) (h82.1 17 0 (l3 + (2 : Int32)).toNatClampNeg) h82 (sh_okB H) (fun v83 h84 H => ?_)))
        show wq_L d Q 1019 [oR 17 0, oR 11 0, oR 12 0, oI l3] [aI v83, aI v81] (sh_E h84)
        refine ai_WP_steps mc_L (sh_CM d) 1 (And.intro (fun c => ?_) (fun c => ?_))
        · replace H := sh_okT c H
          exact x_law_b2107 N hd hR k18 hk18 l3 h84 H
        · replace H := sh_okF c H
          exact hk1022 h84 H
      replace H := sh_okF c H
      refine And.intro (fun c => ?_) (fun c => ?_)
      · replace H := sh_okT c H
        show wq_L d Q 1024 [oR 17 0, oR 11 0, oR 12 0, oI l3] [] (sh_E h)
        have c := sh_okG H
        replace H := sh_okH H
        refine ai_WP_steps mc_L (sh_CM d) 6 (And.intro c ?_)
        show wq_L d Q 1030 [oR 17 0, oR 11 0, oR 12 0, oI l3] [aI (h.1 17 0 (l3 + (1 : Int32)).toNatClampNeg), aR 11 0] (sh_E h)
        have c := sh_okG H
        replace H := sh_okH H
        refine ai_WP_steps mc_L (sh_CM d) 5 (And.intro c ?_)
        show wq_L d Q 1035 [oR 17 0, oR 11 0, oR 12 0, oI l3] [aI (h.1 17 0 (l3 + (2 : Int32)).toNatClampNeg), aI (h.1 17 0 (l3 + (1 : Int32)).toNatClampNeg), aR 11 0] (sh_E h)
        have c := sh_okG H
        replace H := sh_okH H
        refine ai_WP_steps mc_L (sh_CM d) 5 (And.intro c ?_)
        show wq_L d Q 1040 [oR 17 0, oR 11 0, oR 12 0, oI l3] [aI (h.1 17 0 (l3 + (3 : Int32)).toNatClampNeg), aI (h.1 17 0 (l3 + (2 : Int32)).toNatClampNeg), aI (h.1 17 0 (l3 + (1 : Int32)).toNatClampNeg), aR 11 0] (sh_E h)
        have c := sh_okG H
        replace H := sh_okH H
        refine ai_WP_steps mc_L (sh_CM d) 5 (And.intro c ?_)
        show wq_L d Q 1045 [oR 17 0, oR 11 0, oR 12 0, oI l3] [aI (h.1 17 0 (l3 + (4 : Int32)).toNatClampNeg), aI (h.1 17 0 (l3 + (3 : Int32)).toNatClampNeg), aI (h.1 17 0 (l3 + (2 : Int32)).toNatClampNeg), aI (h.1 17 0 (l3 + (1 : Int32)).toNatClampNeg), aR 11 0] (sh_E h)
        have c := sh_okG H
        replace H := sh_okH H
        refine ai_WP_steps mc_L (sh_CM d) 5 (And.intro c ?_)
        show wq_L d Q 1050 [oR 17 0, oR 11 0, oR 12 0, oI l3] [aI (h.1 17 0 (l3 + (5 : Int32)).toNatClampNeg), aI (h.1 17 0 (l3 + (4 : Int32)).toNatClampNeg), aI (h.1 17 0 (l3 + (3 : Int32)).toNatClampNeg), aI (h.1 17 0 (l3 + (2 : Int32)).toNatClampNeg), aI (h.1 17 0 (l3 + (1 : Int32)).toNatClampNeg), aR 11 0] (sh_E h)
        have c := sh_okG H
        replace H := sh_okH H
        refine ai_WP_steps mc_L (sh_CM d) 5 (And.intro c ?_)
        show wq_L d Q 1056 [oR 17 0, oR 11 0, oR 12 0, oI l3] [aI (h.1 17 0 (l3 + (6 : Int32)).toNatClampNeg), aI (h.1 17 0 (l3 + (5 : Int32)).toNatClampNeg), aI (h.1 17 0 (l3 + (4 : Int32)).toNatClampNeg), aI (h.1 17 0 (l3 + (3 : Int32)).toNatClampNeg), aI (h.1 17 0 (l3 + (2 : Int32)).toNatClampNeg), aI (h.1 17 0 (l3 + (1 : Int32)).toNatClampNeg), aR 11 0] (sh_E h)
        refine ai_WP_steps mc_L (sh_CM d) 1 (And.intro (Nat.le_of_ble_eq_true rfl) (x_CB_least N (Nat.le_trans (Nat.le_of_ble_eq_true rfl) hd) (h.1 17 0 (l3 + (1 : Int32)).toNatClampNeg) (h.1 17 0 (l3 + (2 : Int32)).toNatClampNeg) (h.1 17 0 (l3 + (3 : Int32)).toNatClampNeg) (h.1 17 0 (l3 + (4 : Int32)).toNatClampNeg) (h.1 17 0 (l3 + (5 : Int32)).toNatClampNeg) (h.1 17 0 (l3 + (6 : Int32)).toNatClampNeg) h (sh_okB H) (fun v85 h86 H => ?_)))
        show wq_L d Q 1059 [oR 17 0, oR 11 0, oR 12 0, oI l3] [aL v85] (sh_E h86)
        have c := sh_okG H
        replace H := sh_okH H
        refine ai_WP_steps mc_L (sh_CM d) 6 (And.intro c ?_)
        show wq_L d Q 1065 [oR 17 0, oR 11 0, oR 12 0, oI l3] [aI (h86.1 17 0 (l3 + (1 : Int32)).toNatClampNeg), aR 12 0, aL v85] (sh_E h86)
        have c := sh_okG H
        replace H := sh_okH H
        refine ai_WP_steps mc_L (sh_CM d) 5 (And.intro c ?_)
        show wq_L d Q 1070 [oR 17 0, oR 11 0, oR 12 0, oI l3] [aI (h86.1 17 0 (l3 + (2 : Int32)).toNatClampNeg), aI (h86.1 17 0 (l3 + (1 : Int32)).toNatClampNeg), aR 12 0, aL v85] (sh_E h86)
        have c := sh_okG H
        replace H := sh_okH H
        refine ai_WP_steps mc_L (sh_CM d) 5 (And.intro c ?_)
        show wq_L d Q 1075 [oR 17 0, oR 11 0, oR 12 0, oI l3] [aI (h86.1 17 0 (l3 + (3 : Int32)).toNatClampNeg), aI (h86.1 17 0 (l3 + (2 : Int32)).toNatClampNeg), aI (h86.1 17 0 (l3 + (1 : Int32)).toNatClampNeg), aR 12 0, aL v85] (sh_E h86)
        have c := sh_okG H
        replace H := sh_okH H
        refine ai_WP_steps mc_L (sh_CM d) 5 (And.intro c ?_)
        show wq_L d Q 1080 [oR 17 0, oR 11 0, oR 12 0, oI l3] [aI (h86.1 17 0 (l3 + (4 : Int32)).toNatClampNeg), aI (h86.1 17 0 (l3 + (3 : Int32)).toNatClampNeg), aI (h86.1 17 0 (l3 + (2 : Int32)).toNatClampNeg), aI (h86.1 17 0 (l3 + (1 : Int32)).toNatClampNeg), aR 12 0, aL v85] (sh_E h86)
        have c := sh_okG H
        replace H := sh_okH H
        refine ai_WP_steps mc_L (sh_CM d) 5 (And.intro c ?_)
        show wq_L d Q 1085 [oR 17 0, oR 11 0, oR 12 0, oI l3] [aI (h86.1 17 0 (l3 + (5 : Int32)).toNatClampNeg), aI (h86.1 17 0 (l3 + (4 : Int32)).toNatClampNeg), aI (h86.1 17 0 (l3 + (3 : Int32)).toNatClampNeg), aI (h86.1 17 0 (l3 + (2 : Int32)).toNatClampNeg), aI (h86.1 17 0 (l3 + (1 : Int32)).toNatClampNeg), aR 12 0, aL v85] (sh_E h86)
        have c := sh_okG H
        replace H := sh_okH H
        refine ai_WP_steps mc_L (sh_CM d) 5 (And.intro c ?_)
        show wq_L d Q 1091 [oR 17 0, oR 11 0, oR 12 0, oI l3] [aI (h86.1 17 0 (l3 + (6 : Int32)).toNatClampNeg), aI (h86.1 17 0 (l3 + (5 : Int32)).toNatClampNeg), aI (h86.1 17 0 (l3 + (4 : Int32)).toNatClampNeg), aI (h86.1 17 0 (l3 + (3 : Int32)).toNatClampNeg), aI (h86.1 17 0 (l3 + (2 : Int32)).toNatClampNeg), aI (h86.1 17 0 (l3 + (1 : Int32)).toNatClampNeg), aR 12 0, aL v85] (sh_E h86)
        refine ai_WP_steps mc_L (sh_CM d) 1 (And.intro (Nat.le_of_ble_eq_true rfl) (x_M_least N (Nat.le_trans (Nat.le_of_ble_eq_true rfl) hd) (h86.1 17 0 (l3 + (1 : Int32)).toNatClampNeg) (h86.1 17 0 (l3 + (2 : Int32)).toNatClampNeg) (h86.1 17 0 (l3 + (3 : Int32)).toNatClampNeg) (h86.1 17 0 (l3 + (4 : Int32)).toNatClampNeg) (h86.1 17 0 (l3 + (5 : Int32)).toNatClampNeg) (h86.1 17 0 (l3 + (6 : Int32)).toNatClampNeg) h86 (sh_okB H) (fun v87 h88 H => ?_)))
        show wq_L d Q 1094 [oR 17 0, oR 11 0, oR 12 0, oI l3] [aL v87, aL v85] (sh_E h88)
        refine ai_WP_steps mc_L (sh_CM d) 2 (And.intro (fun c => ?_) (fun c => ?_))
        · replace H := sh_okT c H
          exact x_law_b2107 N hd hR k18 hk18 l3 h88 H
        · replace H := sh_okF c H
          exact hk1098 h88 H
      replace H := sh_okF c H
      refine And.intro (fun c => ?_) (fun c => ?_)
      · replace H := sh_okT c H
        show wq_L d Q 1100 [oR 17 0, oR 11 0, oR 12 0, oI l3] [] (sh_E h)
        have c := sh_okG H
        replace H := sh_okH H
        refine ai_WP_steps mc_L (sh_CM d) 6 (And.intro c ?_)
        show wq_L d Q 1106 [oR 17 0, oR 11 0, oR 12 0, oI l3] [aI (h.1 17 0 (l3 + (1 : Int32)).toNatClampNeg), aR 11 0] (sh_E h)
        have c := sh_okG H
        replace H := sh_okH H
        refine ai_WP_steps mc_L (sh_CM d) 5 (And.intro c ?_)
        show wq_L d Q 1111 [oR 17 0, oR 11 0, oR 12 0, oI l3] [aI (h.1 17 0 (l3 + (2 : Int32)).toNatClampNeg), aI (h.1 17 0 (l3 + (1 : Int32)).toNatClampNeg), aR 11 0] (sh_E h)
        have c := sh_okG H
        replace H := sh_okH H
        refine ai_WP_steps mc_L (sh_CM d) 5 (And.intro c ?_)
        show wq_L d Q 1116 [oR 17 0, oR 11 0, oR 12 0, oI l3] [aI (h.1 17 0 (l3 + (3 : Int32)).toNatClampNeg), aI (h.1 17 0 (l3 + (2 : Int32)).toNatClampNeg), aI (h.1 17 0 (l3 + (1 : Int32)).toNatClampNeg), aR 11 0] (sh_E h)
        have c := sh_okG H
        replace H := sh_okH H
        refine ai_WP_steps mc_L (sh_CM d) 5 (And.intro c ?_)
        show wq_L d Q 1121 [oR 17 0, oR 11 0, oR 12 0, oI l3] [aI (h.1 17 0 (l3 + (4 : Int32)).toNatClampNeg), aI (h.1 17 0 (l3 + (3 : Int32)).toNatClampNeg), aI (h.1 17 0 (l3 + (2 : Int32)).toNatClampNeg), aI (h.1 17 0 (l3 + (1 : Int32)).toNatClampNeg), aR 11 0] (sh_E h)
        have c := sh_okG H
        replace H := sh_okH H
        refine ai_WP_steps mc_L (sh_CM d) 5 (And.intro c ?_)
        show wq_L d Q 1126 [oR 17 0, oR 11 0, oR 12 0, oI l3] [aI (h.1 17 0 (l3 + (5 : Int32)).toNatClampNeg), aI (h.1 17 0 (l3 + (4 : Int32)).toNatClampNeg), aI (h.1 17 0 (l3 + (3 : Int32)).toNatClampNeg), aI (h.1 17 0 (l3 + (2 : Int32)).toNatClampNeg), aI (h.1 17 0 (l3 + (1 : Int32)).toNatClampNeg), aR 11 0] (sh_E h)
        have c := sh_okG H
        replace H := sh_okH H
        refine ai_WP_steps mc_L (sh_CM d) 5 (And.intro c ?_)
        show wq_L d Q 1132 [oR 17 0, oR 11 0, oR 12 0, oI l3] [aI (h.1 17 0 (l3 + (6 : Int32)).toNatClampNeg), aI (h.1 17 0 (l3 + (5 : Int32)).toNatClampNeg), aI (h.1 17 0 (l3 + (4 : Int32)).toNatClampNeg), aI (h.1 17 0 (l3 + (3 : Int32)).toNatClampNeg), aI (h.1 17 0 (l3 + (2 : Int32)).toNatClampNeg), aI (h.1 17 0 (l3 + (1 : Int32)).toNatClampNeg), aR 11 0] (sh_E h)
        refine ai_WP_steps mc_L (sh_CM d) 1 (And.intro (Nat.le_of_ble_eq_true rfl) (x_CB_order N (Nat.le_trans (Nat.le_of_ble_eq_true rfl) hd) (h.1 17 0 (l3 + (1 : Int32)).toNatClampNeg) (h.1 17 0 (l3 + (2 : Int32)).toNatClampNeg) (h.1 17 0 (l3 + (3 : Int32)).toNatClampNeg) (h.1 17 0 (l3 + (4 : Int32)).toNatClampNeg) (h.1 17 0 (l3 + (5 : Int32)).toNatClampNeg) (h.1 17 0 (l3 + (6 : Int32)).toNatClampNeg) h (sh_okB H) (fun v89 h90 H => ?_)))
        show wq_L d Q 1135 [oR 17 0, oR 11 0, oR 12 0, oI l3] [aI v89] (sh_E h90)
        have c := sh_okG H
        replace H := sh_okH H
        refine ai_WP_steps mc_L (sh_CM d) 6 (And.intro c ?_)
        show wq_L d Q 1141 [oR 17 0, oR 11 0, oR 12 0, oI l3] [aI (h90.1 17 0 (l3 + (1 : Int32)).toNatClampNeg), aR 12 0, aI v89] (sh_E h90)
        have c := sh_okG H
        replace H := sh_okH H
        refine ai_WP_steps mc_L (sh_CM d) 5 (And.intro c ?_)
        show wq_L d Q 1146 [oR 17 0, oR 11 0, oR 12 0, oI l3] [aI (h90.1 17 0 (l3 + (2 : Int32)).toNatClampNeg), aI (h90.1 17 0 (l3 + (1 : Int32)).toNatClampNeg), aR 12 0, aI v89] (sh_E h90)
        have c := sh_okG H
        replace H := sh_okH H
        refine ai_WP_steps mc_L (sh_CM d) 5 (And.intro c ?_)
        show wq_L d Q 1151 [oR 17 0, oR 11 0, oR 12 0, oI l3] [aI (h90.1 17 0 (l3 + (3 : Int32)).toNatClampNeg), aI (h90.1 17 0 (l3 + (2 : Int32)).toNatClampNeg), aI (h90.1 17 0 (l3 + (1 : Int32)).toNatClampNeg), aR 12 0, aI v89] (sh_E h90)
        have c := sh_okG H
        replace H := sh_okH H
        refine ai_WP_steps mc_L (sh_CM d) 5 (And.intro c ?_)
        show wq_L d Q 1156 [oR 17 0, oR 11 0, oR 12 0, oI l3] [aI (h90.1 17 0 (l3 + (4 : Int32)).toNatClampNeg), aI (h90.1 17 0 (l3 + (3 : Int32)).toNatClampNeg), aI (h90.1 17 0 (l3 + (2 : Int32)).toNatClampNeg), aI (h90.1 17 0 (l3 + (1 : Int32)).toNatClampNeg), aR 12 0, aI v89] (sh_E h90)
        have c := sh_okG H
        replace H := sh_okH H
        refine ai_WP_steps mc_L (sh_CM d) 5 (And.intro c ?_)
        show wq_L d Q 1161 [oR 17 0, oR 11 0, oR 12 0, oI l3] [aI (h90.1 17 0 (l3 + (5 : Int32)).toNatClampNeg), aI (h90.1 17 0 (l3 + (4 : Int32)).toNatClampNeg), aI (h90.1 17 0 (l3 + (3 : Int32)).toNatClampNeg), aI (h90.1 17 0 (l3 + (2 : Int32)).toNatClampNeg), aI (h90.1 17 0 (l3 + (1 : Int32)).toNatClampNeg), aR 12 0, aI v89] (sh_E h90)
        have c := sh_okG H
        replace H := sh_okH H
        refine ai_WP_steps mc_L (sh_CM d) 5 (And.intro c ?_)
        show wq_L d Q 1167 [oR 17 0, oR 11 0, oR 12 0, oI l3] [aI (h90.1 17 0 (l3 + (6 : Int32)).toNatClampNeg), aI (h90.1 17 0 (l3 + (5 : Int32)).toNatClampNeg), aI (h90.1 17 0 (l3 + (4 : Int32)).toNatClampNeg), aI (h90.1 17 0 (l3 + (3 : Int32)).toNatClampNeg), aI (h90.1 17 0 (l3 + (2 : Int32)).toNatClampNeg), aI (h90.1 17 0 (l3 + (1 : Int32)).toNatClampNeg), aR 12 0, aI v89] (sh_E h90)
        refine ai_WP_steps mc_L (sh_CM d) 1 (And.intro (Nat.le_of_ble_eq_true rfl) (x_M_order N (Nat.le_trans (Nat.le_of_ble_eq_true rfl) hd) (h90.1 17 0 (l3 + (1 : Int32)).toNatClampNeg) (h90.1 17 0 (l3 + (2 : Int32)).toNatClampNeg) (h90.1 17 0 (l3 + (3 : Int32)).toNatClampNeg) (h90.1 17 0 (l3 + (4 : Int32)).toNatClampNeg) (h90.1 17 0 (l3 + (5 : Int32)).toNatClampNeg) (h90.1 17 0 (l3 + (6 : Int32)).toNatClampNeg) h90 (sh_okB H) (fun v91 h92 H => ?_)))
        show wq_L d Q 1170 [oR 17 0, oR 11 0, oR 12 0, oI l3] [aI v91, aI v89] (sh_E h92)
        refine ai_WP_steps mc_L (sh_CM d) 1 (And.intro (fun c => ?_) (fun c => ?_))
        · replace H := sh_okT c H
          exact x_law_b2107 N hd hR k18 hk18 l3 h92 H
        · replace H := sh_okF c H
          exact hk1173 h92 H
      replace H := sh_okF c H
      refine And.intro (fun c => ?_) (fun c => ?_)
      · replace H := sh_okT c H
        show wq_L d Q 1175 [oR 17 0, oR 11 0, oR 12 0, oI l3] [] (sh_E h)
        have c := sh_okG H
        replace H := sh_okH H
        refine ai_WP_steps mc_L (sh_CM d) 6 (And.intro c ?_)
        show wq_L d Q 1181 [oR 17 0, oR 11 0, oR 12 0, oI l3] [aI (h.1 17 0 (l3 + (1 : Int32)).toNatClampNeg), aR 11 0] (sh_E h)
        have c := sh_okG H
        replace H := sh_okH H
        refine ai_WP_steps mc_L (sh_CM d) 5 (And.intro c ?_)
        show wq_L d Q 1186 [oR 17 0, oR 11 0, oR 12 0, oI l3] [aI (h.1 17 0 (l3 + (2 : Int32)).toNatClampNeg), aI (h.1 17 0 (l3 + (1 : Int32)).toNatClampNeg), aR 11 0] (sh_E h)
        have c := sh_okG H
        replace H := sh_okH H
        refine ai_WP_steps mc_L (sh_CM d) 5 (And.intro c ?_)
        show wq_L d Q 1191 [oR 17 0, oR 11 0, oR 12 0, oI l3] [aI (h.1 17 0 (l3 + (3 : Int32)).toNatClampNeg), aI (h.1 17 0 (l3 + (2 : Int32)).toNatClampNeg), aI (h.1 17 0 (l3 + (1 : Int32)).toNatClampNeg), aR 11 0] (sh_E h)
        have c := sh_okG H
        replace H := sh_okH H
        refine ai_WP_steps mc_L (sh_CM d) 5 (And.intro c ?_)
        show wq_L d Q 1196 [oR 17 0, oR 11 0, oR 12 0, oI l3] [aI (h.1 17 0 (l3 + (4 : Int32)).toNatClampNeg), aI (h.1 17 0 (l3 + (3 : Int32)).toNatClampNeg), aI (h.1 17 0 (l3 + (2 : Int32)).toNatClampNeg), aI (h.1 17 0 (l3 + (1 : Int32)).toNatClampNeg), aR 11 0] (sh_E h)
        have c := sh_okG H
        replace H := sh_okH H
        refine ai_WP_steps mc_L (sh_CM d) 5 (And.intro c ?_)
        show wq_L d Q 1201 [oR 17 0, oR 11 0, oR 12 0, oI l3] [aI (h.1 17 0 (l3 + (5 : Int32)).toNatClampNeg), aI (h.1 17 0 (l3 + (4 : Int32)).toNatClampNeg), aI (h.1 17 0 (l3 + (3 : Int32)).toNatClampNeg), aI (h.1 17 0 (l3 + (2 : Int32)).toNatClampNeg), aI (h.1 17 0 (l3 + (1 : Int32)).toNatClampNeg), aR 11 0] (sh_E h)
        have c := sh_okG H
        replace H := sh_okH H
        refine ai_WP_steps mc_L (sh_CM d) 5 (And.intro c ?_)
        show wq_L d Q 1207 [oR 17 0, oR 11 0, oR 12 0, oI l3] [aI (h.1 17 0 (l3 + (6 : Int32)).toNatClampNeg), aI (h.1 17 0 (l3 + (5 : Int32)).toNatClampNeg), aI (h.1 17 0 (l3 + (4 : Int32)).toNatClampNeg), aI (h.1 17 0 (l3 + (3 : Int32)).toNatClampNeg), aI (h.1 17 0 (l3 + (2 : Int32)).toNatClampNeg), aI (h.1 17 0 (l3 + (1 : Int32)).toNatClampNeg), aR 11 0] (sh_E h)
        refine ai_WP_steps mc_L (sh_CM d) 1 (And.intro (Nat.le_of_ble_eq_true rfl) (x_CB_price N (Nat.le_trans (Nat.le_of_ble_eq_true rfl) hd) (h.1 17 0 (l3 + (1 : Int32)).toNatClampNeg) (h.1 17 0 (l3 + (2 : Int32)).toNatClampNeg) (h.1 17 0 (l3 + (3 : Int32)).toNatClampNeg) (h.1 17 0 (l3 + (4 : Int32)).toNatClampNeg) (h.1 17 0 (l3 + (5 : Int32)).toNatClampNeg) (h.1 17 0 (l3 + (6 : Int32)).toNatClampNeg) h (sh_okB H) (fun v93 h94 H => ?_)))
        show wq_L d Q 1210 [oR 17 0, oR 11 0, oR 12 0, oI l3] [aL v93] (sh_E h94)
        have c := sh_okG H
        replace H := sh_okH H
        refine ai_WP_steps mc_L (sh_CM d) 6 (And.intro c ?_)
        show wq_L d Q 1216 [oR 17 0, oR 11 0, oR 12 0, oI l3] [aI (h94.1 17 0 (l3 + (1 : Int32)).toNatClampNeg), aR 12 0, aL v93] (sh_E h94)
        have c := sh_okG H
        replace H := sh_okH H
        refine ai_WP_steps mc_L (sh_CM d) 5 (And.intro c ?_)
        show wq_L d Q 1221 [oR 17 0, oR 11 0, oR 12 0, oI l3] [aI (h94.1 17 0 (l3 + (2 : Int32)).toNatClampNeg), aI (h94.1 17 0 (l3 + (1 : Int32)).toNatClampNeg), aR 12 0, aL v93] (sh_E h94)
        have c := sh_okG H
        replace H := sh_okH H
        refine ai_WP_steps mc_L (sh_CM d) 5 (And.intro c ?_)
        show wq_L d Q 1226 [oR 17 0, oR 11 0, oR 12 0, oI l3] [aI (h94.1 17 0 (l3 + (3 : Int32)).toNatClampNeg), aI (h94.1 17 0 (l3 + (2 : Int32)).toNatClampNeg), aI (h94.1 17 0 (l3 + (1 : Int32)).toNatClampNeg), aR 12 0, aL v93] (sh_E h94)
        have c := sh_okG H
        replace H := sh_okH H
        refine ai_WP_steps mc_L (sh_CM d) 5 (And.intro c ?_)
        show wq_L d Q 1231 [oR 17 0, oR 11 0, oR 12 0, oI l3] [aI (h94.1 17 0 (l3 + (4 : Int32)).toNatClampNeg), aI (h94.1 17 0 (l3 + (3 : Int32)).toNatClampNeg), aI (h94.1 17 0 (l3 + (2 : Int32)).toNatClampNeg), aI (h94.1 17 0 (l3 + (1 : Int32)).toNatClampNeg), aR 12 0, aL v93] (sh_E h94)
        have c := sh_okG H
        replace H := sh_okH H
        refine ai_WP_steps mc_L (sh_CM d) 5 (And.intro c ?_)
        show wq_L d Q 1236 [oR 17 0, oR 11 0, oR 12 0, oI l3] [aI (h94.1 17 0 (l3 + (5 : Int32)).toNatClampNeg), aI (h94.1 17 0 (l3 + (4 : Int32)).toNatClampNeg), aI (h94.1 17 0 (l3 + (3 : Int32)).toNatClampNeg), aI (h94.1 17 0 (l3 + (2 : Int32)).toNatClampNeg), aI (h94.1 17 0 (l3 + (1 : Int32)).toNatClampNeg), aR 12 0, aL v93] (sh_E h94)
        have c := sh_okG H
        replace H := sh_okH H
        refine ai_WP_steps mc_L (sh_CM d) 5 (And.intro c ?_)
        show wq_L d Q 1242 [oR 17 0, oR 11 0, oR 12 0, oI l3] [aI (h94.1 17 0 (l3 + (6 : Int32)).toNatClampNeg), aI (h94.1 17 0 (l3 + (5 : Int32)).toNatClampNeg), aI (h94.1 17 0 (l3 + (4 : Int32)).toNatClampNeg), aI (h94.1 17 0 (l3 + (3 : Int32)).toNatClampNeg), aI (h94.1 17 0 (l3 + (2 : Int32)).toNatClampNeg), aI (h94.1 17 0 (l3 + (1 : Int32)).toNatClampNeg), aR 12 0, aL v93] (sh_E h94)
        refine ai_WP_steps mc_L (sh_CM d) 1 (And.intro (Nat.le_of_ble_eq_true rfl) (x_M_price N (Nat.le_trans (Nat.le_of_ble_eq_true rfl) hd) (h94.1 17 0 (l3 + (1 : Int32)).toNatClampNeg) (h94.1 17 0 (l3 + (2 : Int32)).toNatClampNeg) (h94.1 17 0 (l3 + (3 : Int32)).toNatClampNeg) (h94.1 17 0 (l3 + (4 : Int32)).toNatClampNeg) (h94.1 17 0 (l3 + (5 : Int32)).toNatClampNeg) (h94.1 17 0 (l3 + (6 : Int32)).toNatClampNeg) h94 (sh_okB H) (fun v95 h96 H => ?_)))
        show wq_L d Q 1245 [oR 17 0, oR 11 0, oR 12 0, oI l3] [aL v95, aL v93] (sh_E h96)
        refine ai_WP_steps mc_L (sh_CM d) 2 (And.intro (fun c => ?_) (fun c => ?_))
        · replace H := sh_okT c H
          exact x_law_b2107 N hd hR k18 hk18 l3 h96 H
        · replace H := sh_okF c H
          exact hk1249 h96 H
      replace H := sh_okF c H
      refine And.intro (fun c => ?_) (fun c => ?_)
      · replace H := sh_okT c H
        show wq_L d Q 1251 [oR 17 0, oR 11 0, oR 12 0, oI l3] [] (sh_E h)
        have c := sh_okG H
        replace H := sh_okH H
        refine ai_WP_steps mc_L (sh_CM d) 6 (And.intro c ?_)
        show wq_L d Q 1257 [oR 17 0, oR 11 0, oR 12 0, oI l3] [aI (h.1 17 0 (l3 + (1 : Int32)).toNatClampNeg), aR 11 0] (sh_E h)
        have c := sh_okG H
        replace H := sh_okH H
        refine ai_WP_steps mc_L (sh_CM d) 5 (And.intro c ?_)
        show wq_L d Q 1262 [oR 17 0, oR 11 0, oR 12 0, oI l3] [aI (h.1 17 0 (l3 + (2 : Int32)).toNatClampNeg), aI (h.1 17 0 (l3 + (1 : Int32)).toNatClampNeg), aR 11 0] (sh_E h)
        have c := sh_okG H
        replace H := sh_okH H
        refine ai_WP_steps mc_L (sh_CM d) 5 (And.intro c ?_)
        show wq_L d Q 1267 [oR 17 0, oR 11 0, oR 12 0, oI l3] [aI (h.1 17 0 (l3 + (3 : Int32)).toNatClampNeg), aI (h.1 17 0 (l3 + (2 : Int32)).toNatClampNeg), aI (h.1 17 0 (l3 + (1 : Int32)).toNatClampNeg), aR 11 0] (sh_E h)
        refine ai_WP_steps mc_L (sh_CM d) 1 (And.intro (Nat.le_of_ble_eq_true rfl) (x_CB_pool N (Nat.le_trans (Nat.le_of_ble_eq_true rfl) hd) (h.1 17 0 (l3 + (1 : Int32)).toNatClampNeg) (h.1 17 0 (l3 + (2 : Int32)).toNatClampNeg) (h.1 17 0 (l3 + (3 : Int32)).toNatClampNeg) h (sh_okB H) (fun v97 h98 H => ?_)))
        show wq_L d Q 1270 [oR 17 0, oR 11 0, oR 12 0, oI l3] [aI v97] (sh_E h98)
        have c := sh_okG H
        replace H := sh_okH H
        refine ai_WP_steps mc_L (sh_CM d) 6 (And.intro c ?_)
        show wq_L d Q 1276 [oR 17 0, oR 11 0, oR 12 0, oI l3] [aI (h98.1 17 0 (l3 + (1 : Int32)).toNatClampNeg), aR 12 0, aI v97] (sh_E h98)
        have c := sh_okG H
        replace H := sh_okH H
        refine ai_WP_steps mc_L (sh_CM d) 5 (And.intro c ?_)
        show wq_L d Q 1281 [oR 17 0, oR 11 0, oR 12 0, oI l3] [aI (h98.1 17 0 (l3 + (2 : Int32)).toNatClampNeg), aI (h98.1 17 0 (l3 + (1 : Int32)).toNatClampNeg), aR 12 0, aI v97] (sh_E h98)
        have c := sh_okG H
        replace H := sh_okH H
        refine ai_WP_steps mc_L (sh_CM d) 5 (And.intro c ?_)
        show wq_L d Q 1286 [oR 17 0, oR 11 0, oR 12 0, oI l3] [aI (h98.1 17 0 (l3 + (3 : Int32)).toNatClampNeg), aI (h98.1 17 0 (l3 + (2 : Int32)).toNatClampNeg), aI (h98.1 17 0 (l3 + (1 : Int32)).toNatClampNeg), aR 12 0, aI v97] (sh_E h98)
        refine ai_WP_steps mc_L (sh_CM d) 1 (And.intro (Nat.le_of_ble_eq_true rfl) (x_M_pool N (Nat.le_trans (Nat.le_of_ble_eq_true rfl) hd) (h98.1 17 0 (l3 + (1 : Int32)).toNatClampNeg) (h98.1 17 0 (l3 + (2 : Int32)).toNatClampNeg) (h98.1 17 0 (l3 + (3 : Int32)).toNatClampNeg) h98 (sh_okB H) (fun v99 h100 H => ?_)))
        show wq_L d Q 1289 [oR 17 0, oR 11 0, oR 12 0, oI l3] [aI v99, aI v97] (sh_E h100)
        refine ai_WP_steps mc_L (sh_CM d) 1 (And.intro (fun c => ?_) (fun c => ?_))
        · replace H := sh_okT c H
          exact x_law_b2107 N hd hR k18 hk18 l3 h100 H
        · replace H := sh_okF c H
          exact hk1292 h100 H
      replace H := sh_okF c H
      refine And.intro (fun c => ?_) (fun c => ?_)
      · replace H := sh_okT c H
        show wq_L d Q 1294 [oR 17 0, oR 11 0, oR 12 0, oI l3] [] (sh_E h)
        have c := sh_okG H
        replace H := sh_okH H
        refine ai_WP_steps mc_L (sh_CM d) 6 (And.intro c ?_)
        show wq_L d Q 1300 [oR 17 0, oR 11 0, oR 12 0, oI l3] [aI (h.1 17 0 (l3 + (1 : Int32)).toNatClampNeg), aR 11 0] (sh_E h)
        have c := sh_okG H
        replace H := sh_okH H
        refine ai_WP_steps mc_L (sh_CM d) 5 (And.intro c ?_)
        show wq_L d Q 1305 [oR 17 0, oR 11 0, oR 12 0, oI l3] [aI (h.1 17 0 (l3 + (2 : Int32)).toNatClampNeg), aI (h.1 17 0 (l3 + (1 : Int32)).toNatClampNeg), aR 11 0] (sh_E h)
        have c := sh_okG H
        replace H := sh_okH H
        refine ai_WP_steps mc_L (sh_CM d) 5 (And.intro c ?_)
        show wq_L d Q 1310 [oR 17 0, oR 11 0, oR 12 0, oI l3] [aI (h.1 17 0 (l3 + (3 : Int32)).toNatClampNeg), aI (h.1 17 0 (l3 + (2 : Int32)).toNatClampNeg), aI (h.1 17 0 (l3 + (1 : Int32)).toNatClampNeg), aR 11 0] (sh_E h)
        refine ai_WP_steps mc_L (sh_CM d) 1 (And.intro (Nat.le_of_ble_eq_true rfl) (x_CB_saved N (Nat.le_trans (Nat.le_of_ble_eq_true rfl) hd) (h.1 17 0 (l3 + (1 : Int32)).toNatClampNeg) (h.1 17 0 (l3 + (2 : Int32)).toNatClampNeg) (h.1 17 0 (l3 + (3 : Int32)).toNatClampNeg) h (sh_okB H) (fun v101 h102 H => ?_)))
        show wq_L d Q 1313 [oR 17 0, oR 11 0, oR 12 0, oI l3] [aI v101] (sh_E h102)
        have c := sh_okG H
        replace H := sh_okH H
        refine ai_WP_steps mc_L (sh_CM d) 6 (And.intro c ?_)
        show wq_L d Q 1319 [oR 17 0, oR 11 0, oR 12 0, oI l3] [aI (h102.1 17 0 (l3 + (1 : Int32)).toNatClampNeg), aR 12 0, aI v101] (sh_E h102)
        have c := sh_okG H
        replace H := sh_okH H
        refine ai_WP_steps mc_L (sh_CM d) 5 (And.intro c ?_)
        show wq_L d Q 1324 [oR 17 0, oR 11 0, oR 12 0, oI l3] [aI (h102.1 17 0 (l3 + (2 : Int32)).toNatClampNeg), aI (h102.1 17 0 (l3 + (1 : Int32)).toNatClampNeg), aR 12 0, aI v101] (sh_E h102)
        have c := sh_okG H
        replace H := sh_okH H
        refine ai_WP_steps mc_L (sh_CM d) 5 (And.intro c ?_)
        show wq_L d Q 1329 [oR 17 0, oR 11 0, oR 12 0, oI l3] [aI (h102.1 17 0 (l3 + (3 : Int32)).toNatClampNeg), aI (h102.1 17 0 (l3 + (2 : Int32)).toNatClampNeg), aI (h102.1 17 0 (l3 + (1 : Int32)).toNatClampNeg), aR 12 0, aI v101] (sh_E h102)
        refine ai_WP_steps mc_L (sh_CM d) 1 (And.intro (Nat.le_of_ble_eq_true rfl) (x_M_saved N (Nat.le_trans (Nat.le_of_ble_eq_true rfl) hd) (h102.1 17 0 (l3 + (1 : Int32)).toNatClampNeg) (h102.1 17 0 (l3 + (2 : Int32)).toNatClampNeg) (h102.1 17 0 (l3 + (3 : Int32)).toNatClampNeg) h102 (sh_okB H) (fun v103 h104 H => ?_)))
        show wq_L d Q 1332 [oR 17 0, oR 11 0, oR 12 0, oI l3] [aI v103, aI v101] (sh_E h104)
        refine ai_WP_steps mc_L (sh_CM d) 1 (And.intro (fun c => ?_) (fun c => ?_))
        · replace H := sh_okT c H
          exact x_law_b2107 N hd hR k18 hk18 l3 h104 H
        · replace H := sh_okF c H
          exact hk1335 h104 H
      replace H := sh_okF c H
      refine And.intro (fun c => ?_) (fun c => ?_)
      · replace H := sh_okT c H
        show wq_L d Q 1337 [oR 17 0, oR 11 0, oR 12 0, oI l3] [] (sh_E h)
        have c := sh_okG H
        replace H := sh_okH H
        refine ai_WP_steps mc_L (sh_CM d) 6 (And.intro c ?_)
        show wq_L d Q 1343 [oR 17 0, oR 11 0, oR 12 0, oI l3] [aI (h.1 17 0 (l3 + (1 : Int32)).toNatClampNeg), aR 11 0] (sh_E h)
        have c := sh_okG H
        replace H := sh_okH H
        refine ai_WP_steps mc_L (sh_CM d) 5 (And.intro c ?_)
        show wq_L d Q 1348 [oR 17 0, oR 11 0, oR 12 0, oI l3] [aI (h.1 17 0 (l3 + (2 : Int32)).toNatClampNeg), aI (h.1 17 0 (l3 + (1 : Int32)).toNatClampNeg), aR 11 0] (sh_E h)
        have c := sh_okG H
        replace H := sh_okH H
        refine ai_WP_steps mc_L (sh_CM d) 5 (And.intro c ?_)
        show wq_L d Q 1353 [oR 17 0, oR 11 0, oR 12 0, oI l3] [aI (h.1 17 0 (l3 + (3 : Int32)).toNatClampNeg), aI (h.1 17 0 (l3 + (2 : Int32)).toNatClampNeg), aI (h.1 17 0 (l3 + (1 : Int32)).toNatClampNeg), aR 11 0] (sh_E h)
        have c := sh_okG H
        replace H := sh_okH H
        refine ai_WP_steps mc_L (sh_CM d) 5 (And.intro c ?_)
        show wq_L d Q 1358 [oR 17 0, oR 11 0, oR 12 0, oI l3] [aI (h.1 17 0 (l3 + (4 : Int32)).toNatClampNeg), aI (h.1 17 0 (l3 + (3 : Int32)).toNatClampNeg), aI (h.1 17 0 (l3 + (2 : Int32)).toNatClampNeg), aI (h.1 17 0 (l3 + (1 : Int32)).toNatClampNeg), aR 11 0] (sh_E h)
        have c := sh_okG H
        replace H := sh_okH H
        refine ai_WP_steps mc_L (sh_CM d) 5 (And.intro c ?_)
        show wq_L d Q 1363 [oR 17 0, oR 11 0, oR 12 0, oI l3] [aI (h.1 17 0 (l3 + (5 : Int32)).toNatClampNeg), aI (h.1 17 0 (l3 + (4 : Int32)).toNatClampNeg), aI (h.1 17 0 (l3 + (3 : Int32)).toNatClampNeg), aI (h.1 17 0 (l3 + (2 : Int32)).toNatClampNeg), aI (h.1 17 0 (l3 + (1 : Int32)).toNatClampNeg), aR 11 0] (sh_E h)
        have c := sh_okG H
        replace H := sh_okH H
        refine ai_WP_steps mc_L (sh_CM d) 5 (And.intro c ?_)
        show wq_L d Q 1369 [oR 17 0, oR 11 0, oR 12 0, oI l3] [aI (h.1 17 0 (l3 + (6 : Int32)).toNatClampNeg), aI (h.1 17 0 (l3 + (5 : Int32)).toNatClampNeg), aI (h.1 17 0 (l3 + (4 : Int32)).toNatClampNeg), aI (h.1 17 0 (l3 + (3 : Int32)).toNatClampNeg), aI (h.1 17 0 (l3 + (2 : Int32)).toNatClampNeg), aI (h.1 17 0 (l3 + (1 : Int32)).toNatClampNeg), aR 11 0] (sh_E h)
        refine ai_WP_steps mc_L (sh_CM d) 1 (And.intro (Nat.le_of_ble_eq_true rfl) (x_CB_holds N (Nat.le_trans (Nat.le_of_ble_eq_true rfl) hd) (h.1 17 0 (l3 + (1 : Int32)).toNatClampNeg) (h.1 17 0 (l3 + (2 : Int32)).toNatClampNeg) (h.1 17 0 (l3 + (3 : Int32)).toNatClampNeg) (h.1 17 0 (l3 + (4 : Int32)).toNatClampNeg) (h.1 17 0 (l3 + (5 : Int32)).toNatClampNeg) (h.1 17 0 (l3 + (6 : Int32)).toNatClampNeg) h (sh_okB H) (fun v105 h106 H => ?_)))
        show wq_L d Q 1372 [oR 17 0, oR 11 0, oR 12 0, oI l3] [aI v105] (sh_E h106)
        have c := sh_okG H
        replace H := sh_okH H
        refine ai_WP_steps mc_L (sh_CM d) 6 (And.intro c ?_)
        show wq_L d Q 1378 [oR 17 0, oR 11 0, oR 12 0, oI l3] [aI (h106.1 17 0 (l3 + (1 : Int32)).toNatClampNeg), aR 12 0, aI v105] (sh_E h106)
        have c := sh_okG H
        replace H := sh_okH H
        refine ai_WP_steps mc_L (sh_CM d) 5 (And.intro c ?_)
        show wq_L d Q 1383 [oR 17 0, oR 11 0, oR 12 0, oI l3] [aI (h106.1 17 0 (l3 + (2 : Int32)).toNatClampNeg), aI (h106.1 17 0 (l3 + (1 : Int32)).toNatClampNeg), aR 12 0, aI v105] (sh_E h106)
        have c := sh_okG H
        replace H := sh_okH H
        refine ai_WP_steps mc_L (sh_CM d) 5 (And.intro c ?_)
        show wq_L d Q 1388 [oR 17 0, oR 11 0, oR 12 0, oI l3] [aI (h106.1 17 0 (l3 + (3 : Int32)).toNatClampNeg), aI (h106.1 17 0 (l3 + (2 : Int32)).toNatClampNeg), aI (h106.1 17 0 (l3 + (1 : Int32)).toNatClampNeg), aR 12 0, aI v105] (sh_E h106)
        have c := sh_okG H
        replace H := sh_okH H
        refine ai_WP_steps mc_L (sh_CM d) 5 (And.intro c ?_)
        show wq_L d Q 1393 [oR 17 0, oR 11 0, oR 12 0, oI l3] [aI (h106.1 17 0 (l3 + (4 : Int32)).toNatClampNeg), aI (h106.1 17 0 (l3 + (3 : Int32)).toNatClampNeg), aI (h106.1 17 0 (l3 + (2 : Int32)).toNatClampNeg), aI (h106.1 17 0 (l3 + (1 : Int32)).toNatClampNeg), aR 12 0, aI v105] (sh_E h106)
        have c := sh_okG H
        replace H := sh_okH H
        refine ai_WP_steps mc_L (sh_CM d) 5 (And.intro c ?_)
        show wq_L d Q 1398 [oR 17 0, oR 11 0, oR 12 0, oI l3] [aI (h106.1 17 0 (l3 + (5 : Int32)).toNatClampNeg), aI (h106.1 17 0 (l3 + (4 : Int32)).toNatClampNeg), aI (h106.1 17 0 (l3 + (3 : Int32)).toNatClampNeg), aI (h106.1 17 0 (l3 + (2 : Int32)).toNatClampNeg), aI (h106.1 17 0 (l3 + (1 : Int32)).toNatClampNeg), aR 12 0, aI v105] (sh_E h106)
        have c := sh_okG H
        replace H := sh_okH H
        refine ai_WP_steps mc_L (sh_CM d) 5 (And.intro c ?_)
        show wq_L d Q 1404 [oR 17 0, oR 11 0, oR 12 0, oI l3] [aI (h106.1 17 0 (l3 + (6 : Int32)).toNatClampNeg), aI (h106.1 17 0 (l3 + (5 : Int32)).toNatClampNeg), aI (h106.1 17 0 (l3 + (4 : Int32)).toNatClampNeg), aI (h106.1 17 0 (l3 + (3 : Int32)).toNatClampNeg), aI (h106.1 17 0 (l3 + (2 : Int32)).toNatClampNeg), aI (h106.1 17 0 (l3 + (1 : Int32)).toNatClampNeg), aR 12 0, aI v105] (sh_E h106)
        refine ai_WP_steps mc_L (sh_CM d) 1 (And.intro (Nat.le_of_ble_eq_true rfl) (x_M_holds N (Nat.le_trans (Nat.le_of_ble_eq_true rfl) hd) (h106.1 17 0 (l3 + (1 : Int32)).toNatClampNeg) (h106.1 17 0 (l3 + (2 : Int32)).toNatClampNeg) (h106.1 17 0 (l3 + (3 : Int32)).toNatClampNeg) (h106.1 17 0 (l3 + (4 : Int32)).toNatClampNeg) (h106.1 17 0 (l3 + (5 : Int32)).toNatClampNeg) (h106.1 17 0 (l3 + (6 : Int32)).toNatClampNeg) h106 (sh_okB H) (fun v107 h108 H => ?_)))
        show wq_L d Q 1407 [oR 17 0, oR 11 0, oR 12 0, oI l3] [aI v107, aI v105] (sh_E h108)
        refine ai_WP_steps mc_L (sh_CM d) 1 (And.intro (fun c => ?_) (fun c => ?_))
        · replace H := sh_okT c H
          exact x_law_b2107 N hd hR k18 hk18 l3 h108 H
        · replace H := sh_okF c H
          exact hk1410 h108 H
      replace H := sh_okF c H
      refine And.intro (fun c => ?_) (fun c => ?_)
      · replace H := sh_okT c H
        show wq_L d Q 1412 [oR 17 0, oR 11 0, oR 12 0, oI l3] [] (sh_E h)
        have c := sh_okG H
        replace H := sh_okH H
        refine ai_WP_steps mc_L (sh_CM d) 6 (And.intro c ?_)
        show wq_L d Q 1418 [oR 17 0, oR 11 0, oR 12 0, oI l3] [aI (h.1 17 0 (l3 + (1 : Int32)).toNatClampNeg), aR 11 0] (sh_E h)
        have c := sh_okG H
        replace H := sh_okH H
        refine ai_WP_steps mc_L (sh_CM d) 5 (And.intro c ?_)
        show wq_L d Q 1423 [oR 17 0, oR 11 0, oR 12 0, oI l3] [aI (h.1 17 0 (l3 + (2 : Int32)).toNatClampNeg), aI (h.1 17 0 (l3 + (1 : Int32)).toNatClampNeg), aR 11 0] (sh_E h)
        have c := sh_okG H
        replace H := sh_okH H
        refine ai_WP_steps mc_L (sh_CM d) 5 (And.intro c ?_)
        show wq_L d Q 1428 [oR 17 0, oR 11 0, oR 12 0, oI l3] [aI (h.1 17 0 (l3 + (3 : Int32)).toNatClampNeg), aI (h.1 17 0 (l3 + (2 : Int32)).toNatClampNeg), aI (h.1 17 0 (l3 + (1 : Int32)).toNatClampNeg), aR 11 0] (sh_E h)
        have c := sh_okG H
        replace H := sh_okH H
        refine ai_WP_steps mc_L (sh_CM d) 5 (And.intro c ?_)
        show wq_L d Q 1433 [oR 17 0, oR 11 0, oR 12 0, oI l3] [aI (h.1 17 0 (l3 + (4 : Int32)).toNatClampNeg), aI (h.1 17 0 (l3 + (3 : Int32)).toNatClampNeg), aI (h.1 17 0 (l3 + (2 : Int32)).toNatClampNeg), aI (h.1 17 0 (l3 + (1 : Int32)).toNatClampNeg), aR 11 0] (sh_E h)
        refine ai_WP_steps mc_L (sh_CM d) 1 (And.intro (fun c => ?_) (fun c => ?_))
        · replace H := sh_okT c H
          show wq_L d Q 1440 [oR 17 0, oR 11 0, oR 12 0, oI l3] [aI (h.1 17 0 (l3 + (3 : Int32)).toNatClampNeg), aI (h.1 17 0 (l3 + (2 : Int32)).toNatClampNeg), aI (h.1 17 0 (l3 + (1 : Int32)).toNatClampNeg), aR 11 0] (sh_E h)
          refine ai_WP_steps mc_L (sh_CM d) 1 ?_
          exact x_law_b1441 N hd hR k18 hk18 k1479 hk1479 l3 (h.1 17 0 (l3 + (1 : Int32)).toNatClampNeg) (h.1 17 0 (l3 + (2 : Int32)).toNatClampNeg) (h.1 17 0 (l3 + (3 : Int32)).toNatClampNeg) (0 : Int32) h H
        · replace H := sh_okF c H
          show wq_L d Q 1436 [oR 17 0, oR 11 0, oR 12 0, oI l3] [aI (h.1 17 0 (l3 + (3 : Int32)).toNatClampNeg), aI (h.1 17 0 (l3 + (2 : Int32)).toNatClampNeg), aI (h.1 17 0 (l3 + (1 : Int32)).toNatClampNeg), aR 11 0] (sh_E h)
          refine ai_WP_steps mc_L (sh_CM d) 2 ?_
          exact x_law_b1441 N hd hR k18 hk18 k1479 hk1479 l3 (h.1 17 0 (l3 + (1 : Int32)).toNatClampNeg) (h.1 17 0 (l3 + (2 : Int32)).toNatClampNeg) (h.1 17 0 (l3 + (3 : Int32)).toNatClampNeg) (1 : Int32) h H
      replace H := sh_okF c H
      refine And.intro (fun c => ?_) (fun c => ?_)
      · replace H := sh_okT c H
        show wq_L d Q 1481 [oR 17 0, oR 11 0, oR 12 0, oI l3] [] (sh_E h)
        have c := sh_okG H
        replace H := sh_okH H
        refine ai_WP_steps mc_L (sh_CM d) 6 (And.intro c ?_)
        show wq_L d Q 1487 [oR 17 0, oR 11 0, oR 12 0, oI l3] [aI (h.1 17 0 (l3 + (1 : Int32)).toNatClampNeg), aR 11 0] (sh_E h)
        have c := sh_okG H
        replace H := sh_okH H
        refine ai_WP_steps mc_L (sh_CM d) 5 (And.intro c ?_)
        show wq_L d Q 1492 [oR 17 0, oR 11 0, oR 12 0, oI l3] [aI (h.1 17 0 (l3 + (2 : Int32)).toNatClampNeg), aI (h.1 17 0 (l3 + (1 : Int32)).toNatClampNeg), aR 11 0] (sh_E h)
        have c := sh_okG H
        replace H := sh_okH H
        refine ai_WP_steps mc_L (sh_CM d) 5 (And.intro c ?_)
        show wq_L d Q 1497 [oR 17 0, oR 11 0, oR 12 0, oI l3] [aI (h.1 17 0 (l3 + (3 : Int32)).toNatClampNeg), aI (h.1 17 0 (l3 + (2 : Int32)).toNatClampNeg), aI (h.1 17 0 (l3 + (1 : Int32)).toNatClampNeg), aR 11 0] (sh_E h)
        refine ai_WP_steps mc_L (sh_CM d) 1 (And.intro (Nat.le_of_ble_eq_true rfl) (x_CB_looked N (Nat.le_trans (Nat.le_of_ble_eq_true rfl) hd) (h.1 17 0 (l3 + (1 : Int32)).toNatClampNeg) (h.1 17 0 (l3 + (2 : Int32)).toNatClampNeg) (h.1 17 0 (l3 + (3 : Int32)).toNatClampNeg) h (sh_okB H) (fun v109 h110 H => ?_)))
        show wq_L d Q 1500 [oR 17 0, oR 11 0, oR 12 0, oI l3] [aI v109] (sh_E h110)
        have c := sh_okG H
        replace H := sh_okH H
        refine ai_WP_steps mc_L (sh_CM d) 6 (And.intro c ?_)
        show wq_L d Q 1506 [oR 17 0, oR 11 0, oR 12 0, oI l3] [aI (h110.1 17 0 (l3 + (1 : Int32)).toNatClampNeg), aR 12 0, aI v109] (sh_E h110)
        have c := sh_okG H
        replace H := sh_okH H
        refine ai_WP_steps mc_L (sh_CM d) 5 (And.intro c ?_)
        show wq_L d Q 1511 [oR 17 0, oR 11 0, oR 12 0, oI l3] [aI (h110.1 17 0 (l3 + (2 : Int32)).toNatClampNeg), aI (h110.1 17 0 (l3 + (1 : Int32)).toNatClampNeg), aR 12 0, aI v109] (sh_E h110)
        have c := sh_okG H
        replace H := sh_okH H
        refine ai_WP_steps mc_L (sh_CM d) 5 (And.intro c ?_)
        show wq_L d Q 1516 [oR 17 0, oR 11 0, oR 12 0, oI l3] [aI (h110.1 17 0 (l3 + (3 : Int32)).toNatClampNeg), aI (h110.1 17 0 (l3 + (2 : Int32)).toNatClampNeg), aI (h110.1 17 0 (l3 + (1 : Int32)).toNatClampNeg), aR 12 0, aI v109] (sh_E h110)
        refine ai_WP_steps mc_L (sh_CM d) 1 (And.intro (Nat.le_of_ble_eq_true rfl) (x_M_looked (Nat.le_trans (Nat.le_of_ble_eq_true rfl) hd) (h110.1 17 0 (l3 + (1 : Int32)).toNatClampNeg) (h110.1 17 0 (l3 + (2 : Int32)).toNatClampNeg) (h110.1 17 0 (l3 + (3 : Int32)).toNatClampNeg) h110 (sh_okB H) (fun v111 h112 H => ?_)))
        show wq_L d Q 1519 [oR 17 0, oR 11 0, oR 12 0, oI l3] [aI v111, aI v109] (sh_E h112)
        refine ai_WP_steps mc_L (sh_CM d) 1 (And.intro (fun c => ?_) (fun c => ?_))
        · replace H := sh_okT c H
          exact x_law_b2107 N hd hR k18 hk18 l3 h112 H
        · replace H := sh_okF c H
          exact hk1522 h112 H
      replace H := sh_okF c H
      refine And.intro (fun c => ?_) (fun c => ?_)
      · replace H := sh_okT c H
        show wq_L d Q 1524 [oR 17 0, oR 11 0, oR 12 0, oI l3] [] (sh_E h)
        have c := sh_okG H
        replace H := sh_okH H
        refine ai_WP_steps mc_L (sh_CM d) 6 (And.intro c ?_)
        show wq_L d Q 1530 [oR 17 0, oR 11 0, oR 12 0, oI l3] [aI (h.1 17 0 (l3 + (1 : Int32)).toNatClampNeg), aR 11 0] (sh_E h)
        refine ai_WP_steps mc_L (sh_CM d) 1 (And.intro (Nat.le_of_ble_eq_true rfl) (x_CB_annul N (Nat.le_trans (Nat.le_of_ble_eq_true rfl) hd) (h.1 17 0 (l3 + (1 : Int32)).toNatClampNeg) h (sh_okB H) (fun v113 h114 H => ?_)))
        show wq_L d Q 1533 [oR 17 0, oR 11 0, oR 12 0, oI l3] [aI v113] (sh_E h114)
        have c := sh_okG H
        replace H := sh_okH H
        refine ai_WP_steps mc_L (sh_CM d) 6 (And.intro c ?_)
        show wq_L d Q 1539 [oR 17 0, oR 11 0, oR 12 0, oI l3] [aI (h114.1 17 0 (l3 + (1 : Int32)).toNatClampNeg), aR 12 0, aI v113] (sh_E h114)
        refine ai_WP_steps mc_L (sh_CM d) 1 (And.intro (Nat.le_of_ble_eq_true rfl) (x_M_annul (Nat.le_trans (Nat.le_of_ble_eq_true rfl) hd) (h114.1 17 0 (l3 + (1 : Int32)).toNatClampNeg) h114 (sh_okB H) (fun v115 h116 H => ?_)))
        show wq_L d Q 1542 [oR 17 0, oR 11 0, oR 12 0, oI l3] [aI v115, aI v113] (sh_E h116)
        refine ai_WP_steps mc_L (sh_CM d) 1 (And.intro (fun c => ?_) (fun c => ?_))
        · replace H := sh_okT c H
          exact x_law_b2107 N hd hR k18 hk18 l3 h116 H
        · replace H := sh_okF c H
          exact hk1545 h116 H
      replace H := sh_okF c H
      refine And.intro (fun c => ?_) (fun c => ?_)
      · replace H := sh_okT c H
        show wq_L d Q 1547 [oR 17 0, oR 11 0, oR 12 0, oI l3] [] (sh_E h)
        have c := sh_okG H
        replace H := sh_okH H
        refine ai_WP_steps mc_L (sh_CM d) 6 (And.intro c ?_)
        show wq_L d Q 1553 [oR 17 0, oR 11 0, oR 12 0, oI l3] [aI (h.1 17 0 (l3 + (1 : Int32)).toNatClampNeg), aR 11 0] (sh_E h)
        have c := sh_okG H
        replace H := sh_okH H
        refine ai_WP_steps mc_L (sh_CM d) 5 (And.intro c ?_)
        show wq_L d Q 1558 [oR 17 0, oR 11 0, oR 12 0, oI l3] [aI (h.1 17 0 (l3 + (2 : Int32)).toNatClampNeg), aI (h.1 17 0 (l3 + (1 : Int32)).toNatClampNeg), aR 11 0] (sh_E h)
        have c := sh_okG H
        replace H := sh_okH H
        refine ai_WP_steps mc_L (sh_CM d) 5 (And.intro c ?_)
        show wq_L d Q 1563 [oR 17 0, oR 11 0, oR 12 0, oI l3] [aI (h.1 17 0 (l3 + (3 : Int32)).toNatClampNeg), aI (h.1 17 0 (l3 + (2 : Int32)).toNatClampNeg), aI (h.1 17 0 (l3 + (1 : Int32)).toNatClampNeg), aR 11 0] (sh_E h)
        refine ai_WP_steps mc_L (sh_CM d) 1 (And.intro (Nat.le_of_ble_eq_true rfl) (x_CB_balance N (Nat.le_trans (Nat.le_of_ble_eq_true rfl) hd) (h.1 17 0 (l3 + (1 : Int32)).toNatClampNeg) (h.1 17 0 (l3 + (2 : Int32)).toNatClampNeg) (h.1 17 0 (l3 + (3 : Int32)).toNatClampNeg) h (sh_okB H) (fun v117 h118 H => ?_)))
        show wq_L d Q 1566 [oR 17 0, oR 11 0, oR 12 0, oI l3] [aI v117] (sh_E h118)
        have c := sh_okG H
        replace H := sh_okH H
        refine ai_WP_steps mc_L (sh_CM d) 6 (And.intro c ?_)
        show wq_L d Q 1572 [oR 17 0, oR 11 0, oR 12 0, oI l3] [aI (h118.1 17 0 (l3 + (1 : Int32)).toNatClampNeg), aR 12 0, aI v117] (sh_E h118)
        have c := sh_okG H
        replace H := sh_okH H
        refine ai_WP_steps mc_L (sh_CM d) 5 (And.intro c ?_)
        show wq_L d Q 1577 [oR 17 0, oR 11 0, oR 12 0, oI l3] [aI (h118.1 17 0 (l3 + (2 : Int32)).toNatClampNeg), aI (h118.1 17 0 (l3 + (1 : Int32)).toNatClampNeg), aR 12 0, aI v117] (sh_E h118)
        have c := sh_okG H
        replace H := sh_okH H
        refine ai_WP_steps mc_L (sh_CM d) 5 (And.intro c ?_)
        show wq_L d Q 1582 [oR 17 0, oR 11 0, oR 12 0, oI l3] [aI (h118.1 17 0 (l3 + (3 : Int32)).toNatClampNeg), aI (h118.1 17 0 (l3 + (2 : Int32)).toNatClampNeg), aI (h118.1 17 0 (l3 + (1 : Int32)).toNatClampNeg), aR 12 0, aI v117] (sh_E h118)
        refine ai_WP_steps mc_L (sh_CM d) 1 (And.intro (Nat.le_of_ble_eq_true rfl) (x_M_balance N (Nat.le_trans (Nat.le_of_ble_eq_true rfl) hd) (h118.1 17 0 (l3 + (1 : Int32)).toNatClampNeg) (h118.1 17 0 (l3 + (2 : Int32)).toNatClampNeg) (h118.1 17 0 (l3 + (3 : Int32)).toNatClampNeg) h118 (sh_okB H) (fun v119 H => ?_)))
        show wq_L d Q 1585 [oR 17 0, oR 11 0, oR 12 0, oI l3] [aI v119, aI v117] (sh_E h118)
        refine ai_WP_steps mc_L (sh_CM d) 1 (And.intro (fun c => ?_) (fun c => ?_))
        · replace H := sh_okT c H
          exact x_law_b2107 N hd hR k18 hk18 l3 h118 H
        · replace H := sh_okF c H
          exact hk1588 h118 H
      replace H := sh_okF c H
      refine And.intro (fun c => ?_) (fun c => ?_)
      · replace H := sh_okT c H
        show wq_L d Q 1590 [oR 17 0, oR 11 0, oR 12 0, oI l3] [] (sh_E h)
        have c := sh_okG H
        replace H := sh_okH H
        refine ai_WP_steps mc_L (sh_CM d) 6 (And.intro c ?_)
        show wq_L d Q 1596 [oR 17 0, oR 11 0, oR 12 0, oI l3] [aI (h.1 17 0 (l3 + (1 : Int32)).toNatClampNeg), aR 11 0] (sh_E h)
        refine ai_WP_steps mc_L (sh_CM d) 1 (And.intro (Nat.le_of_ble_eq_true rfl) (x_CB_richest N (Nat.le_trans (Nat.le_of_ble_eq_true rfl) hd) (h.1 17 0 (l3 + (1 : Int32)).toNatClampNeg) h (sh_okB H) (fun v120 h121 H => ?_)))
        show wq_L d Q 1599 [oR 17 0, oR 11 0, oR 12 0, oI l3] [aI v120] (sh_E h121)
        have c := sh_okG H
        replace H := sh_okH H
        refine ai_WP_steps mc_L (sh_CM d) 6 (And.intro c ?_)
        show wq_L d Q 1605 [oR 17 0, oR 11 0, oR 12 0, oI l3] [aI (h121.1 17 0 (l3 + (1 : Int32)).toNatClampNeg), aR 12 0, aI v120] (sh_E h121)
        refine ai_WP_steps mc_L (sh_CM d) 1 (And.intro (Nat.le_of_ble_eq_true rfl) (x_M_richest N (Nat.le_trans (Nat.le_of_ble_eq_true rfl) hd) (h121.1 17 0 (l3 + (1 : Int32)).toNatClampNeg) h121 (sh_okB H) (fun v122 H => ?_)))
        show wq_L d Q 1608 [oR 17 0, oR 11 0, oR 12 0, oI l3] [aI v122, aI v120] (sh_E h121)
        refine ai_WP_steps mc_L (sh_CM d) 1 (And.intro (fun c => ?_) (fun c => ?_))
        · replace H := sh_okT c H
          exact x_law_b2107 N hd hR k18 hk18 l3 h121 H
        · replace H := sh_okF c H
          exact hk1611 h121 H
      replace H := sh_okF c H
      refine And.intro (fun c => ?_) (fun c => ?_)
      · replace H := sh_okT c H
        show wq_L d Q 1613 [oR 17 0, oR 11 0, oR 12 0, oI l3] [] (sh_E h)
        have c := sh_okG H
        replace H := sh_okH H
        refine ai_WP_steps mc_L (sh_CM d) 6 (And.intro c ?_)
        show wq_L d Q 1619 [oR 17 0, oR 11 0, oR 12 0, oI l3] [aI (h.1 17 0 (l3 + (1 : Int32)).toNatClampNeg), aR 11 0] (sh_E h)
        have c := sh_okG H
        replace H := sh_okH H
        refine ai_WP_steps mc_L (sh_CM d) 5 (And.intro c ?_)
        show wq_L d Q 1624 [oR 17 0, oR 11 0, oR 12 0, oI l3] [aI (h.1 17 0 (l3 + (2 : Int32)).toNatClampNeg), aI (h.1 17 0 (l3 + (1 : Int32)).toNatClampNeg), aR 11 0] (sh_E h)
        have c := sh_okG H
        replace H := sh_okH H
        refine ai_WP_steps mc_L (sh_CM d) 5 (And.intro c ?_)
        show wq_L d Q 1629 [oR 17 0, oR 11 0, oR 12 0, oI l3] [aI (h.1 17 0 (l3 + (3 : Int32)).toNatClampNeg), aI (h.1 17 0 (l3 + (2 : Int32)).toNatClampNeg), aI (h.1 17 0 (l3 + (1 : Int32)).toNatClampNeg), aR 11 0] (sh_E h)
        have c := sh_okG H
        replace H := sh_okH H
        refine ai_WP_steps mc_L (sh_CM d) 5 (And.intro c ?_)
        show wq_L d Q 1634 [oR 17 0, oR 11 0, oR 12 0, oI l3] [aI (h.1 17 0 (l3 + (4 : Int32)).toNatClampNeg), aI (h.1 17 0 (l3 + (3 : Int32)).toNatClampNeg), aI (h.1 17 0 (l3 + (2 : Int32)).toNatClampNeg), aI (h.1 17 0 (l3 + (1 : Int32)).toNatClampNeg), aR 11 0] (sh_E h)
        refine ai_WP_steps mc_L (sh_CM d) 1 (And.intro (Nat.le_of_ble_eq_true rfl) (x_CB_jars N (Nat.le_trans (Nat.le_of_ble_eq_true rfl) hd) (h.1 17 0 (l3 + (1 : Int32)).toNatClampNeg) (h.1 17 0 (l3 + (2 : Int32)).toNatClampNeg) (h.1 17 0 (l3 + (3 : Int32)).toNatClampNeg) (h.1 17 0 (l3 + (4 : Int32)).toNatClampNeg) h (sh_okB H) (fun v123 h124 H => ?_)))
        show wq_L d Q 1637 [oR 17 0, oR 11 0, oR 12 0, oI l3] [aI v123] (sh_E h124)
        have c := sh_okG H
        replace H := sh_okH H
        refine ai_WP_steps mc_L (sh_CM d) 6 (And.intro c ?_)
        show wq_L d Q 1643 [oR 17 0, oR 11 0, oR 12 0, oI l3] [aI (h124.1 17 0 (l3 + (1 : Int32)).toNatClampNeg), aR 12 0, aI v123] (sh_E h124)
        have c := sh_okG H
        replace H := sh_okH H
        refine ai_WP_steps mc_L (sh_CM d) 5 (And.intro c ?_)
        show wq_L d Q 1648 [oR 17 0, oR 11 0, oR 12 0, oI l3] [aI (h124.1 17 0 (l3 + (2 : Int32)).toNatClampNeg), aI (h124.1 17 0 (l3 + (1 : Int32)).toNatClampNeg), aR 12 0, aI v123] (sh_E h124)
        have c := sh_okG H
        replace H := sh_okH H
        refine ai_WP_steps mc_L (sh_CM d) 5 (And.intro c ?_)
        show wq_L d Q 1653 [oR 17 0, oR 11 0, oR 12 0, oI l3] [aI (h124.1 17 0 (l3 + (3 : Int32)).toNatClampNeg), aI (h124.1 17 0 (l3 + (2 : Int32)).toNatClampNeg), aI (h124.1 17 0 (l3 + (1 : Int32)).toNatClampNeg), aR 12 0, aI v123] (sh_E h124)
        have c := sh_okG H
        replace H := sh_okH H
        refine ai_WP_steps mc_L (sh_CM d) 5 (And.intro c ?_)
        show wq_L d Q 1658 [oR 17 0, oR 11 0, oR 12 0, oI l3] [aI (h124.1 17 0 (l3 + (4 : Int32)).toNatClampNeg), aI (h124.1 17 0 (l3 + (3 : Int32)).toNatClampNeg), aI (h124.1 17 0 (l3 + (2 : Int32)).toNatClampNeg), aI (h124.1 17 0 (l3 + (1 : Int32)).toNatClampNeg), aR 12 0, aI v123] (sh_E h124)
        refine ai_WP_steps mc_L (sh_CM d) 1 (And.intro (Nat.le_of_ble_eq_true rfl) (x_M_jars N (Nat.le_trans (Nat.le_of_ble_eq_true rfl) hd) (h124.1 17 0 (l3 + (1 : Int32)).toNatClampNeg) (h124.1 17 0 (l3 + (2 : Int32)).toNatClampNeg) (h124.1 17 0 (l3 + (3 : Int32)).toNatClampNeg) (h124.1 17 0 (l3 + (4 : Int32)).toNatClampNeg) h124 (sh_okB H) (fun v125 h126 H => ?_)))
        show wq_L d Q 1661 [oR 17 0, oR 11 0, oR 12 0, oI l3] [aI v125, aI v123] (sh_E h126)
        refine ai_WP_steps mc_L (sh_CM d) 1 (And.intro (fun c => ?_) (fun c => ?_))
        · replace H := sh_okT c H
          exact x_law_b2107 N hd hR k18 hk18 l3 h126 H
        · replace H := sh_okF c H
          exact hk1664 h126 H
      replace H := sh_okF c H
      refine And.intro (fun c => ?_) (fun c => ?_)
      · replace H := sh_okT c H
        show wq_L d Q 1666 [oR 17 0, oR 11 0, oR 12 0, oI l3] [] (sh_E h)
        have c := sh_okG H
        replace H := sh_okH H
        refine ai_WP_steps mc_L (sh_CM d) 6 (And.intro c ?_)
        show wq_L d Q 1672 [oR 17 0, oR 11 0, oR 12 0, oI l3] [aI (h.1 17 0 (l3 + (1 : Int32)).toNatClampNeg), aR 11 0] (sh_E h)
        have c := sh_okG H
        replace H := sh_okH H
        refine ai_WP_steps mc_L (sh_CM d) 5 (And.intro c ?_)
        show wq_L d Q 1677 [oR 17 0, oR 11 0, oR 12 0, oI l3] [aI (h.1 17 0 (l3 + (2 : Int32)).toNatClampNeg), aI (h.1 17 0 (l3 + (1 : Int32)).toNatClampNeg), aR 11 0] (sh_E h)
        have c := sh_okG H
        replace H := sh_okH H
        refine ai_WP_steps mc_L (sh_CM d) 5 (And.intro c ?_)
        show wq_L d Q 1682 [oR 17 0, oR 11 0, oR 12 0, oI l3] [aI (h.1 17 0 (l3 + (3 : Int32)).toNatClampNeg), aI (h.1 17 0 (l3 + (2 : Int32)).toNatClampNeg), aI (h.1 17 0 (l3 + (1 : Int32)).toNatClampNeg), aR 11 0] (sh_E h)
        have c := sh_okG H
        replace H := sh_okH H
        refine ai_WP_steps mc_L (sh_CM d) 5 (And.intro c ?_)
        show wq_L d Q 1687 [oR 17 0, oR 11 0, oR 12 0, oI l3] [aI (h.1 17 0 (l3 + (4 : Int32)).toNatClampNeg), aI (h.1 17 0 (l3 + (3 : Int32)).toNatClampNeg), aI (h.1 17 0 (l3 + (2 : Int32)).toNatClampNeg), aI (h.1 17 0 (l3 + (1 : Int32)).toNatClampNeg), aR 11 0] (sh_E h)
        refine ai_WP_steps mc_L (sh_CM d) 1 (And.intro (Nat.le_of_ble_eq_true rfl) (x_CB_ends N (Nat.le_trans (Nat.le_of_ble_eq_true rfl) hd) (h.1 17 0 (l3 + (1 : Int32)).toNatClampNeg) (h.1 17 0 (l3 + (2 : Int32)).toNatClampNeg) (h.1 17 0 (l3 + (3 : Int32)).toNatClampNeg) (h.1 17 0 (l3 + (4 : Int32)).toNatClampNeg) h (sh_okB H) (fun v127 h128 H => ?_)))
        show wq_L d Q 1690 [oR 17 0, oR 11 0, oR 12 0, oI l3] [aI v127] (sh_E h128)
        have c := sh_okG H
        replace H := sh_okH H
        refine ai_WP_steps mc_L (sh_CM d) 6 (And.intro c ?_)
        show wq_L d Q 1696 [oR 17 0, oR 11 0, oR 12 0, oI l3] [aI (h128.1 17 0 (l3 + (1 : Int32)).toNatClampNeg), aR 12 0, aI v127] (sh_E h128)
        have c := sh_okG H
        replace H := sh_okH H
        refine ai_WP_steps mc_L (sh_CM d) 5 (And.intro c ?_)
        show wq_L d Q 1701 [oR 17 0, oR 11 0, oR 12 0, oI l3] [aI (h128.1 17 0 (l3 + (2 : Int32)).toNatClampNeg), aI (h128.1 17 0 (l3 + (1 : Int32)).toNatClampNeg), aR 12 0, aI v127] (sh_E h128)
        have c := sh_okG H
        replace H := sh_okH H
        refine ai_WP_steps mc_L (sh_CM d) 5 (And.intro c ?_)
        show wq_L d Q 1706 [oR 17 0, oR 11 0, oR 12 0, oI l3] [aI (h128.1 17 0 (l3 + (3 : Int32)).toNatClampNeg), aI (h128.1 17 0 (l3 + (2 : Int32)).toNatClampNeg), aI (h128.1 17 0 (l3 + (1 : Int32)).toNatClampNeg), aR 12 0, aI v127] (sh_E h128)
        have c := sh_okG H
        replace H := sh_okH H
        refine ai_WP_steps mc_L (sh_CM d) 5 (And.intro c ?_)
        show wq_L d Q 1711 [oR 17 0, oR 11 0, oR 12 0, oI l3] [aI (h128.1 17 0 (l3 + (4 : Int32)).toNatClampNeg), aI (h128.1 17 0 (l3 + (3 : Int32)).toNatClampNeg), aI (h128.1 17 0 (l3 + (2 : Int32)).toNatClampNeg), aI (h128.1 17 0 (l3 + (1 : Int32)).toNatClampNeg), aR 12 0, aI v127] (sh_E h128)
        refine ai_WP_steps mc_L (sh_CM d) 1 (And.intro (Nat.le_of_ble_eq_true rfl) (x_M_ends N (Nat.le_trans (Nat.le_of_ble_eq_true rfl) hd) (h128.1 17 0 (l3 + (1 : Int32)).toNatClampNeg) (h128.1 17 0 (l3 + (2 : Int32)).toNatClampNeg) (h128.1 17 0 (l3 + (3 : Int32)).toNatClampNeg) (h128.1 17 0 (l3 + (4 : Int32)).toNatClampNeg) h128 (sh_okB H) (fun v129 h130 H => ?_)))
        show wq_L d Q 1714 [oR 17 0, oR 11 0, oR 12 0, oI l3] [aI v129, aI v127] (sh_E h130)
        refine ai_WP_steps mc_L (sh_CM d) 1 (And.intro (fun c => ?_) (fun c => ?_))
        · replace H := sh_okT c H
          exact x_law_b2107 N hd hR k18 hk18 l3 h130 H
        · replace H := sh_okF c H
          exact hk1717 h130 H
      replace H := sh_okF c H
      refine And.intro (fun c => ?_) (fun c => ?_)
      · replace H := sh_okT c H
        show wq_L d Q 1719 [oR 17 0, oR 11 0, oR 12 0, oI l3] [] (sh_E h)
        have c := sh_okG H
        replace H := sh_okH H
        refine ai_WP_steps mc_L (sh_CM d) 6 (And.intro c ?_)
        show wq_L d Q 1725 [oR 17 0, oR 11 0, oR 12 0, oI l3] [aI (h.1 17 0 (l3 + (1 : Int32)).toNatClampNeg), aR 11 0] (sh_E h)
        refine ai_WP_steps mc_L (sh_CM d) 1 (And.intro (Nat.le_of_ble_eq_true rfl) (x_CB_whose N (Nat.le_trans (Nat.le_of_ble_eq_true rfl) hd) (h.1 17 0 (l3 + (1 : Int32)).toNatClampNeg) h (sh_okB H) (fun v131 h132 H => ?_)))
        show wq_L d Q 1728 [oR 17 0, oR 11 0, oR 12 0, oI l3] [aI v131] (sh_E h132)
        have c := sh_okG H
        replace H := sh_okH H
        refine ai_WP_steps mc_L (sh_CM d) 6 (And.intro c ?_)
        show wq_L d Q 1734 [oR 17 0, oR 11 0, oR 12 0, oI l3] [aI (h132.1 17 0 (l3 + (1 : Int32)).toNatClampNeg), aR 12 0, aI v131] (sh_E h132)
        refine ai_WP_steps mc_L (sh_CM d) 1 (And.intro (Nat.le_of_ble_eq_true rfl) (x_M_whose N (Nat.le_trans (Nat.le_of_ble_eq_true rfl) hd) (h132.1 17 0 (l3 + (1 : Int32)).toNatClampNeg) h132 (sh_okB H) (fun v133 h134 H => ?_)))
        show wq_L d Q 1737 [oR 17 0, oR 11 0, oR 12 0, oI l3] [aI v133, aI v131] (sh_E h134)
        refine ai_WP_steps mc_L (sh_CM d) 1 (And.intro (fun c => ?_) (fun c => ?_))
        · replace H := sh_okT c H
          exact x_law_b2107 N hd hR k18 hk18 l3 h134 H
        · replace H := sh_okF c H
          exact hk1740 h134 H
      replace H := sh_okF c H
      refine And.intro (fun c => ?_) (fun c => ?_)
      · replace H := sh_okT c H
        show wq_L d Q 1742 [oR 17 0, oR 11 0, oR 12 0, oI l3] [] (sh_E h)
        have c := sh_okG H
        replace H := sh_okH H
        refine ai_WP_steps mc_L (sh_CM d) 6 (And.intro c ?_)
        show wq_L d Q 1748 [oR 17 0, oR 11 0, oR 12 0, oI l3] [aI (h.1 17 0 (l3 + (1 : Int32)).toNatClampNeg), aR 11 0] (sh_E h)
        have c := sh_okG H
        replace H := sh_okH H
        refine ai_WP_steps mc_L (sh_CM d) 5 (And.intro c ?_)
        show wq_L d Q 1753 [oR 17 0, oR 11 0, oR 12 0, oI l3] [aI (h.1 17 0 (l3 + (2 : Int32)).toNatClampNeg), aI (h.1 17 0 (l3 + (1 : Int32)).toNatClampNeg), aR 11 0] (sh_E h)
        have c := sh_okG H
        replace H := sh_okH H
        refine ai_WP_steps mc_L (sh_CM d) 5 (And.intro c ?_)
        show wq_L d Q 1758 [oR 17 0, oR 11 0, oR 12 0, oI l3] [aI (h.1 17 0 (l3 + (3 : Int32)).toNatClampNeg), aI (h.1 17 0 (l3 + (2 : Int32)).toNatClampNeg), aI (h.1 17 0 (l3 + (1 : Int32)).toNatClampNeg), aR 11 0] (sh_E h)
        refine ai_WP_steps mc_L (sh_CM d) 1 (And.intro (fun c => ?_) (fun c => ?_))
        · replace H := sh_okT c H
          show wq_L d Q 1765 [oR 17 0, oR 11 0, oR 12 0, oI l3] [aI (h.1 17 0 (l3 + (2 : Int32)).toNatClampNeg), aI (h.1 17 0 (l3 + (1 : Int32)).toNatClampNeg), aR 11 0] (sh_E h)
          refine ai_WP_steps mc_L (sh_CM d) 1 ?_
          exact x_law_b1766 N hd hR k18 hk18 k1800 hk1800 l3 (h.1 17 0 (l3 + (1 : Int32)).toNatClampNeg) (h.1 17 0 (l3 + (2 : Int32)).toNatClampNeg) (0 : Int32) h H
        · replace H := sh_okF c H
          show wq_L d Q 1761 [oR 17 0, oR 11 0, oR 12 0, oI l3] [aI (h.1 17 0 (l3 + (2 : Int32)).toNatClampNeg), aI (h.1 17 0 (l3 + (1 : Int32)).toNatClampNeg), aR 11 0] (sh_E h)
          refine ai_WP_steps mc_L (sh_CM d) 2 ?_
          exact x_law_b1766 N hd hR k18 hk18 k1800 hk1800 l3 (h.1 17 0 (l3 + (1 : Int32)).toNatClampNeg) (h.1 17 0 (l3 + (2 : Int32)).toNatClampNeg) (1 : Int32) h H
      replace H := sh_okF c H
      refine And.intro (fun c => ?_) (fun c => ?_)
      · replace H := sh_okT c H
        show wq_L d Q 1802 [oR 17 0, oR 11 0, oR 12 0, oI l3] [] (sh_E h)
        have c := sh_okG H
        replace H := sh_okH H
        refine ai_WP_steps mc_L (sh_CM d) 6 (And.intro c ?_)
        show wq_L d Q 1808 [oR 17 0, oR 11 0, oR 12 0, oI l3] [aI (h.1 17 0 (l3 + (1 : Int32)).toNatClampNeg), aR 11 0] (sh_E h)
        have c := sh_okG H
        replace H := sh_okH H
        refine ai_WP_steps mc_L (sh_CM d) 5 (And.intro c ?_)
        show wq_L d Q 1813 [oR 17 0, oR 11 0, oR 12 0, oI l3] [aI (h.1 17 0 (l3 + (2 : Int32)).toNatClampNeg), aI (h.1 17 0 (l3 + (1 : Int32)).toNatClampNeg), aR 11 0] (sh_E h)
        have c := sh_okG H
        replace H := sh_okH H
        refine ai_WP_steps mc_L (sh_CM d) 5 (And.intro c ?_)
        show wq_L d Q 1818 [oR 17 0, oR 11 0, oR 12 0, oI l3] [aI (h.1 17 0 (l3 + (3 : Int32)).toNatClampNeg), aI (h.1 17 0 (l3 + (2 : Int32)).toNatClampNeg), aI (h.1 17 0 (l3 + (1 : Int32)).toNatClampNeg), aR 11 0] (sh_E h)
        have c := sh_okG H
        replace H := sh_okH H
        refine ai_WP_steps mc_L (sh_CM d) 5 (And.intro c ?_)
        show wq_L d Q 1823 [oR 17 0, oR 11 0, oR 12 0, oI l3] [aI (h.1 17 0 (l3 + (4 : Int32)).toNatClampNeg), aI (h.1 17 0 (l3 + (3 : Int32)).toNatClampNeg), aI (h.1 17 0 (l3 + (2 : Int32)).toNatClampNeg), aI (h.1 17 0 (l3 + (1 : Int32)).toNatClampNeg), aR 11 0] (sh_E h)
        refine ai_WP_steps mc_L (sh_CM d) 1 (And.intro (Nat.le_of_ble_eq_true rfl) (x_CB_trickle N (Nat.le_trans (Nat.le_of_ble_eq_true rfl) hd) (h.1 17 0 (l3 + (1 : Int32)).toNatClampNeg) (h.1 17 0 (l3 + (2 : Int32)).toNatClampNeg) (h.1 17 0 (l3 + (3 : Int32)).toNatClampNeg) (h.1 17 0 (l3 + (4 : Int32)).toNatClampNeg) h (sh_okB H) (fun v135 H => ?_)))
        show wq_L d Q 1826 [oR 17 0, oR 11 0, oR 12 0, oI l3] [aI v135] (sh_E h)
        have c := sh_okG H
        replace H := sh_okH H
        refine ai_WP_steps mc_L (sh_CM d) 6 (And.intro c ?_)
        show wq_L d Q 1832 [oR 17 0, oR 11 0, oR 12 0, oI l3] [aI (h.1 17 0 (l3 + (1 : Int32)).toNatClampNeg), aR 12 0, aI v135] (sh_E h)
        have c := sh_okG H
        replace H := sh_okH H
        refine ai_WP_steps mc_L (sh_CM d) 5 (And.intro c ?_)
        show wq_L d Q 1837 [oR 17 0, oR 11 0, oR 12 0, oI l3] [aI (h.1 17 0 (l3 + (2 : Int32)).toNatClampNeg), aI (h.1 17 0 (l3 + (1 : Int32)).toNatClampNeg), aR 12 0, aI v135] (sh_E h)
        have c := sh_okG H
        replace H := sh_okH H
        refine ai_WP_steps mc_L (sh_CM d) 5 (And.intro c ?_)
        show wq_L d Q 1842 [oR 17 0, oR 11 0, oR 12 0, oI l3] [aI (h.1 17 0 (l3 + (3 : Int32)).toNatClampNeg), aI (h.1 17 0 (l3 + (2 : Int32)).toNatClampNeg), aI (h.1 17 0 (l3 + (1 : Int32)).toNatClampNeg), aR 12 0, aI v135] (sh_E h)
        have c := sh_okG H
        replace H := sh_okH H
        refine ai_WP_steps mc_L (sh_CM d) 5 (And.intro c ?_)
        show wq_L d Q 1847 [oR 17 0, oR 11 0, oR 12 0, oI l3] [aI (h.1 17 0 (l3 + (4 : Int32)).toNatClampNeg), aI (h.1 17 0 (l3 + (3 : Int32)).toNatClampNeg), aI (h.1 17 0 (l3 + (2 : Int32)).toNatClampNeg), aI (h.1 17 0 (l3 + (1 : Int32)).toNatClampNeg), aR 12 0, aI v135] (sh_E h)
        refine ai_WP_steps mc_L (sh_CM d) 1 (And.intro (Nat.le_of_ble_eq_true rfl) (x_M_trickle N (Nat.le_trans (Nat.le_of_ble_eq_true rfl) hd) (h.1 17 0 (l3 + (1 : Int32)).toNatClampNeg) (h.1 17 0 (l3 + (2 : Int32)).toNatClampNeg) (h.1 17 0 (l3 + (3 : Int32)).toNatClampNeg) (h.1 17 0 (l3 + (4 : Int32)).toNatClampNeg) h (sh_okB H) (fun v136 H => ?_)))
        show wq_L d Q 1850 [oR 17 0, oR 11 0, oR 12 0, oI l3] [aI v136, aI v135] (sh_E h)
        refine ai_WP_steps mc_L (sh_CM d) 1 (And.intro (fun c => ?_) (fun c => ?_))
        · replace H := sh_okT c H
          exact x_law_b2107 N hd hR k18 hk18 l3 h H
        · replace H := sh_okF c H
          exact hk1853 h H
      replace H := sh_okF c H
      refine And.intro (fun c => ?_) (fun c => ?_)
      · replace H := sh_okT c H
        show wq_L d Q 1855 [oR 17 0, oR 11 0, oR 12 0, oI l3] [] (sh_E h)
        have c := sh_okG H
        replace H := sh_okH H
        refine ai_WP_steps mc_L (sh_CM d) 6 (And.intro c ?_)
        show wq_L d Q 1861 [oR 17 0, oR 11 0, oR 12 0, oI l3] [aI (h.1 17 0 (l3 + (1 : Int32)).toNatClampNeg), aR 11 0] (sh_E h)
        have c := sh_okG H
        replace H := sh_okH H
        refine ai_WP_steps mc_L (sh_CM d) 5 (And.intro c ?_)
        show wq_L d Q 1866 [oR 17 0, oR 11 0, oR 12 0, oI l3] [aI (h.1 17 0 (l3 + (2 : Int32)).toNatClampNeg), aI (h.1 17 0 (l3 + (1 : Int32)).toNatClampNeg), aR 11 0] (sh_E h)
        have c := sh_okG H
        replace H := sh_okH H
        refine ai_WP_steps mc_L (sh_CM d) 5 (And.intro c ?_)
        show wq_L d Q 1871 [oR 17 0, oR 11 0, oR 12 0, oI l3] [aI (h.1 17 0 (l3 + (3 : Int32)).toNatClampNeg), aI (h.1 17 0 (l3 + (2 : Int32)).toNatClampNeg), aI (h.1 17 0 (l3 + (1 : Int32)).toNatClampNeg), aR 11 0] (sh_E h)
        have c := sh_okG H
        replace H := sh_okH H
        refine ai_WP_steps mc_L (sh_CM d) 5 (And.intro c ?_)
        show wq_L d Q 1876 [oR 17 0, oR 11 0, oR 12 0, oI l3] [aI (h.1 17 0 (l3 + (4 : Int32)).toNatClampNeg), aI (h.1 17 0 (l3 + (3 : Int32)).toNatClampNeg), aI (h.1 17 0 (l3 + (2 : Int32)).toNatClampNeg), aI (h.1 17 0 (l3 + (1 : Int32)).toNatClampNeg), aR 11 0] (sh_E h)
        refine ai_WP_steps mc_L (sh_CM d) 1 (And.intro (Nat.le_of_ble_eq_true rfl) (x_CB_trickled N (Nat.le_trans (Nat.le_of_ble_eq_true rfl) hd) (h.1 17 0 (l3 + (1 : Int32)).toNatClampNeg) (h.1 17 0 (l3 + (2 : Int32)).toNatClampNeg) (h.1 17 0 (l3 + (3 : Int32)).toNatClampNeg) (h.1 17 0 (l3 + (4 : Int32)).toNatClampNeg) h (sh_okB H) (fun v137 H => ?_)))
        show wq_L d Q 1879 [oR 17 0, oR 11 0, oR 12 0, oI l3] [aI v137] (sh_E h)
        have c := sh_okG H
        replace H := sh_okH H
        refine ai_WP_steps mc_L (sh_CM d) 6 (And.intro c ?_)
        show wq_L d Q 1885 [oR 17 0, oR 11 0, oR 12 0, oI l3] [aI (h.1 17 0 (l3 + (1 : Int32)).toNatClampNeg), aR 12 0, aI v137] (sh_E h)
        have c := sh_okG H
        replace H := sh_okH H
        refine ai_WP_steps mc_L (sh_CM d) 5 (And.intro c ?_)
        show wq_L d Q 1890 [oR 17 0, oR 11 0, oR 12 0, oI l3] [aI (h.1 17 0 (l3 + (2 : Int32)).toNatClampNeg), aI (h.1 17 0 (l3 + (1 : Int32)).toNatClampNeg), aR 12 0, aI v137] (sh_E h)
        have c := sh_okG H
        replace H := sh_okH H
        refine ai_WP_steps mc_L (sh_CM d) 5 (And.intro c ?_)
        show wq_L d Q 1895 [oR 17 0, oR 11 0, oR 12 0, oI l3] [aI (h.1 17 0 (l3 + (3 : Int32)).toNatClampNeg), aI (h.1 17 0 (l3 + (2 : Int32)).toNatClampNeg), aI (h.1 17 0 (l3 + (1 : Int32)).toNatClampNeg), aR 12 0, aI v137] (sh_E h)
        have c := sh_okG H
        replace H := sh_okH H
        refine ai_WP_steps mc_L (sh_CM d) 5 (And.intro c ?_)
        show wq_L d Q 1900 [oR 17 0, oR 11 0, oR 12 0, oI l3] [aI (h.1 17 0 (l3 + (4 : Int32)).toNatClampNeg), aI (h.1 17 0 (l3 + (3 : Int32)).toNatClampNeg), aI (h.1 17 0 (l3 + (2 : Int32)).toNatClampNeg), aI (h.1 17 0 (l3 + (1 : Int32)).toNatClampNeg), aR 12 0, aI v137] (sh_E h)
        refine ai_WP_steps mc_L (sh_CM d) 1 (And.intro (Nat.le_of_ble_eq_true rfl) (x_M_trickled N (Nat.le_trans (Nat.le_of_ble_eq_true rfl) hd) (h.1 17 0 (l3 + (1 : Int32)).toNatClampNeg) (h.1 17 0 (l3 + (2 : Int32)).toNatClampNeg) (h.1 17 0 (l3 + (3 : Int32)).toNatClampNeg) (h.1 17 0 (l3 + (4 : Int32)).toNatClampNeg) h (sh_okB H) (fun v138 H => ?_)))
        show wq_L d Q 1903 [oR 17 0, oR 11 0, oR 12 0, oI l3] [aI v138, aI v137] (sh_E h)
        refine ai_WP_steps mc_L (sh_CM d) 1 (And.intro (fun c => ?_) (fun c => ?_))
        · replace H := sh_okT c H
          exact x_law_b2107 N hd hR k18 hk18 l3 h H
        · replace H := sh_okF c H
          exact hk1906 h H
      replace H := sh_okF c H
      refine And.intro (fun c => ?_) (fun c => ?_)
      · replace H := sh_okT c H
        show wq_L d Q 1908 [oR 17 0, oR 11 0, oR 12 0, oI l3] [] (sh_E h)
        have c := sh_okG H
        replace H := sh_okH H
        refine ai_WP_steps mc_L (sh_CM d) 6 (And.intro c ?_)
        show wq_L d Q 1914 [oR 17 0, oR 11 0, oR 12 0, oI l3] [aI (h.1 17 0 (l3 + (1 : Int32)).toNatClampNeg), aR 11 0] (sh_E h)
        have c := sh_okG H
        replace H := sh_okH H
        refine ai_WP_steps mc_L (sh_CM d) 5 (And.intro c ?_)
        show wq_L d Q 1919 [oR 17 0, oR 11 0, oR 12 0, oI l3] [aI (h.1 17 0 (l3 + (2 : Int32)).toNatClampNeg), aI (h.1 17 0 (l3 + (1 : Int32)).toNatClampNeg), aR 11 0] (sh_E h)
        have c := sh_okG H
        replace H := sh_okH H
        refine ai_WP_steps mc_L (sh_CM d) 5 (And.intro c ?_)
        show wq_L d Q 1924 [oR 17 0, oR 11 0, oR 12 0, oI l3] [aI (h.1 17 0 (l3 + (3 : Int32)).toNatClampNeg), aI (h.1 17 0 (l3 + (2 : Int32)).toNatClampNeg), aI (h.1 17 0 (l3 + (1 : Int32)).toNatClampNeg), aR 11 0] (sh_E h)
        refine ai_WP_steps mc_L (sh_CM d) 1 (And.intro (Nat.le_of_ble_eq_true rfl) (x_CB_burnAt N (Nat.le_trans (Nat.le_of_ble_eq_true rfl) hd) (h.1 17 0 (l3 + (1 : Int32)).toNatClampNeg) (h.1 17 0 (l3 + (2 : Int32)).toNatClampNeg) (h.1 17 0 (l3 + (3 : Int32)).toNatClampNeg) h (sh_okB H) (fun v139 H => ?_)))
        show wq_L d Q 1927 [oR 17 0, oR 11 0, oR 12 0, oI l3] [aI v139] (sh_E h)
        have c := sh_okG H
        replace H := sh_okH H
        refine ai_WP_steps mc_L (sh_CM d) 6 (And.intro c ?_)
        show wq_L d Q 1933 [oR 17 0, oR 11 0, oR 12 0, oI l3] [aI (h.1 17 0 (l3 + (1 : Int32)).toNatClampNeg), aR 12 0, aI v139] (sh_E h)
        have c := sh_okG H
        replace H := sh_okH H
        refine ai_WP_steps mc_L (sh_CM d) 5 (And.intro c ?_)
        show wq_L d Q 1938 [oR 17 0, oR 11 0, oR 12 0, oI l3] [aI (h.1 17 0 (l3 + (2 : Int32)).toNatClampNeg), aI (h.1 17 0 (l3 + (1 : Int32)).toNatClampNeg), aR 12 0, aI v139] (sh_E h)
        have c := sh_okG H
        replace H := sh_okH H
        refine ai_WP_steps mc_L (sh_CM d) 5 (And.intro c ?_)
        show wq_L d Q 1943 [oR 17 0, oR 11 0, oR 12 0, oI l3] [aI (h.1 17 0 (l3 + (3 : Int32)).toNatClampNeg), aI (h.1 17 0 (l3 + (2 : Int32)).toNatClampNeg), aI (h.1 17 0 (l3 + (1 : Int32)).toNatClampNeg), aR 12 0, aI v139] (sh_E h)
        refine ai_WP_steps mc_L (sh_CM d) 1 (And.intro (Nat.le_of_ble_eq_true rfl) (x_M_burnAt N (Nat.le_trans (Nat.le_of_ble_eq_true rfl) hd) (h.1 17 0 (l3 + (1 : Int32)).toNatClampNeg) (h.1 17 0 (l3 + (2 : Int32)).toNatClampNeg) (h.1 17 0 (l3 + (3 : Int32)).toNatClampNeg) h (sh_okB H) (fun v140 H => ?_)))
        show wq_L d Q 1946 [oR 17 0, oR 11 0, oR 12 0, oI l3] [aI v140, aI v139] (sh_E h)
        refine ai_WP_steps mc_L (sh_CM d) 1 (And.intro (fun c => ?_) (fun c => ?_))
        · replace H := sh_okT c H
          exact x_law_b2107 N hd hR k18 hk18 l3 h H
        · replace H := sh_okF c H
          exact hk1949 h H
      replace H := sh_okF c H
      refine And.intro (fun c => ?_) (fun c => ?_)
      · replace H := sh_okT c H
        show wq_L d Q 1951 [oR 17 0, oR 11 0, oR 12 0, oI l3] [] (sh_E h)
        have c := sh_okG H
        replace H := sh_okH H
        refine ai_WP_steps mc_L (sh_CM d) 6 (And.intro c ?_)
        show wq_L d Q 1957 [oR 17 0, oR 11 0, oR 12 0, oI l3] [aI (h.1 17 0 (l3 + (1 : Int32)).toNatClampNeg), aR 11 0] (sh_E h)
        have c := sh_okG H
        replace H := sh_okH H
        refine ai_WP_steps mc_L (sh_CM d) 5 (And.intro c ?_)
        show wq_L d Q 1962 [oR 17 0, oR 11 0, oR 12 0, oI l3] [aI (h.1 17 0 (l3 + (2 : Int32)).toNatClampNeg), aI (h.1 17 0 (l3 + (1 : Int32)).toNatClampNeg), aR 11 0] (sh_E h)
        have c := sh_okG H
        replace H := sh_okH H
        refine ai_WP_steps mc_L (sh_CM d) 5 (And.intro c ?_)
        show wq_L d Q 1967 [oR 17 0, oR 11 0, oR 12 0, oI l3] [aI (h.1 17 0 (l3 + (3 : Int32)).toNatClampNeg), aI (h.1 17 0 (l3 + (2 : Int32)).toNatClampNeg), aI (h.1 17 0 (l3 + (1 : Int32)).toNatClampNeg), aR 11 0] (sh_E h)
        have c := sh_okG H
        replace H := sh_okH H
        refine ai_WP_steps mc_L (sh_CM d) 5 (And.intro c ?_)
        show wq_L d Q 1972 [oR 17 0, oR 11 0, oR 12 0, oI l3] [aI (h.1 17 0 (l3 + (4 : Int32)).toNatClampNeg), aI (h.1 17 0 (l3 + (3 : Int32)).toNatClampNeg), aI (h.1 17 0 (l3 + (2 : Int32)).toNatClampNeg), aI (h.1 17 0 (l3 + (1 : Int32)).toNatClampNeg), aR 11 0] (sh_E h)
        have c := sh_okG H
        replace H := sh_okH H
        refine ai_WP_steps mc_L (sh_CM d) 5 (And.intro c ?_)
        show wq_L d Q 1977 [oR 17 0, oR 11 0, oR 12 0, oI l3] [aI (h.1 17 0 (l3 + (5 : Int32)).toNatClampNeg), aI (h.1 17 0 (l3 + (4 : Int32)).toNatClampNeg), aI (h.1 17 0 (l3 + (3 : Int32)).toNatClampNeg), aI (h.1 17 0 (l3 + (2 : Int32)).toNatClampNeg), aI (h.1 17 0 (l3 + (1 : Int32)).toNatClampNeg), aR 11 0] (sh_E h)
        have c := sh_okG H
        replace H := sh_okH H
        refine ai_WP_steps mc_L (sh_CM d) 5 (And.intro c ?_)
        show wq_L d Q 1983 [oR 17 0, oR 11 0, oR 12 0, oI l3] [aI (h.1 17 0 (l3 + (6 : Int32)).toNatClampNeg), aI (h.1 17 0 (l3 + (5 : Int32)).toNatClampNeg), aI (h.1 17 0 (l3 + (4 : Int32)).toNatClampNeg), aI (h.1 17 0 (l3 + (3 : Int32)).toNatClampNeg), aI (h.1 17 0 (l3 + (2 : Int32)).toNatClampNeg), aI (h.1 17 0 (l3 + (1 : Int32)).toNatClampNeg), aR 11 0] (sh_E h)
        have c := sh_okG H
        replace H := sh_okH H
        refine ai_WP_steps mc_L (sh_CM d) 5 (And.intro c ?_)
        show wq_L d Q 1989 [oR 17 0, oR 11 0, oR 12 0, oI l3] [aI (h.1 17 0 (l3 + (7 : Int32)).toNatClampNeg), aI (h.1 17 0 (l3 + (6 : Int32)).toNatClampNeg), aI (h.1 17 0 (l3 + (5 : Int32)).toNatClampNeg), aI (h.1 17 0 (l3 + (4 : Int32)).toNatClampNeg), aI (h.1 17 0 (l3 + (3 : Int32)).toNatClampNeg), aI (h.1 17 0 (l3 + (2 : Int32)).toNatClampNeg), aI (h.1 17 0 (l3 + (1 : Int32)).toNatClampNeg), aR 11 0] (sh_E h)
        refine ai_WP_steps mc_L (sh_CM d) 1 (And.intro (Nat.le_of_ble_eq_true rfl) (x_CB_sort (Nat.le_trans (Nat.le_of_ble_eq_true rfl) hd) (h.1 17 0 (l3 + (1 : Int32)).toNatClampNeg) (h.1 17 0 (l3 + (2 : Int32)).toNatClampNeg) (h.1 17 0 (l3 + (3 : Int32)).toNatClampNeg) (h.1 17 0 (l3 + (4 : Int32)).toNatClampNeg) (h.1 17 0 (l3 + (5 : Int32)).toNatClampNeg) (h.1 17 0 (l3 + (6 : Int32)).toNatClampNeg) (h.1 17 0 (l3 + (7 : Int32)).toNatClampNeg) h (sh_okB H) (fun v141 H => ?_)))
        show wq_L d Q 1992 [oR 17 0, oR 11 0, oR 12 0, oI l3] [aI v141] (sh_E h)
        have c := sh_okG H
        replace H := sh_okH H
        refine ai_WP_steps mc_L (sh_CM d) 6 (And.intro c ?_)
        show wq_L d Q 1998 [oR 17 0, oR 11 0, oR 12 0, oI l3] [aI (h.1 17 0 (l3 + (1 : Int32)).toNatClampNeg), aR 12 0, aI v141] (sh_E h)
        have c := sh_okG H
        replace H := sh_okH H
        refine ai_WP_steps mc_L (sh_CM d) 5 (And.intro c ?_)
        show wq_L d Q 2003 [oR 17 0, oR 11 0, oR 12 0, oI l3] [aI (h.1 17 0 (l3 + (2 : Int32)).toNatClampNeg), aI (h.1 17 0 (l3 + (1 : Int32)).toNatClampNeg), aR 12 0, aI v141] (sh_E h)
        have c := sh_okG H
        replace H := sh_okH H
        refine ai_WP_steps mc_L (sh_CM d) 5 (And.intro c ?_)
        show wq_L d Q 2008 [oR 17 0, oR 11 0, oR 12 0, oI l3] [aI (h.1 17 0 (l3 + (3 : Int32)).toNatClampNeg), aI (h.1 17 0 (l3 + (2 : Int32)).toNatClampNeg), aI (h.1 17 0 (l3 + (1 : Int32)).toNatClampNeg), aR 12 0, aI v141] (sh_E h)
        have c := sh_okG H
        replace H := sh_okH H
        refine ai_WP_steps mc_L (sh_CM d) 5 (And.intro c ?_)
        show wq_L d Q 2013 [oR 17 0, oR 11 0, oR 12 0, oI l3] [aI (h.1 17 0 (l3 + (4 : Int32)).toNatClampNeg), aI (h.1 17 0 (l3 + (3 : Int32)).toNatClampNeg), aI (h.1 17 0 (l3 + (2 : Int32)).toNatClampNeg), aI (h.1 17 0 (l3 + (1 : Int32)).toNatClampNeg), aR 12 0, aI v141] (sh_E h)
        have c := sh_okG H
        replace H := sh_okH H
        refine ai_WP_steps mc_L (sh_CM d) 5 (And.intro c ?_)
        show wq_L d Q 2018 [oR 17 0, oR 11 0, oR 12 0, oI l3] [aI (h.1 17 0 (l3 + (5 : Int32)).toNatClampNeg), aI (h.1 17 0 (l3 + (4 : Int32)).toNatClampNeg), aI (h.1 17 0 (l3 + (3 : Int32)).toNatClampNeg), aI (h.1 17 0 (l3 + (2 : Int32)).toNatClampNeg), aI (h.1 17 0 (l3 + (1 : Int32)).toNatClampNeg), aR 12 0, aI v141] (sh_E h)
        have c := sh_okG H
        replace H := sh_okH H
        refine ai_WP_steps mc_L (sh_CM d) 5 (And.intro c ?_)
        show wq_L d Q 2024 [oR 17 0, oR 11 0, oR 12 0, oI l3] [aI (h.1 17 0 (l3 + (6 : Int32)).toNatClampNeg), aI (h.1 17 0 (l3 + (5 : Int32)).toNatClampNeg), aI (h.1 17 0 (l3 + (4 : Int32)).toNatClampNeg), aI (h.1 17 0 (l3 + (3 : Int32)).toNatClampNeg), aI (h.1 17 0 (l3 + (2 : Int32)).toNatClampNeg), aI (h.1 17 0 (l3 + (1 : Int32)).toNatClampNeg), aR 12 0, aI v141] (sh_E h)
        have c := sh_okG H
        replace H := sh_okH H
        refine ai_WP_steps mc_L (sh_CM d) 5 (And.intro c ?_)
        show wq_L d Q 2030 [oR 17 0, oR 11 0, oR 12 0, oI l3] [aI (h.1 17 0 (l3 + (7 : Int32)).toNatClampNeg), aI (h.1 17 0 (l3 + (6 : Int32)).toNatClampNeg), aI (h.1 17 0 (l3 + (5 : Int32)).toNatClampNeg), aI (h.1 17 0 (l3 + (4 : Int32)).toNatClampNeg), aI (h.1 17 0 (l3 + (3 : Int32)).toNatClampNeg), aI (h.1 17 0 (l3 + (2 : Int32)).toNatClampNeg), aI (h.1 17 0 (l3 + (1 : Int32)).toNatClampNeg), aR 12 0, aI v141] (sh_E h)
        refine ai_WP_steps mc_L (sh_CM d) 1 (And.intro (Nat.le_of_ble_eq_true rfl) (x_M_sort (Nat.le_trans (Nat.le_of_ble_eq_true rfl) hd) (h.1 17 0 (l3 + (1 : Int32)).toNatClampNeg) (h.1 17 0 (l3 + (2 : Int32)).toNatClampNeg) (h.1 17 0 (l3 + (3 : Int32)).toNatClampNeg) (h.1 17 0 (l3 + (4 : Int32)).toNatClampNeg) (h.1 17 0 (l3 + (5 : Int32)).toNatClampNeg) (h.1 17 0 (l3 + (6 : Int32)).toNatClampNeg) (h.1 17 0 (l3 + (7 : Int32)).toNatClampNeg) h (sh_okB H) (fun v142 H => ?_)))
        show wq_L d Q 2033 [oR 17 0, oR 11 0, oR 12 0, oI l3] [aI v142, aI v141] (sh_E h)
        refine ai_WP_steps mc_L (sh_CM d) 1 (And.intro (fun c => ?_) (fun c => ?_))
        · replace H := sh_okT c H
          exact x_law_b2107 N hd hR k18 hk18 l3 h H
        · replace H := sh_okF c H
          exact hk2036 h H
      replace H := sh_okF c H
      refine And.intro (fun c => ?_) (fun c => ?_)
      · replace H := sh_okT c H
        show wq_L d Q 2038 [oR 17 0, oR 11 0, oR 12 0, oI l3] [] (sh_E h)
        have c := sh_okG H
        replace H := sh_okH H
        refine ai_WP_steps mc_L (sh_CM d) 6 (And.intro c ?_)
        show wq_L d Q 2044 [oR 17 0, oR 11 0, oR 12 0, oI l3] [aI (h.1 17 0 (l3 + (1 : Int32)).toNatClampNeg), aR 11 0] (sh_E h)
        refine ai_WP_steps mc_L (sh_CM d) 1 (And.intro (Nat.le_of_ble_eq_true rfl) (x_CB_hold N (Nat.le_trans (Nat.le_of_ble_eq_true rfl) hd) (h.1 17 0 (l3 + (1 : Int32)).toNatClampNeg) h (sh_okB H) (fun v143 h144 H => ?_)))
        show wq_L d Q 2047 [oR 17 0, oR 11 0, oR 12 0, oI l3] [aI v143] (sh_E h144)
        have c := sh_okG H
        replace H := sh_okH H
        refine ai_WP_steps mc_L (sh_CM d) 6 (And.intro c ?_)
        show wq_L d Q 2053 [oR 17 0, oR 11 0, oR 12 0, oI l3] [aI (h144.1 17 0 (l3 + (1 : Int32)).toNatClampNeg), aR 12 0, aI v143] (sh_E h144)
        refine ai_WP_steps mc_L (sh_CM d) 1 (And.intro (Nat.le_of_ble_eq_true rfl) (x_M_hold N (Nat.le_trans (Nat.le_of_ble_eq_true rfl) hd) (h144.1 17 0 (l3 + (1 : Int32)).toNatClampNeg) h144 (sh_okB H) (fun v145 h146 H => ?_)))
        show wq_L d Q 2056 [oR 17 0, oR 11 0, oR 12 0, oI l3] [aI v145, aI v143] (sh_E h146)
        refine ai_WP_steps mc_L (sh_CM d) 1 (And.intro (fun c => ?_) (fun c => ?_))
        · replace H := sh_okT c H
          exact x_law_b2107 N hd hR k18 hk18 l3 h146 H
        · replace H := sh_okF c H
          exact hk2059 h146 H
      replace H := sh_okF c H
      refine And.intro (fun c => ?_) (fun c => ?_)
      · replace H := sh_okT c H
        show wq_L d Q 2061 [oR 17 0, oR 11 0, oR 12 0, oI l3] [] (sh_E h)
        have c := sh_okG H
        replace H := sh_okH H
        refine ai_WP_steps mc_L (sh_CM d) 6 (And.intro c ?_)
        show wq_L d Q 2067 [oR 17 0, oR 11 0, oR 12 0, oI l3] [aI (h.1 17 0 (l3 + (1 : Int32)).toNatClampNeg), aR 11 0] (sh_E h)
        refine ai_WP_steps mc_L (sh_CM d) 1 (And.intro (Nat.le_of_ble_eq_true rfl) (x_CB_restore N (Nat.le_trans (Nat.le_of_ble_eq_true rfl) hd) (h.1 17 0 (l3 + (1 : Int32)).toNatClampNeg) h (sh_okB H) (fun v147 h148 H => ?_)))
        show wq_L d Q 2070 [oR 17 0, oR 11 0, oR 12 0, oI l3] [aI v147] (sh_E h148)
        have c := sh_okG H
        replace H := sh_okH H
        refine ai_WP_steps mc_L (sh_CM d) 6 (And.intro c ?_)
        show wq_L d Q 2076 [oR 17 0, oR 11 0, oR 12 0, oI l3] [aI (h148.1 17 0 (l3 + (1 : Int32)).toNatClampNeg), aR 12 0, aI v147] (sh_E h148)
        refine ai_WP_steps mc_L (sh_CM d) 1 (And.intro (Nat.le_of_ble_eq_true rfl) (x_M_restore N (Nat.le_trans (Nat.le_of_ble_eq_true rfl) hd) (h148.1 17 0 (l3 + (1 : Int32)).toNatClampNeg) h148 (sh_okB H) (fun v149 h150 H => ?_)))
        show wq_L d Q 2079 [oR 17 0, oR 11 0, oR 12 0, oI l3] [aI v149, aI v147] (sh_E h150)
        refine ai_WP_steps mc_L (sh_CM d) 1 (And.intro (fun c => ?_) (fun c => ?_))
        · replace H := sh_okT c H
          exact x_law_b2107 N hd hR k18 hk18 l3 h150 H
        · replace H := sh_okF c H
          exact hk2082 h150 H
      replace H := sh_okF c H
      refine And.intro (fun c => ?_) (fun c => ?_)
      · replace H := sh_okT c H
        show wq_L d Q 2084 [oR 17 0, oR 11 0, oR 12 0, oI l3] [] (sh_E h)
        have c := sh_okG H
        replace H := sh_okH H
        refine ai_WP_steps mc_L (sh_CM d) 6 (And.intro c ?_)
        show wq_L d Q 2090 [oR 17 0, oR 11 0, oR 12 0, oI l3] [aI (h.1 17 0 (l3 + (1 : Int32)).toNatClampNeg), aR 11 0] (sh_E h)
        refine ai_WP_steps mc_L (sh_CM d) 1 (And.intro (Nat.le_of_ble_eq_true rfl) (x_CB_count (Nat.le_trans (Nat.le_of_ble_eq_true rfl) hd) (h.1 17 0 (l3 + (1 : Int32)).toNatClampNeg) h (sh_okB H) (fun v151 H => ?_)))
        show wq_L d Q 2093 [oR 17 0, oR 11 0, oR 12 0, oI l3] [aI v151] (sh_E h)
        have c := sh_okG H
        replace H := sh_okH H
        refine ai_WP_steps mc_L (sh_CM d) 6 (And.intro c ?_)
        show wq_L d Q 2099 [oR 17 0, oR 11 0, oR 12 0, oI l3] [aI (h.1 17 0 (l3 + (1 : Int32)).toNatClampNeg), aR 12 0, aI v151] (sh_E h)
        refine ai_WP_steps mc_L (sh_CM d) 1 (And.intro (Nat.le_of_ble_eq_true rfl) (x_M_count (Nat.le_trans (Nat.le_of_ble_eq_true rfl) hd) (h.1 17 0 (l3 + (1 : Int32)).toNatClampNeg) h (sh_okB H) (fun v152 H => ?_)))
        show wq_L d Q 2102 [oR 17 0, oR 11 0, oR 12 0, oI l3] [aI v152, aI v151] (sh_E h)
        refine ai_WP_steps mc_L (sh_CM d) 1 (And.intro (fun c => ?_) (fun c => ?_))
        · replace H := sh_okT c H
          exact x_law_b2107 N hd hR k18 hk18 l3 h H
        · replace H := sh_okF c H
          exact hk2105 h H
      replace H := sh_okF c H
      exact x_law_b2107 N hd hR k18 hk18 l3 h H
def f_law_b289 (N : Nat)    (h : sh_H) : Option (Int32 × sh_H) := (some ((ai_nar 1 (0 : Int32)), h))
theorem x_law_b289 (N : Nat) {d : Nat} (hd : 67 ≤ d) {Q : ai_Q} {R : Int32 × sh_H → Prop} (hR : ∀ r h, R (r, h) → Q (some (aI r)) (sh_E h))    {d0 d1 d2 d3 : Option ai_V} (h : sh_H) (H : sh_ok (f_law_b289 N h) R) : wq_L d Q 289 [d0, d1, d2, d3] [] (sh_E h) := by
  exact ai_WP_steps mc_L (sh_CM d) 2 (hR (ai_nar 1 (0 : Int32)) h H)
def f_law_b312 (N : Nat)    (h : sh_H) : Option (Int32 × sh_H) := (some ((ai_nar 1 (0 : Int32)), h))
theorem x_law_b312 (N : Nat) {d : Nat} (hd : 67 ≤ d) {Q : ai_Q} {R : Int32 × sh_H → Prop} (hR : ∀ r h, R (r, h) → Q (some (aI r)) (sh_E h))    {d0 d1 d2 d3 : Option ai_V} (h : sh_H) (H : sh_ok (f_law_b312 N h) R) : wq_L d Q 312 [d0, d1, d2, d3] [] (sh_E h) := by
  exact ai_WP_steps mc_L (sh_CM d) 2 (hR (ai_nar 1 (0 : Int32)) h H)
def f_law_b325 (N : Nat)    (h : sh_H) : Option (Int32 × sh_H) := (some ((ai_nar 1 (0 : Int32)), h))
theorem x_law_b325 (N : Nat) {d : Nat} (hd : 67 ≤ d) {Q : ai_Q} {R : Int32 × sh_H → Prop} (hR : ∀ r h, R (r, h) → Q (some (aI r)) (sh_E h))    {d0 d1 d2 d3 : Option ai_V} (h : sh_H) (H : sh_ok (f_law_b325 N h) R) : wq_L d Q 325 [d0, d1, d2, d3] [] (sh_E h) := by
  exact ai_WP_steps mc_L (sh_CM d) 2 (hR (ai_nar 1 (0 : Int32)) h H)
def f_law_b338 (N : Nat)    (h : sh_H) : Option (Int32 × sh_H) := (some ((ai_nar 1 (0 : Int32)), h))
theorem x_law_b338 (N : Nat) {d : Nat} (hd : 67 ≤ d) {Q : ai_Q} {R : Int32 × sh_H → Prop} (hR : ∀ r h, R (r, h) → Q (some (aI r)) (sh_E h))    {d0 d1 d2 d3 : Option ai_V} (h : sh_H) (H : sh_ok (f_law_b338 N h) R) : wq_L d Q 338 [d0, d1, d2, d3] [] (sh_E h) := by
  exact ai_WP_steps mc_L (sh_CM d) 2 (hR (ai_nar 1 (0 : Int32)) h H)
def f_law_b371 (N : Nat)    (h : sh_H) : Option (Int32 × sh_H) := (some ((ai_nar 1 (0 : Int32)), h))
theorem x_law_b371 (N : Nat) {d : Nat} (hd : 67 ≤ d) {Q : ai_Q} {R : Int32 × sh_H → Prop} (hR : ∀ r h, R (r, h) → Q (some (aI r)) (sh_E h))    {d0 d1 d2 d3 : Option ai_V} (h : sh_H) (H : sh_ok (f_law_b371 N h) R) : wq_L d Q 371 [d0, d1, d2, d3] [] (sh_E h) := by
  exact ai_WP_steps mc_L (sh_CM d) 2 (hR (ai_nar 1 (0 : Int32)) h H)
def f_law_b404 (N : Nat)    (h : sh_H) : Option (Int32 × sh_H) := (some ((ai_nar 1 (0 : Int32)), h))
theorem x_law_b404 (N : Nat) {d : Nat} (hd : 67 ≤ d) {Q : ai_Q} {R : Int32 × sh_H → Prop} (hR : ∀ r h, R (r, h) → Q (some (aI r)) (sh_E h))    {d0 d1 d2 d3 : Option ai_V} (h : sh_H) (H : sh_ok (f_law_b404 N h) R) : wq_L d Q 404 [d0, d1, d2, d3] [] (sh_E h) := by
  exact ai_WP_steps mc_L (sh_CM d) 2 (hR (ai_nar 1 (0 : Int32)) h H)
def f_law_b437 (N : Nat)    (h : sh_H) : Option (Int32 × sh_H) := (some ((ai_nar 1 (0 : Int32)), h))
theorem x_law_b437 (N : Nat) {d : Nat} (hd : 67 ≤ d) {Q : ai_Q} {R : Int32 × sh_H → Prop} (hR : ∀ r h, R (r, h) → Q (some (aI r)) (sh_E h))    {d0 d1 d2 d3 : Option ai_V} (h : sh_H) (H : sh_ok (f_law_b437 N h) R) : wq_L d Q 437 [d0, d1, d2, d3] [] (sh_E h) := by
  exact ai_WP_steps mc_L (sh_CM d) 2 (hR (ai_nar 1 (0 : Int32)) h H)
def f_law_b480 (N : Nat)    (h : sh_H) : Option (Int32 × sh_H) := (some ((ai_nar 1 (0 : Int32)), h))
theorem x_law_b480 (N : Nat) {d : Nat} (hd : 67 ≤ d) {Q : ai_Q} {R : Int32 × sh_H → Prop} (hR : ∀ r h, R (r, h) → Q (some (aI r)) (sh_E h))    {d0 d1 d2 d3 : Option ai_V} (h : sh_H) (H : sh_ok (f_law_b480 N h) R) : wq_L d Q 480 [d0, d1, d2, d3] [] (sh_E h) := by
  exact ai_WP_steps mc_L (sh_CM d) 2 (hR (ai_nar 1 (0 : Int32)) h H)
def f_law_b513 (N : Nat)    (h : sh_H) : Option (Int32 × sh_H) := (some ((ai_nar 1 (0 : Int32)), h))
theorem x_law_b513 (N : Nat) {d : Nat} (hd : 67 ≤ d) {Q : ai_Q} {R : Int32 × sh_H → Prop} (hR : ∀ r h, R (r, h) → Q (some (aI r)) (sh_E h))    {d0 d1 d2 d3 : Option ai_V} (h : sh_H) (H : sh_ok (f_law_b513 N h) R) : wq_L d Q 513 [d0, d1, d2, d3] [] (sh_E h) := by
  exact ai_WP_steps mc_L (sh_CM d) 2 (hR (ai_nar 1 (0 : Int32)) h H)
def f_law_b546 (N : Nat)    (h : sh_H) : Option (Int32 × sh_H) := (some ((ai_nar 1 (0 : Int32)), h))
theorem x_law_b546 (N : Nat) {d : Nat} (hd : 67 ≤ d) {Q : ai_Q} {R : Int32 × sh_H → Prop} (hR : ∀ r h, R (r, h) → Q (some (aI r)) (sh_E h))    {d0 d1 d2 d3 : Option ai_V} (h : sh_H) (H : sh_ok (f_law_b546 N h) R) : wq_L d Q 546 [d0, d1, d2, d3] [] (sh_E h) := by
  exact ai_WP_steps mc_L (sh_CM d) 2 (hR (ai_nar 1 (0 : Int32)) h H)
def f_law_b599 (N : Nat)    (h : sh_H) : Option (Int32 × sh_H) := (some ((ai_nar 1 (0 : Int32)), h))
theorem x_law_b599 (N : Nat) {d : Nat} (hd : 67 ≤ d) {Q : ai_Q} {R : Int32 × sh_H → Prop} (hR : ∀ r h, R (r, h) → Q (some (aI r)) (sh_E h))    {d0 d1 d2 d3 : Option ai_V} (h : sh_H) (H : sh_ok (f_law_b599 N h) R) : wq_L d Q 599 [d0, d1, d2, d3] [] (sh_E h) := by
  exact ai_WP_steps mc_L (sh_CM d) 2 (hR (ai_nar 1 (0 : Int32)) h H)
def f_law_b642 (N : Nat)    (h : sh_H) : Option (Int32 × sh_H) := (some ((ai_nar 1 (0 : Int32)), h))
theorem x_law_b642 (N : Nat) {d : Nat} (hd : 67 ≤ d) {Q : ai_Q} {R : Int32 × sh_H → Prop} (hR : ∀ r h, R (r, h) → Q (some (aI r)) (sh_E h))    {d0 d1 d2 d3 : Option ai_V} (h : sh_H) (H : sh_ok (f_law_b642 N h) R) : wq_L d Q 642 [d0, d1, d2, d3] [] (sh_E h) := by
  exact ai_WP_steps mc_L (sh_CM d) 2 (hR (ai_nar 1 (0 : Int32)) h H)
def f_law_b721 (N : Nat)    (h : sh_H) : Option (Int32 × sh_H) := (some ((ai_nar 1 (0 : Int32)), h))
theorem x_law_b721 (N : Nat) {d : Nat} (hd : 67 ≤ d) {Q : ai_Q} {R : Int32 × sh_H → Prop} (hR : ∀ r h, R (r, h) → Q (some (aI r)) (sh_E h))    {d0 d1 d2 d3 : Option ai_V} (h : sh_H) (H : sh_ok (f_law_b721 N h) R) : wq_L d Q 721 [d0, d1, d2, d3] [] (sh_E h) := by
  exact ai_WP_steps mc_L (sh_CM d) 2 (hR (ai_nar 1 (0 : Int32)) h H)
def f_law_b744 (N : Nat)    (h : sh_H) : Option (Int32 × sh_H) := (some ((ai_nar 1 (0 : Int32)), h))
theorem x_law_b744 (N : Nat) {d : Nat} (hd : 67 ≤ d) {Q : ai_Q} {R : Int32 × sh_H → Prop} (hR : ∀ r h, R (r, h) → Q (some (aI r)) (sh_E h))    {d0 d1 d2 d3 : Option ai_V} (h : sh_H) (H : sh_ok (f_law_b744 N h) R) : wq_L d Q 744 [d0, d1, d2, d3] [] (sh_E h) := by
  exact ai_WP_steps mc_L (sh_CM d) 2 (hR (ai_nar 1 (0 : Int32)) h H)
def f_law_b757 (N : Nat)    (h : sh_H) : Option (Int32 × sh_H) := (some ((ai_nar 1 (0 : Int32)), h))
theorem x_law_b757 (N : Nat) {d : Nat} (hd : 67 ≤ d) {Q : ai_Q} {R : Int32 × sh_H → Prop} (hR : ∀ r h, R (r, h) → Q (some (aI r)) (sh_E h))    {d0 d1 d2 d3 : Option ai_V} (h : sh_H) (H : sh_ok (f_law_b757 N h) R) : wq_L d Q 757 [d0, d1, d2, d3] [] (sh_E h) := by
  exact ai_WP_steps mc_L (sh_CM d) 2 (hR (ai_nar 1 (0 : Int32)) h H)
def f_law_b770 (N : Nat)    (h : sh_H) : Option (Int32 × sh_H) := (some ((ai_nar 1 (0 : Int32)), h))
theorem x_law_b770 (N : Nat) {d : Nat} (hd : 67 ≤ d) {Q : ai_Q} {R : Int32 × sh_H → Prop} (hR : ∀ r h, R (r, h) → Q (some (aI r)) (sh_E h))    {d0 d1 d2 d3 : Option ai_V} (h : sh_H) (H : sh_ok (f_law_b770 N h) R) : wq_L d Q 770 [d0, d1, d2, d3] [] (sh_E h) := by
  exact ai_WP_steps mc_L (sh_CM d) 2 (hR (ai_nar 1 (0 : Int32)) h H)
def f_law_b803 (N : Nat)    (h : sh_H) : Option (Int32 × sh_H) := (some ((ai_nar 1 (0 : Int32)), h))
theorem x_law_b803 (N : Nat) {d : Nat} (hd : 67 ≤ d) {Q : ai_Q} {R : Int32 × sh_H → Prop} (hR : ∀ r h, R (r, h) → Q (some (aI r)) (sh_E h))    {d0 d1 d2 d3 : Option ai_V} (h : sh_H) (H : sh_ok (f_law_b803 N h) R) : wq_L d Q 803 [d0, d1, d2, d3] [] (sh_E h) := by
  exact ai_WP_steps mc_L (sh_CM d) 2 (hR (ai_nar 1 (0 : Int32)) h H)
def f_law_b836 (N : Nat)    (h : sh_H) : Option (Int32 × sh_H) := (some ((ai_nar 1 (0 : Int32)), h))
theorem x_law_b836 (N : Nat) {d : Nat} (hd : 67 ≤ d) {Q : ai_Q} {R : Int32 × sh_H → Prop} (hR : ∀ r h, R (r, h) → Q (some (aI r)) (sh_E h))    {d0 d1 d2 d3 : Option ai_V} (h : sh_H) (H : sh_ok (f_law_b836 N h) R) : wq_L d Q 836 [d0, d1, d2, d3] [] (sh_E h) := by
  exact ai_WP_steps mc_L (sh_CM d) 2 (hR (ai_nar 1 (0 : Int32)) h H)
def f_law_b860 (N : Nat)    (h : sh_H) : Option (Int32 × sh_H) := (some ((ai_nar 1 (0 : Int32)), h))
theorem x_law_b860 (N : Nat) {d : Nat} (hd : 67 ≤ d) {Q : ai_Q} {R : Int32 × sh_H → Prop} (hR : ∀ r h, R (r, h) → Q (some (aI r)) (sh_E h))    {d0 d1 d2 d3 : Option ai_V} (h : sh_H) (H : sh_ok (f_law_b860 N h) R) : wq_L d Q 860 [d0, d1, d2, d3] [] (sh_E h) := by
  exact ai_WP_steps mc_L (sh_CM d) 2 (hR (ai_nar 1 (0 : Int32)) h H)
def f_law_b903 (N : Nat)    (h : sh_H) : Option (Int32 × sh_H) := (some ((ai_nar 1 (0 : Int32)), h))
theorem x_law_b903 (N : Nat) {d : Nat} (hd : 67 ≤ d) {Q : ai_Q} {R : Int32 × sh_H → Prop} (hR : ∀ r h, R (r, h) → Q (some (aI r)) (sh_E h))    {d0 d1 d2 d3 : Option ai_V} (h : sh_H) (H : sh_ok (f_law_b903 N h) R) : wq_L d Q 903 [d0, d1, d2, d3] [] (sh_E h) := by
  exact ai_WP_steps mc_L (sh_CM d) 2 (hR (ai_nar 1 (0 : Int32)) h H)
def f_law_b956 (N : Nat)    (h : sh_H) : Option (Int32 × sh_H) := (some ((ai_nar 1 (0 : Int32)), h))
theorem x_law_b956 (N : Nat) {d : Nat} (hd : 67 ≤ d) {Q : ai_Q} {R : Int32 × sh_H → Prop} (hR : ∀ r h, R (r, h) → Q (some (aI r)) (sh_E h))    {d0 d1 d2 d3 : Option ai_V} (h : sh_H) (H : sh_ok (f_law_b956 N h) R) : wq_L d Q 956 [d0, d1, d2, d3] [] (sh_E h) := by
  exact ai_WP_steps mc_L (sh_CM d) 2 (hR (ai_nar 1 (0 : Int32)) h H)
def f_law_b989 (N : Nat)    (h : sh_H) : Option (Int32 × sh_H) := (some ((ai_nar 1 (0 : Int32)), h))
theorem x_law_b989 (N : Nat) {d : Nat} (hd : 67 ≤ d) {Q : ai_Q} {R : Int32 × sh_H → Prop} (hR : ∀ r h, R (r, h) → Q (some (aI r)) (sh_E h))    {d0 d1 d2 d3 : Option ai_V} (h : sh_H) (H : sh_ok (f_law_b989 N h) R) : wq_L d Q 989 [d0, d1, d2, d3] [] (sh_E h) := by
  exact ai_WP_steps mc_L (sh_CM d) 2 (hR (ai_nar 1 (0 : Int32)) h H)
def f_law_b1022 (N : Nat)    (h : sh_H) : Option (Int32 × sh_H) := (some ((ai_nar 1 (0 : Int32)), h))
theorem x_law_b1022 (N : Nat) {d : Nat} (hd : 67 ≤ d) {Q : ai_Q} {R : Int32 × sh_H → Prop} (hR : ∀ r h, R (r, h) → Q (some (aI r)) (sh_E h))    {d0 d1 d2 d3 : Option ai_V} (h : sh_H) (H : sh_ok (f_law_b1022 N h) R) : wq_L d Q 1022 [d0, d1, d2, d3] [] (sh_E h) := by
  exact ai_WP_steps mc_L (sh_CM d) 2 (hR (ai_nar 1 (0 : Int32)) h H)
def f_law_b1098 (N : Nat)    (h : sh_H) : Option (Int32 × sh_H) := (some ((ai_nar 1 (0 : Int32)), h))
theorem x_law_b1098 (N : Nat) {d : Nat} (hd : 67 ≤ d) {Q : ai_Q} {R : Int32 × sh_H → Prop} (hR : ∀ r h, R (r, h) → Q (some (aI r)) (sh_E h))    {d0 d1 d2 d3 : Option ai_V} (h : sh_H) (H : sh_ok (f_law_b1098 N h) R) : wq_L d Q 1098 [d0, d1, d2, d3] [] (sh_E h) := by
  exact ai_WP_steps mc_L (sh_CM d) 2 (hR (ai_nar 1 (0 : Int32)) h H)
def f_law_b1173 (N : Nat)    (h : sh_H) : Option (Int32 × sh_H) := (some ((ai_nar 1 (0 : Int32)), h))
theorem x_law_b1173 (N : Nat) {d : Nat} (hd : 67 ≤ d) {Q : ai_Q} {R : Int32 × sh_H → Prop} (hR : ∀ r h, R (r, h) → Q (some (aI r)) (sh_E h))    {d0 d1 d2 d3 : Option ai_V} (h : sh_H) (H : sh_ok (f_law_b1173 N h) R) : wq_L d Q 1173 [d0, d1, d2, d3] [] (sh_E h) := by
  exact ai_WP_steps mc_L (sh_CM d) 2 (hR (ai_nar 1 (0 : Int32)) h H)
def f_law_b1249 (N : Nat)    (h : sh_H) : Option (Int32 × sh_H) := (some ((ai_nar 1 (0 : Int32)), h))
theorem x_law_b1249 (N : Nat) {d : Nat} (hd : 67 ≤ d) {Q : ai_Q} {R : Int32 × sh_H → Prop} (hR : ∀ r h, R (r, h) → Q (some (aI r)) (sh_E h))    {d0 d1 d2 d3 : Option ai_V} (h : sh_H) (H : sh_ok (f_law_b1249 N h) R) : wq_L d Q 1249 [d0, d1, d2, d3] [] (sh_E h) := by
  exact ai_WP_steps mc_L (sh_CM d) 2 (hR (ai_nar 1 (0 : Int32)) h H)
def f_law_b1292 (N : Nat)    (h : sh_H) : Option (Int32 × sh_H) := (some ((ai_nar 1 (0 : Int32)), h))
theorem x_law_b1292 (N : Nat) {d : Nat} (hd : 67 ≤ d) {Q : ai_Q} {R : Int32 × sh_H → Prop} (hR : ∀ r h, R (r, h) → Q (some (aI r)) (sh_E h))    {d0 d1 d2 d3 : Option ai_V} (h : sh_H) (H : sh_ok (f_law_b1292 N h) R) : wq_L d Q 1292 [d0, d1, d2, d3] [] (sh_E h) := by
  exact ai_WP_steps mc_L (sh_CM d) 2 (hR (ai_nar 1 (0 : Int32)) h H)
def f_law_b1335 (N : Nat)    (h : sh_H) : Option (Int32 × sh_H) := (some ((ai_nar 1 (0 : Int32)), h))
theorem x_law_b1335 (N : Nat) {d : Nat} (hd : 67 ≤ d) {Q : ai_Q} {R : Int32 × sh_H → Prop} (hR : ∀ r h, R (r, h) → Q (some (aI r)) (sh_E h))    {d0 d1 d2 d3 : Option ai_V} (h : sh_H) (H : sh_ok (f_law_b1335 N h) R) : wq_L d Q 1335 [d0, d1, d2, d3] [] (sh_E h) := by
  exact ai_WP_steps mc_L (sh_CM d) 2 (hR (ai_nar 1 (0 : Int32)) h H)
def f_law_b1410 (N : Nat)    (h : sh_H) : Option (Int32 × sh_H) := (some ((ai_nar 1 (0 : Int32)), h))
theorem x_law_b1410 (N : Nat) {d : Nat} (hd : 67 ≤ d) {Q : ai_Q} {R : Int32 × sh_H → Prop} (hR : ∀ r h, R (r, h) → Q (some (aI r)) (sh_E h))    {d0 d1 d2 d3 : Option ai_V} (h : sh_H) (H : sh_ok (f_law_b1410 N h) R) : wq_L d Q 1410 [d0, d1, d2, d3] [] (sh_E h) := by
  exact ai_WP_steps mc_L (sh_CM d) 2 (hR (ai_nar 1 (0 : Int32)) h H)
def f_law_b1479 (N : Nat)    (h : sh_H) : Option (Int32 × sh_H) := (some ((ai_nar 1 (0 : Int32)), h))
theorem x_law_b1479 (N : Nat) {d : Nat} (hd : 67 ≤ d) {Q : ai_Q} {R : Int32 × sh_H → Prop} (hR : ∀ r h, R (r, h) → Q (some (aI r)) (sh_E h))    {d0 d1 d2 d3 : Option ai_V} (h : sh_H) (H : sh_ok (f_law_b1479 N h) R) : wq_L d Q 1479 [d0, d1, d2, d3] [] (sh_E h) := by
  exact ai_WP_steps mc_L (sh_CM d) 2 (hR (ai_nar 1 (0 : Int32)) h H)
def f_law_b1522 (N : Nat)    (h : sh_H) : Option (Int32 × sh_H) := (some ((ai_nar 1 (0 : Int32)), h))
theorem x_law_b1522 (N : Nat) {d : Nat} (hd : 67 ≤ d) {Q : ai_Q} {R : Int32 × sh_H → Prop} (hR : ∀ r h, R (r, h) → Q (some (aI r)) (sh_E h))    {d0 d1 d2 d3 : Option ai_V} (h : sh_H) (H : sh_ok (f_law_b1522 N h) R) : wq_L d Q 1522 [d0, d1, d2, d3] [] (sh_E h) := by
  exact ai_WP_steps mc_L (sh_CM d) 2 (hR (ai_nar 1 (0 : Int32)) h H)
def f_law_b1545 (N : Nat)    (h : sh_H) : Option (Int32 × sh_H) := (some ((ai_nar 1 (0 : Int32)), h))
theorem x_law_b1545 (N : Nat) {d : Nat} (hd : 67 ≤ d) {Q : ai_Q} {R : Int32 × sh_H → Prop} (hR : ∀ r h, R (r, h) → Q (some (aI r)) (sh_E h))    {d0 d1 d2 d3 : Option ai_V} (h : sh_H) (H : sh_ok (f_law_b1545 N h) R) : wq_L d Q 1545 [d0, d1, d2, d3] [] (sh_E h) := by
  exact ai_WP_steps mc_L (sh_CM d) 2 (hR (ai_nar 1 (0 : Int32)) h H)
def f_law_b1588 (N : Nat)    (h : sh_H) : Option (Int32 × sh_H) := (some ((ai_nar 1 (0 : Int32)), h))
theorem x_law_b1588 (N : Nat) {d : Nat} (hd : 67 ≤ d) {Q : ai_Q} {R : Int32 × sh_H → Prop} (hR : ∀ r h, R (r, h) → Q (some (aI r)) (sh_E h))    {d0 d1 d2 d3 : Option ai_V} (h : sh_H) (H : sh_ok (f_law_b1588 N h) R) : wq_L d Q 1588 [d0, d1, d2, d3] [] (sh_E h) := by
  exact ai_WP_steps mc_L (sh_CM d) 2 (hR (ai_nar 1 (0 : Int32)) h H)
def f_law_b1611 (N : Nat)    (h : sh_H) : Option (Int32 × sh_H) := (some ((ai_nar 1 (0 : Int32)), h))
theorem x_law_b1611 (N : Nat) {d : Nat} (hd : 67 ≤ d) {Q : ai_Q} {R : Int32 × sh_H → Prop} (hR : ∀ r h, R (r, h) → Q (some (aI r)) (sh_E h))    {d0 d1 d2 d3 : Option ai_V} (h : sh_H) (H : sh_ok (f_law_b1611 N h) R) : wq_L d Q 1611 [d0, d1, d2, d3] [] (sh_E h) := by
  exact ai_WP_steps mc_L (sh_CM d) 2 (hR (ai_nar 1 (0 : Int32)) h H)
def f_law_b1664 (N : Nat)    (h : sh_H) : Option (Int32 × sh_H) := (some ((ai_nar 1 (0 : Int32)), h))
theorem x_law_b1664 (N : Nat) {d : Nat} (hd : 67 ≤ d) {Q : ai_Q} {R : Int32 × sh_H → Prop} (hR : ∀ r h, R (r, h) → Q (some (aI r)) (sh_E h))    {d0 d1 d2 d3 : Option ai_V} (h : sh_H) (H : sh_ok (f_law_b1664 N h) R) : wq_L d Q 1664 [d0, d1, d2, d3] [] (sh_E h) := by
  exact ai_WP_steps mc_L (sh_CM d) 2 (hR (ai_nar 1 (0 : Int32)) h H)
def f_law_b1717 (N : Nat)    (h : sh_H) : Option (Int32 × sh_H) := (some ((ai_nar 1 (0 : Int32)), h))
theorem x_law_b1717 (N : Nat) {d : Nat} (hd : 67 ≤ d) {Q : ai_Q} {R : Int32 × sh_H → Prop} (hR : ∀ r h, R (r, h) → Q (some (aI r)) (sh_E h))    {d0 d1 d2 d3 : Option ai_V} (h : sh_H) (H : sh_ok (f_law_b1717 N h) R) : wq_L d Q 1717 [d0, d1, d2, d3] [] (sh_E h) := by
  exact ai_WP_steps mc_L (sh_CM d) 2 (hR (ai_nar 1 (0 : Int32)) h H)
def f_law_b1740 (N : Nat)    (h : sh_H) : Option (Int32 × sh_H) := (some ((ai_nar 1 (0 : Int32)), h))
theorem x_law_b1740 (N : Nat) {d : Nat} (hd : 67 ≤ d) {Q : ai_Q} {R : Int32 × sh_H → Prop} (hR : ∀ r h, R (r, h) → Q (some (aI r)) (sh_E h))    {d0 d1 d2 d3 : Option ai_V} (h : sh_H) (H : sh_ok (f_law_b1740 N h) R) : wq_L d Q 1740 [d0, d1, d2, d3] [] (sh_E h) := by
  exact ai_WP_steps mc_L (sh_CM d) 2 (hR (ai_nar 1 (0 : Int32)) h H)
def f_law_b1800 (N : Nat)    (h : sh_H) : Option (Int32 × sh_H) := (some ((ai_nar 1 (0 : Int32)), h))
theorem x_law_b1800 (N : Nat) {d : Nat} (hd : 67 ≤ d) {Q : ai_Q} {R : Int32 × sh_H → Prop} (hR : ∀ r h, R (r, h) → Q (some (aI r)) (sh_E h))    {d0 d1 d2 d3 : Option ai_V} (h : sh_H) (H : sh_ok (f_law_b1800 N h) R) : wq_L d Q 1800 [d0, d1, d2, d3] [] (sh_E h) := by
  exact ai_WP_steps mc_L (sh_CM d) 2 (hR (ai_nar 1 (0 : Int32)) h H)
def f_law_b1853 (N : Nat)    (h : sh_H) : Option (Int32 × sh_H) := (some ((ai_nar 1 (0 : Int32)), h))
theorem x_law_b1853 (N : Nat) {d : Nat} (hd : 67 ≤ d) {Q : ai_Q} {R : Int32 × sh_H → Prop} (hR : ∀ r h, R (r, h) → Q (some (aI r)) (sh_E h))    {d0 d1 d2 d3 : Option ai_V} (h : sh_H) (H : sh_ok (f_law_b1853 N h) R) : wq_L d Q 1853 [d0, d1, d2, d3] [] (sh_E h) := by
  exact ai_WP_steps mc_L (sh_CM d) 2 (hR (ai_nar 1 (0 : Int32)) h H)
def f_law_b1906 (N : Nat)    (h : sh_H) : Option (Int32 × sh_H) := (some ((ai_nar 1 (0 : Int32)), h))
theorem x_law_b1906 (N : Nat) {d : Nat} (hd : 67 ≤ d) {Q : ai_Q} {R : Int32 × sh_H → Prop} (hR : ∀ r h, R (r, h) → Q (some (aI r)) (sh_E h))    {d0 d1 d2 d3 : Option ai_V} (h : sh_H) (H : sh_ok (f_law_b1906 N h) R) : wq_L d Q 1906 [d0, d1, d2, d3] [] (sh_E h) := by
  exact ai_WP_steps mc_L (sh_CM d) 2 (hR (ai_nar 1 (0 : Int32)) h H)
def f_law_b1949 (N : Nat)    (h : sh_H) : Option (Int32 × sh_H) := (some ((ai_nar 1 (0 : Int32)), h))
theorem x_law_b1949 (N : Nat) {d : Nat} (hd : 67 ≤ d) {Q : ai_Q} {R : Int32 × sh_H → Prop} (hR : ∀ r h, R (r, h) → Q (some (aI r)) (sh_E h))    {d0 d1 d2 d3 : Option ai_V} (h : sh_H) (H : sh_ok (f_law_b1949 N h) R) : wq_L d Q 1949 [d0, d1, d2, d3] [] (sh_E h) := by
  exact ai_WP_steps mc_L (sh_CM d) 2 (hR (ai_nar 1 (0 : Int32)) h H)
def f_law_b2036 (N : Nat)    (h : sh_H) : Option (Int32 × sh_H) := (some ((ai_nar 1 (0 : Int32)), h))
theorem x_law_b2036 (N : Nat) {d : Nat} (hd : 67 ≤ d) {Q : ai_Q} {R : Int32 × sh_H → Prop} (hR : ∀ r h, R (r, h) → Q (some (aI r)) (sh_E h))    {d0 d1 d2 d3 : Option ai_V} (h : sh_H) (H : sh_ok (f_law_b2036 N h) R) : wq_L d Q 2036 [d0, d1, d2, d3] [] (sh_E h) := by
  exact ai_WP_steps mc_L (sh_CM d) 2 (hR (ai_nar 1 (0 : Int32)) h H)
def f_law_b2059 (N : Nat)    (h : sh_H) : Option (Int32 × sh_H) := (some ((ai_nar 1 (0 : Int32)), h))
theorem x_law_b2059 (N : Nat) {d : Nat} (hd : 67 ≤ d) {Q : ai_Q} {R : Int32 × sh_H → Prop} (hR : ∀ r h, R (r, h) → Q (some (aI r)) (sh_E h))    {d0 d1 d2 d3 : Option ai_V} (h : sh_H) (H : sh_ok (f_law_b2059 N h) R) : wq_L d Q 2059 [d0, d1, d2, d3] [] (sh_E h) := by
  exact ai_WP_steps mc_L (sh_CM d) 2 (hR (ai_nar 1 (0 : Int32)) h H)
def f_law_b2082 (N : Nat)    (h : sh_H) : Option (Int32 × sh_H) := (some ((ai_nar 1 (0 : Int32)), h))
theorem x_law_b2082 (N : Nat) {d : Nat} (hd : 67 ≤ d) {Q : ai_Q} {R : Int32 × sh_H → Prop} (hR : ∀ r h, R (r, h) → Q (some (aI r)) (sh_E h))    {d0 d1 d2 d3 : Option ai_V} (h : sh_H) (H : sh_ok (f_law_b2082 N h) R) : wq_L d Q 2082 [d0, d1, d2, d3] [] (sh_E h) := by
  exact ai_WP_steps mc_L (sh_CM d) 2 (hR (ai_nar 1 (0 : Int32)) h H)
def f_law_b2105 (N : Nat)    (h : sh_H) : Option (Int32 × sh_H) := (some ((ai_nar 1 (0 : Int32)), h))
theorem x_law_b2105 (N : Nat) {d : Nat} (hd : 67 ≤ d) {Q : ai_Q} {R : Int32 × sh_H → Prop} (hR : ∀ r h, R (r, h) → Q (some (aI r)) (sh_E h))    {d0 d1 d2 d3 : Option ai_V} (h : sh_H) (H : sh_ok (f_law_b2105 N h) R) : wq_L d Q 2105 [d0, d1, d2, d3] [] (sh_E h) := by
  exact ai_WP_steps mc_L (sh_CM d) 2 (hR (ai_nar 1 (0 : Int32)) h H)
def f_law_b2113 (N : Nat)    (h : sh_H) : Option (Int32 × sh_H) := (some ((ai_nar 1 (1 : Int32)), h))
theorem x_law_b2113 (N : Nat) {d : Nat} (hd : 67 ≤ d) {Q : ai_Q} {R : Int32 × sh_H → Prop} (hR : ∀ r h, R (r, h) → Q (some (aI r)) (sh_E h))    {d0 d1 d2 d3 : Option ai_V} (h : sh_H) (H : sh_ok (f_law_b2113 N h) R) : wq_L d Q 2113 [d0, d1, d2, d3] [] (sh_E h) := by
  exact ai_WP_steps mc_L (sh_CM d) 2 (hR (ai_nar 1 (1 : Int32)) h H)
def f_law (N : Nat)   (h : sh_H) : Option (Int32 × sh_H) := f_law_l18 N (f_law_b289 N) (f_law_b312 N) (f_law_b325 N) (f_law_b338 N) (f_law_b371 N) (f_law_b404 N) (f_law_b437 N) (f_law_b480 N) (f_law_b513 N) (f_law_b546 N) (f_law_b599 N) (f_law_b642 N) (f_law_b721 N) (f_law_b744 N) (f_law_b757 N) (f_law_b770 N) (f_law_b803 N) (f_law_b836 N) (f_law_b860 N) (f_law_b903 N) (f_law_b956 N) (f_law_b989 N) (f_law_b1022 N) (f_law_b1098 N) (f_law_b1173 N) (f_law_b1249 N) (f_law_b1292 N) (f_law_b1335 N) (f_law_b1410 N) (f_law_b1479 N) (f_law_b1522 N) (f_law_b1545 N) (f_law_b1588 N) (f_law_b1611 N) (f_law_b1664 N) (f_law_b1717 N) (f_law_b1740 N) (f_law_b1800 N) (f_law_b1853 N) (f_law_b1906 N) (f_law_b1949 N) (f_law_b2036 N) (f_law_b2059 N) (f_law_b2082 N) (f_law_b2105 N) (f_law_b2113 N) N (0 : Int32) h
theorem x_law (N : Nat) {d : Nat} (hd : 67 ≤ d) (h : sh_H) {Q : ai_Q} {R : Int32 × sh_H → Prop} (H : sh_ok (f_law N h) R) (hR : ∀ r h, R (r, h) → Q (some (aI r)) (sh_E h)) : wq_L d Q 16 [oR 17 0, oR 11 0, oR 12 0, none] [] (sh_E h) := by
  refine ai_WP_steps mc_L (sh_CM d) 2 ?_
  exact x_law_l18 N hd hR (f_law_b289 N) (fun {e0} {e1} {e2} {e3} h H => x_law_b289 N hd hR  h H) (f_law_b312 N) (fun {e0} {e1} {e2} {e3} h H => x_law_b312 N hd hR  h H) (f_law_b325 N) (fun {e0} {e1} {e2} {e3} h H => x_law_b325 N hd hR  h H) (f_law_b338 N) (fun {e0} {e1} {e2} {e3} h H => x_law_b338 N hd hR  h H) (f_law_b371 N) (fun {e0} {e1} {e2} {e3} h H => x_law_b371 N hd hR  h H) (f_law_b404 N) (fun {e0} {e1} {e2} {e3} h H => x_law_b404 N hd hR  h H) (f_law_b437 N) (fun {e0} {e1} {e2} {e3} h H => x_law_b437 N hd hR  h H) (f_law_b480 N) (fun {e0} {e1} {e2} {e3} h H => x_law_b480 N hd hR  h H) (f_law_b513 N) (fun {e0} {e1} {e2} {e3} h H => x_law_b513 N hd hR  h H) (f_law_b546 N) (fun {e0} {e1} {e2} {e3} h H => x_law_b546 N hd hR  h H) (f_law_b599 N) (fun {e0} {e1} {e2} {e3} h H => x_law_b599 N hd hR  h H) (f_law_b642 N) (fun {e0} {e1} {e2} {e3} h H => x_law_b642 N hd hR  h H) (f_law_b721 N) (fun {e0} {e1} {e2} {e3} h H => x_law_b721 N hd hR  h H) (f_law_b744 N) (fun {e0} {e1} {e2} {e3} h H => x_law_b744 N hd hR  h H) (f_law_b757 N) (fun {e0} {e1} {e2} {e3} h H => x_law_b757 N hd hR  h H) (f_law_b770 N) (fun {e0} {e1} {e2} {e3} h H => x_law_b770 N hd hR  h H) (f_law_b803 N) (fun {e0} {e1} {e2} {e3} h H => x_law_b803 N hd hR  h H) (f_law_b836 N) (fun {e0} {e1} {e2} {e3} h H => x_law_b836 N hd hR  h H) (f_law_b860 N) (fun {e0} {e1} {e2} {e3} h H => x_law_b860 N hd hR  h H) (f_law_b903 N) (fun {e0} {e1} {e2} {e3} h H => x_law_b903 N hd hR  h H) (f_law_b956 N) (fun {e0} {e1} {e2} {e3} h H => x_law_b956 N hd hR  h H) (f_law_b989 N) (fun {e0} {e1} {e2} {e3} h H => x_law_b989 N hd hR  h H) (f_law_b1022 N) (fun {e0} {e1} {e2} {e3} h H => x_law_b1022 N hd hR  h H) (f_law_b1098 N) (fun {e0} {e1} {e2} {e3} h H => x_law_b1098 N hd hR  h H) (f_law_b1173 N) (fun {e0} {e1} {e2} {e3} h H => x_law_b1173 N hd hR  h H) (f_law_b1249 N) (fun {e0} {e1} {e2} {e3} h H => x_law_b1249 N hd hR  h H) (f_law_b1292 N) (fun {e0} {e1} {e2} {e3} h H => x_law_b1292 N hd hR  h H) (f_law_b1335 N) (fun {e0} {e1} {e2} {e3} h H => x_law_b1335 N hd hR  h H) (f_law_b1410 N) (fun {e0} {e1} {e2} {e3} h H => x_law_b1410 N hd hR  h H) (f_law_b1479 N) (fun {e0} {e1} {e2} {e3} h H => x_law_b1479 N hd hR  h H) (f_law_b1522 N) (fun {e0} {e1} {e2} {e3} h H => x_law_b1522 N hd hR  h H) (f_law_b1545 N) (fun {e0} {e1} {e2} {e3} h H => x_law_b1545 N hd hR  h H) (f_law_b1588 N) (fun {e0} {e1} {e2} {e3} h H => x_law_b1588 N hd hR  h H) (f_law_b1611 N) (fun {e0} {e1} {e2} {e3} h H => x_law_b1611 N hd hR  h H) (f_law_b1664 N) (fun {e0} {e1} {e2} {e3} h H => x_law_b1664 N hd hR  h H) (f_law_b1717 N) (fun {e0} {e1} {e2} {e3} h H => x_law_b1717 N hd hR  h H) (f_law_b1740 N) (fun {e0} {e1} {e2} {e3} h H => x_law_b1740 N hd hR  h H) (f_law_b1800 N) (fun {e0} {e1} {e2} {e3} h H => x_law_b1800 N hd hR  h H) (f_law_b1853 N) (fun {e0} {e1} {e2} {e3} h H => x_law_b1853 N hd hR  h H) (f_law_b1906 N) (fun {e0} {e1} {e2} {e3} h H => x_law_b1906 N hd hR  h H) (f_law_b1949 N) (fun {e0} {e1} {e2} {e3} h H => x_law_b1949 N hd hR  h H) (f_law_b2036 N) (fun {e0} {e1} {e2} {e3} h H => x_law_b2036 N hd hR  h H) (f_law_b2059 N) (fun {e0} {e1} {e2} {e3} h H => x_law_b2059 N hd hR  h H) (f_law_b2082 N) (fun {e0} {e1} {e2} {e3} h H => x_law_b2082 N hd hR  h H) (f_law_b2105 N) (fun {e0} {e1} {e2} {e3} h H => x_law_b2105 N hd hR  h H) (f_law_b2113 N) (fun {e0} {e1} {e2} {e3} h H => x_law_b2113 N hd hR  h H) N (0 : Int32) h H
