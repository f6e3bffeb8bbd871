/-! shallow functions, written by program -/
def f_Coins_fill_b108 (N : Nat)  (k16 : Nat → Int32 → Int32 → Int32 → Int32 → sh_H → Option sh_H) (l1 : Nat) (l2 : Int32) (l4 : Int32) (l5 : Int32) (l6 : Int32) (h : sh_H) : Option sh_H := k16 l1 l2 l4 l5 (l6 + (1 : Int32)) h
theorem x_Coins_fill_b108 (N : Nat) {d : Nat} (hd : 2 ≤ d) {Q : ai_Q} {R : sh_H → Prop} (hR : ∀ h, R h → Q none (sh_E h))  (k16 : Nat → Int32 → Int32 → Int32 → Int32 → sh_H → Option sh_H) (hk16 : ∀ (l1 : Nat) (l2 : Int32) (l4 : Int32) (l5 : Int32) (l6 : Int32) {d3 d7 d8 : Option ai_V} (h : sh_H), sh_ok (k16 l1 l2 l4 l5 l6 h) R → wq_28 d Q 16 [oR 1 0, oR 13 l1, oI l2, d3, oI l4, oI l5, oI l6, d7, d8] [] (sh_E h)) (l1 : Nat) (l2 : Int32) (l4 : Int32) (l5 : Int32) (l6 : Int32) {d3 d7 d8 : Option ai_V} (h : sh_H) (H : sh_ok (f_Coins_fill_b108 N k16 l1 l2 l4 l5 l6 h) R) : wq_28 d Q 108 [oR 1 0, oR 13 l1, oI l2, d3, oI l4, oI l5, oI l6, d7, d8] [] (sh_E h) := by
  refine ai_WP_steps mc_28 (sh_CM d) 2 ?_
  exact hk16 l1 l2 l4 l5 (l6 + (1 : Int32)) h H
def f_Coins_fill_b83 (N : Nat)  (k16 : Nat → Int32 → Int32 → Int32 → Int32 → sh_H → Option sh_H) (l1 : Nat) (l2 : Int32) (l4 : Int32) (l5 : Int32) (l6 : Int32) (l7 : Int32) (l8 : Int32) (h : sh_H) : Option sh_H := (Option.bind (f_Math_min l4 (l5 + (l8 * l7)) h) (fun v1 => (Option.bind (f_Coins_addLumps N l1 l7 l8 v1 h) (fun h2 => f_Coins_fill_b108 N k16 l1 l2 l4 v1 l6 h2))))
theorem x_Coins_fill_b83 (N : Nat) {d : Nat} (hd : 2 ≤ d) {Q : ai_Q} {R : sh_H → Prop} (hR : ∀ h, R h → Q none (sh_E h))  (k16 : Nat → Int32 → Int32 → Int32 → Int32 → sh_H → Option sh_H) (hk16 : ∀ (l1 : Nat) (l2 : Int32) (l4 : Int32) (l5 : Int32) (l6 : Int32) {d3 d7 d8 : Option ai_V} (h : sh_H), sh_ok (k16 l1 l2 l4 l5 l6 h) R → wq_28 d Q 16 [oR 1 0, oR 13 l1, oI l2, d3, oI l4, oI l5, oI l6, d7, d8] [] (sh_E h)) (l1 : Nat) (l2 : Int32) (l4 : Int32) (l5 : Int32) (l6 : Int32) (l7 : Int32) (l8 : Int32) {d3 : Option ai_V} (h : sh_H) (H : sh_ok (f_Coins_fill_b83 N k16 l1 l2 l4 l5 l6 l7 l8 h) R) : wq_28 d Q 83 [oR 1 0, oR 13 l1, oI l2, d3, oI l4, oI l5, oI l6, oI l7, oI l8] [] (sh_E h) := by
  refine ai_WP_steps mc_28 (sh_CM d) 7 (And.intro (Nat.le_of_ble_eq_true rfl) (x_Math_min (Nat.le_trans (Nat.le_of_ble_eq_true rfl) hd) l4 (l5 + (l8 * l7)) h (sh_okB H) (fun v1 H => ?_)))
  show wq_28 d Q 96 [oR 1 0, oR 13 l1, oI l2, _, oI l4, oI l5, oI l6, oI l7, oI l8] [aI v1] (sh_E h)
  refine ai_WP_steps mc_28 (sh_CM d) 6 (And.intro (Nat.le_of_ble_eq_true rfl) (x_Coins_addLumps N (Nat.le_trans (Nat.le_of_ble_eq_true rfl) hd) l1 l7 l8 v1 h (sh_okB H) (fun h2 H => ?_)))
  show wq_28 d Q 108 [oR 1 0, oR 13 l1, oI l2, _, oI l4, oI v1, oI l6, oI l7, oI l8] [] (sh_E h2)
  exact x_Coins_fill_b108 N hd hR k16 hk16 l1 l2 l4 v1 l6 h2 H
def f_Coins_fill_c16 (N : Nat)   (k16 : Nat → Int32 → Int32 → Int32 → Int32 → sh_H → Option sh_H) (l1 : Nat) (l2 : Int32) (l4 : Int32) (l5 : Int32) (l6 : Int32) (h : sh_H) : Option sh_H := (Option.bind (f_Rows_size 28 h) (fun v3 => (if l6 < v3 then (Option.bind (f_Rows_get 28 l6 (0 : Int32) h) (fun v4 => (Option.bind (f_Rows_get 28 l6 l2 h) (fun v5 => (if v4 < (1 : Int32) then f_Coins_fill_b83 N k16 l1 l2 l4 l5 l6 v4 v5 h else (if ¬ v4 = 0 then (if v5 < (l4 / v4) then f_Coins_fill_b83 N k16 l1 l2 l4 l5 l6 v4 v5 h else (Option.bind (f_Coins_addEndless N l1 v4 l4 h) (fun h6 => f_Coins_fill_b108 N k16 l1 l2 l4 l4 l6 h6))) else none)))))) else (some h))))
def f_Coins_fill_l16 (N : Nat)   (n : Nat) : Nat → Int32 → Int32 → Int32 → Int32 → sh_H → Option sh_H := Nat.rec (motive := fun _ => Nat → Int32 → Int32 → Int32 → Int32 → sh_H → Option sh_H) (fun _ _ _ _ _ _ => none) (fun _ k16 => f_Coins_fill_c16 N k16) n
theorem x_Coins_fill_l16 (N : Nat) {d : Nat} (hd : 2 ≤ d) {Q : ai_Q} {R : sh_H → Prop} (hR : ∀ h, R h → Q none (sh_E h))   (n : Nat) : ∀ (l1 : Nat) (l2 : Int32) (l4 : Int32) (l5 : Int32) (l6 : Int32) {d3 d7 d8 : Option ai_V} (h : sh_H), sh_ok (f_Coins_fill_l16 N n l1 l2 l4 l5 l6 h) R → wq_28 d Q 16 [oR 1 0, oR 13 l1, oI l2, d3, oI l4, oI l5, oI l6, d7, d8] [] (sh_E h) := by
  induction n with
  | zero => intro l1 l2 l4 l5 l6 d3 d7 d8 h H; exact H.elim
  | succ n ih =>
    intro l1 l2 l4 l5 l6 d3 d7 d8 h H
    have hk16 := @ih
    replace H : sh_ok (f_Coins_fill_c16 N (f_Coins_fill_l16 N n) l1 l2 l4 l5 l6 h) R := H
    revert hk16 H
    generalize f_Coins_fill_l16 N n = k16
    intro hk16 H
    refine ai_WP_steps mc_28 (sh_CM d) 4 (And.intro (Nat.le_of_ble_eq_true rfl) (x_Rows_size (Nat.le_trans (Nat.le_of_ble_eq_true rfl) hd) 28 h (sh_okB H) (fun v3 H => ?_)))
    show wq_28 d Q 25 [oR 1 0, oR 13 l1, oI l2, _, oI l4, oI l5, oI l6, _, _] [aI v3, aI l6] (sh_E h)
    refine ai_WP_steps mc_28 (sh_CM d) 1 (And.intro (fun c => ?_) (fun c => ?_))
    · replace H := sh_okT c H
      show wq_28 d Q 28 [oR 1 0, oR 13 l1, oI l2, _, oI l4, oI l5, oI l6, _, _] [] (sh_E h)
      refine ai_WP_steps mc_28 (sh_CM d) 5 (And.intro (Nat.le_of_ble_eq_true rfl) (x_Rows_get (Nat.le_trans (Nat.le_of_ble_eq_true rfl) hd) 28 l6 (0 : Int32) h (sh_okB H) (fun v4 H => ?_)))
      show wq_28 d Q 38 [oR 1 0, oR 13 l1, oI l2, _, oI l4, oI l5, oI l6, _, _] [aI v4] (sh_E h)
      refine ai_WP_steps mc_28 (sh_CM d) 6 (And.intro (Nat.le_of_ble_eq_true rfl) (x_Rows_get (Nat.le_trans (Nat.le_of_ble_eq_true rfl) hd) 28 l6 l2 h (sh_okB H) (fun v5 H => ?_)))
      show wq_28 d Q 50 [oR 1 0, oR 13 l1, oI l2, _, oI l4, oI l5, oI l6, oI v4, _] [aI v5] (sh_E h)
      refine ai_WP_steps mc_28 (sh_CM d) 4 (And.intro (fun c => ?_) (fun c => ?_))
      · replace H := sh_okT c H
        exact x_Coins_fill_b83 N hd hR k16 hk16 l1 l2 l4 l5 l6 v4 v5 h H
      · replace H := sh_okF c H
        show wq_28 d Q 58 [oR 1 0, oR 13 l1, oI l2, _, oI l4, oI l5, oI l6, oI v4, oI v5] [] (sh_E h)
        have c := sh_okG H
        replace H := sh_okH H
        refine ai_WP_steps mc_28 (sh_CM d) 4 (And.intro c ?_)
        show wq_28 d Q 65 [oR 1 0, oR 13 l1, oI l2, _, oI l4, oI l5, oI l6, oI v4, oI v5] [aI (l4 / v4), aI v5] (sh_E h)
        refine ai_WP_steps mc_28 (sh_CM d) 1 (And.intro (fun c => ?_) (fun c => ?_))
        · replace H := sh_okT c H
          exact x_Coins_fill_b83 N hd hR k16 hk16 l1 l2 l4 l5 l6 v4 v5 h H
        · replace H := sh_okF c H
          show wq_28 d Q 68 [oR 1 0, oR 13 l1, oI l2, _, oI l4, oI l5, oI l6, oI v4, oI v5] [] (sh_E h)
          refine ai_WP_steps mc_28 (sh_CM d) 6 (And.intro (Nat.le_of_ble_eq_true rfl) (x_Coins_addEndless N (Nat.le_trans (Nat.le_of_ble_eq_true rfl) hd) l1 v4 l4 h (sh_okB H) (fun h6 H => ?_)))
          show wq_28 d Q 80 [oR 1 0, oR 13 l1, oI l2, _, oI l4, oI l4, oI l6, oI v4, oI v5] [] (sh_E h6)
          refine ai_WP_steps mc_28 (sh_CM d) 1 ?_
          exact x_Coins_fill_b108 N hd hR k16 hk16 l1 l2 l4 l4 l6 h6 H
    · replace H := sh_okF c H
      show wq_28 d Q 114 [oR 1 0, oR 13 l1, oI l2, _, oI l4, oI l5, oI l6, _, _] [] (sh_E h)
      exact ai_WP_steps mc_28 (sh_CM d) 1 (hR h H)
def f_Coins_fill (N : Nat)  (l1 : Nat) (l2 : Int32) (l3 : Int32) (l4 : Int32) (h : sh_H) : Option sh_H := (Option.bind (f_Coins_clear N l1 l4 h) (fun h7 => (Option.bind (f_Math_max (0 : Int32) l3 h7) (fun v8 => f_Coins_fill_l16 N N l1 l2 l4 (0 : Int32) v8 h7))))
theorem x_Coins_fill (N : Nat) {d : Nat} (hd : 3 ≤ d) (l1 : Nat) (l2 : Int32) (l3 : Int32) (l4 : Int32) (h : sh_H) {Q : ai_Q} {R : sh_H → Prop} (H : sh_ok (f_Coins_fill N l1 l2 l3 l4 h) R) (hR : ∀ h, R h → Q none (sh_E h)) : ai_Ex sh_T d 28 [aR 1 0, aR 13 l1, aI l2, aI l3, aI l4] (sh_E h) Q := by
  obtain ⟨d, rfl⟩ : ∃ e, d = e + 1 := ⟨d - 1, by omega⟩
  replace hd : 2 ≤ d := by omega
  refine And.intro (Nat.le_of_ble_eq_true rfl) ?_
  show wq_28 d Q 0 [oR 1 0, oR 13 l1, oI l2, oI l3, oI l4, none, none, none, none] [] (sh_E h)
  refine ai_WP_steps mc_28 (sh_CM d) 3 (And.intro (Nat.le_of_ble_eq_true rfl) (x_Coins_clear N (Nat.le_trans (Nat.le_of_ble_eq_true rfl) hd) l1 l4 h (sh_okB H) (fun h7 H => ?_)))
  show wq_28 d Q 6 [oR 1 0, oR 13 l1, oI l2, oI l3, oI l4, _, _, _, _] [] (sh_E h7)
  refine ai_WP_steps mc_28 (sh_CM d) 5 (And.intro (Nat.le_of_ble_eq_true rfl) (x_Math_max (Nat.le_trans (Nat.le_of_ble_eq_true rfl) hd) (0 : Int32) l3 h7 (sh_okB H) (fun v8 H => ?_)))
  show wq_28 d Q 14 [oR 1 0, oR 13 l1, oI l2, oI l3, oI l4, oI (0 : Int32), _, _, _] [aI v8] (sh_E h7)
  refine ai_WP_steps mc_28 (sh_CM d) 1 ?_
  exact x_Coins_fill_l16 N hd hR N l1 l2 l4 (0 : Int32) v8 h7 H
def f_Coins_fewestOfTill (N : Nat)  (l1 : Int32) (h : sh_H) : Option (Int32 × sh_H) := (Option.bind (f_Coins_fill N 35 (1 : Int32) (0 : Int32) l1 h) (fun h1 => (Option.bind (f_Coins_at 35 l1 h1) (fun v2 => (if v2 < (1048576 : Int32) then (some (v2, h1)) else (some ((-2 : Int32), h1)))))))
theorem x_Coins_fewestOfTill (N : Nat) {d : Nat} (hd : 4 ≤ d) (l1 : Int32) (h : sh_H) {Q : ai_Q} {R : Int32 × sh_H → Prop} (H : sh_ok (f_Coins_fewestOfTill N l1 h) R) (hR : ∀ r h, R (r, h) → Q (some (aI r)) (sh_E h)) : ai_Ex sh_T d 18 [aR 1 0, aI l1] (sh_E h) Q := by
  obtain ⟨d, rfl⟩ : ∃ e, d = e + 1 := ⟨d - 1, by omega⟩
  replace hd : 3 ≤ d := by omega
  refine And.intro (Nat.le_of_ble_eq_true rfl) ?_
  show wq_18 d Q 0 [oR 1 0, oI l1, none] [] (sh_E h)
  refine ai_WP_steps mc_18 (sh_CM d) 7 (And.intro (Nat.le_of_ble_eq_true rfl) (x_Coins_fill N (Nat.le_trans (Nat.le_of_ble_eq_true rfl) hd) 35 (1 : Int32) (0 : Int32) l1 h (sh_okB H) (fun h1 H => ?_)))
  show wq_18 d Q 11 [oR 1 0, oI l1, _] [] (sh_E h1)
  refine ai_WP_steps mc_18 (sh_CM d) 4 (And.intro (Nat.le_of_ble_eq_true rfl) (x_Coins_at (Nat.le_trans (Nat.le_of_ble_eq_true rfl) hd) 35 l1 h1 (sh_okB H) (fun v2 H => ?_)))
  show wq_18 d Q 19 [oR 1 0, oI l1, _] [aI v2] (sh_E h1)
  refine ai_WP_steps mc_18 (sh_CM d) 4 (And.intro (fun c => ?_) (fun c => ?_))
  · replace H := sh_okT c H
    show wq_18 d Q 26 [oR 1 0, _, oI v2] [] (sh_E h1)
    exact ai_WP_steps mc_18 (sh_CM d) 3 (hR v2 h1 H)
  · replace H := sh_okF c H
    show wq_18 d Q 30 [oR 1 0, _, oI v2] [] (sh_E h1)
    exact ai_WP_steps mc_18 (sh_CM d) 2 (hR (-2 : Int32) h1 H)
def f_Coins_mostOf_c38 (N : Nat)   (k38 : Nat → Int32 → Int32 → Int32 → Int32 → sh_H → Option Int32) (l1 : Nat) (l4 : Int32) (l5 : Int32) (l6 : Int32) (l7 : Int32) (h : sh_H) : Option Int32 := (if 0 < l7 then (Option.bind (f_Coins_at l1 (l4 - (l7 * l6)) h) (fun v1 => (if (v1 + l7) = l5 then (some l7) else k38 l1 l4 l5 l6 (l7 + (-1 : Int32)) h))) else (some (0 : Int32)))
def f_Coins_mostOf_l38 (N : Nat)   (n : Nat) : Nat → Int32 → Int32 → Int32 → Int32 → sh_H → Option Int32 := Nat.rec (motive := fun _ => Nat → Int32 → Int32 → Int32 → Int32 → sh_H → Option Int32) (fun _ _ _ _ _ _ => none) (fun _ k38 => f_Coins_mostOf_c38 N k38) n
theorem x_Coins_mostOf_l38 (N : Nat) {d : Nat} (hd : 2 ≤ d) (h : sh_H) {Q : ai_Q} {R : Int32 → Prop} (hR : ∀ r, R r → Q (some (aI r)) (sh_E h))   (n : Nat) : ∀ (l1 : Nat) (l4 : Int32) (l5 : Int32) (l6 : Int32) (l7 : Int32) {d0 d2 d3 : Option ai_V}, sh_ok (f_Coins_mostOf_l38 N n l1 l4 l5 l6 l7 h) R → wq_27 d Q 38 [d0, oR 13 l1, d2, d3, oI l4, oI l5, oI l6, oI l7] [] (sh_E h) := by
  induction n with
  | zero => intro l1 l4 l5 l6 l7 d0 d2 d3 H; exact H.elim
  | succ n ih =>
    intro l1 l4 l5 l6 l7 d0 d2 d3 H
    have hk38 := @ih
    replace H : sh_ok (f_Coins_mostOf_c38 N (f_Coins_mostOf_l38 N n) l1 l4 l5 l6 l7 h) R := H
    revert hk38 H
    generalize f_Coins_mostOf_l38 N n = k38
    intro hk38 H
    refine ai_WP_steps mc_27 (sh_CM d) 2 (And.intro (fun c => ?_) (fun c => ?_))
    · replace H := sh_okT c H
      show wq_27 d Q 43 [_, oR 13 l1, _, _, oI l4, oI l5, oI l6, oI l7] [] (sh_E h)
      refine ai_WP_steps mc_27 (sh_CM d) 7 (And.intro (Nat.le_of_ble_eq_true rfl) (x_Coins_at (Nat.le_trans (Nat.le_of_ble_eq_true rfl) hd) l1 (l4 - (l7 * l6)) h (sh_okB H) (fun v1 H => ?_)))
      show wq_27 d Q 55 [_, oR 13 l1, _, _, oI l4, oI l5, oI l6, oI l7] [aI v1] (sh_E h)
      refine ai_WP_steps mc_27 (sh_CM d) 4 (And.intro (fun c => ?_) (fun c => ?_))
      · replace H := sh_okT c H
        show wq_27 d Q 63 [_, oR 13 l1, _, _, oI l4, oI l5, oI l6, oI l7] [] (sh_E h)
        exact ai_WP_steps mc_27 (sh_CM d) 2 (hR l7 H)
      · replace H := sh_okF c H
        show wq_27 d Q 66 [_, oR 13 l1, _, _, oI l4, oI l5, oI l6, oI l7] [] (sh_E h)
        refine ai_WP_steps mc_27 (sh_CM d) 2 ?_
        exact hk38 l1 l4 l5 l6 (l7 + (-1 : Int32)) H
    · replace H := sh_okF c H
      show wq_27 d Q 72 [_, oR 13 l1, _, _, oI l4, oI l5, oI l6, oI l7] [] (sh_E h)
      exact ai_WP_steps mc_27 (sh_CM d) 2 (hR (0 : Int32) H)
def f_Coins_mostOf (N : Nat)  (l1 : Nat) (l2 : Int32) (l3 : Int32) (l4 : Int32) (l5 : Int32) (h : sh_H) : Option Int32 := (Option.bind (f_Rows_get 28 l3 (0 : Int32) h) (fun v2 => (if v2 < (1 : Int32) then (some (0 : Int32)) else (Option.bind (f_Rows_get 28 l3 l2 h) (fun v3 => (if ¬ v2 = 0 then (Option.bind (f_Math_min v3 (l4 / v2) h) (fun v4 => f_Coins_mostOf_l38 N N l1 l4 l5 v2 v4 h)) else none))))))
theorem x_Coins_mostOf (N : Nat) {d : Nat} (hd : 3 ≤ d) (l1 : Nat) (l2 : Int32) (l3 : Int32) (l4 : Int32) (l5 : Int32) (h : sh_H) {Q : ai_Q} {R : Int32 → Prop} (H : sh_ok (f_Coins_mostOf N l1 l2 l3 l4 l5 h) R) (hR : ∀ r, R r → Q (some (aI r)) (sh_E h)) : ai_Ex sh_T d 27 [aR 1 0, aR 13 l1, aI l2, aI l3, aI l4, aI l5] (sh_E h) Q := by
  obtain ⟨d, rfl⟩ : ∃ e, d = e + 1 := ⟨d - 1, by omega⟩
  replace hd : 2 ≤ d := by omega
  refine And.intro (Nat.le_of_ble_eq_true rfl) ?_
  show wq_27 d Q 0 [oR 1 0, oR 13 l1, oI l2, oI l3, oI l4, oI l5, none, none] [] (sh_E h)
  refine ai_WP_steps mc_27 (sh_CM d) 5 (And.intro (Nat.le_of_ble_eq_true rfl) (x_Rows_get (Nat.le_trans (Nat.le_of_ble_eq_true rfl) hd) 28 l3 (0 : Int32) h (sh_okB H) (fun v2 H => ?_)))
  show wq_27 d Q 9 [oR 1 0, oR 13 l1, oI l2, oI l3, oI l4, oI l5, _, _] [aI v2] (sh_E h)
  refine ai_WP_steps mc_27 (sh_CM d) 4 (And.intro (fun c => ?_) (fun c => ?_))
  · replace H := sh_okT c H
    show wq_27 d Q 17 [oR 1 0, oR 13 l1, oI l2, oI l3, oI l4, oI l5, oI v2, _] [] (sh_E h)
    exact ai_WP_steps mc_27 (sh_CM d) 2 (hR (0 : Int32) H)
  · replace H := sh_okF c H
    show wq_27 d Q 19 [oR 1 0, oR 13 l1, oI l2, oI l3, oI l4, oI l5, oI v2, _] [] (sh_E h)
    refine ai_WP_steps mc_27 (sh_CM d) 5 (And.intro (Nat.le_of_ble_eq_true rfl) (x_Rows_get (Nat.le_trans (Nat.le_of_ble_eq_true rfl) hd) 28 l3 l2 h (sh_okB H) (fun v3 H => ?_)))
    show wq_27 d Q 28 [oR 1 0, oR 13 l1, oI l2, oI l3, oI l4, oI l5, oI v2, _] [aI v3] (sh_E h)
    have c := sh_okG H
    replace H := sh_okH H
    refine ai_WP_steps mc_27 (sh_CM d) 3 (And.intro c ?_)
    show wq_27 d Q 33 [oR 1 0, oR 13 l1, oI l2, oI l3, oI l4, oI l5, oI v2, _] [aI (l4 / v2), aI v3] (sh_E h)
    refine ai_WP_steps mc_27 (sh_CM d) 1 (And.intro (Nat.le_of_ble_eq_true rfl) (x_Math_min (Nat.le_trans (Nat.le_of_ble_eq_true rfl) hd) v3 (l4 / v2) h (sh_okB H) (fun v4 H => ?_)))
    show wq_27 d Q 36 [oR 1 0, oR 13 l1, oI l2, oI l3, oI l4, oI l5, oI v2, _] [aI v4] (sh_E h)
    refine ai_WP_steps mc_27 (sh_CM d) 1 ?_
    exact x_Coins_mostOf_l38 N hd h hR N l1 l4 l5 v2 v4 H
def f_Coins_ofKind_c24 (N : Nat)   (k24 : Nat → Int32 → Int32 → Int32 → Int32 → Int32 → Int32 → sh_H → Option (Int32 × sh_H)) (l1 : Nat) (l2 : Int32) (l4 : Int32) (l5 : Int32) (l6 : Int32) (l7 : Int32) (l8 : Int32) (h : sh_H) : Option (Int32 × sh_H) := (if l4 < l8 then (some (l7, h)) else (Option.bind (f_Rows_size 28 h) (fun v1 => (if l8 < v1 then (Option.bind (f_Coins_fill N l1 l2 (l8 + (1 : Int32)) l5 h) (fun h2 => (Option.bind (f_Coins_mostOf N l1 l2 l8 l5 l6 h2) (fun v3 => (Option.bind (f_Rows_get 28 l8 (0 : Int32) h2) (fun v4 => k24 l1 l2 l4 (l5 - (v3 * v4)) (l6 - v3) v3 (l8 + (1 : Int32)) h2)))))) else (some (l7, h))))))
def f_Coins_ofKind_l24 (N : Nat)   (n : Nat) : Nat → Int32 → Int32 → Int32 → Int32 → Int32 → Int32 → sh_H → Option (Int32 × sh_H) := Nat.rec (motive := fun _ => Nat → Int32 → Int32 → Int32 → Int32 → Int32 → Int32 → sh_H → Option (Int32 × sh_H)) (fun _ _ _ _ _ _ _ _ => none) (fun _ k24 => f_Coins_ofKind_c24 N k24) n
theorem x_Coins_ofKind_l24 (N : Nat) {d : Nat} (hd : 3 ≤ d) {Q : ai_Q} {R : Int32 × sh_H → Prop} (hR : ∀ r h, R (r, h) → Q (some (aI r)) (sh_E h))   (n : Nat) : ∀ (l1 : Nat) (l2 : Int32) (l4 : Int32) (l5 : Int32) (l6 : Int32) (l7 : Int32) (l8 : Int32) {d3 : Option ai_V} (h : sh_H), sh_ok (f_Coins_ofKind_l24 N n l1 l2 l4 l5 l6 l7 l8 h) R → wq_26 d Q 24 [oR 1 0, oR 13 l1, oI l2, d3, oI l4, oI l5, oI l6, oI l7, oI l8] [] (sh_E h) := by
  induction n with
  | zero => intro l1 l2 l4 l5 l6 l7 l8 d3 h H; exact H.elim
  | succ n ih =>
    intro l1 l2 l4 l5 l6 l7 l8 d3 h H
    have hk24 := @ih
    replace H : sh_ok (f_Coins_ofKind_c24 N (f_Coins_ofKind_l24 N n) l1 l2 l4 l5 l6 l7 l8 h) R := H
    revert hk24 H
    generalize f_Coins_ofKind_l24 N n = k24
    intro hk24 H
    refine ai_WP_steps mc_26 (sh_CM d) 3 (And.intro (fun c => ?_) (fun c => ?_))
    · replace H := sh_okT c H
      show wq_26 d Q 100 [oR 1 0, oR 13 l1, oI l2, _, oI l4, oI l5, oI l6, oI l7, oI l8] [] (sh_E h)
      exact ai_WP_steps mc_26 (sh_CM d) 2 (hR l7 h H)
    · replace H := sh_okF c H
      show wq_26 d Q 31 [oR 1 0, oR 13 l1, oI l2, _, oI l4, oI l5, oI l6, oI l7, oI l8] [] (sh_E h)
      refine ai_WP_steps mc_26 (sh_CM d) 4 (And.intro (Nat.le_of_ble_eq_true rfl) (x_Rows_size (Nat.le_trans (Nat.le_of_ble_eq_true rfl) hd) 28 h (sh_okB H) (fun v1 H => ?_)))
      show wq_26 d Q 40 [oR 1 0, oR 13 l1, oI l2, _, oI l4, oI l5, oI l6, oI l7, oI l8] [aI v1, aI l8] (sh_E h)
      refine ai_WP_steps mc_26 (sh_CM d) 1 (And.intro (fun c => ?_) (fun c => ?_))
      · replace H := sh_okT c H
        show wq_26 d Q 43 [oR 1 0, oR 13 l1, oI l2, _, oI l4, oI l5, oI l6, oI l7, oI l8] [] (sh_E h)
        refine ai_WP_steps mc_26 (sh_CM d) 8 (And.intro (Nat.le_of_ble_eq_true rfl) (x_Coins_fill N (Nat.le_trans (Nat.le_of_ble_eq_true rfl) hd) l1 l2 (l8 + (1 : Int32)) l5 h (sh_okB H) (fun h2 H => ?_)))
        show wq_26 d Q 55 [oR 1 0, oR 13 l1, oI l2, _, oI l4, oI l5, oI l6, oI l7, oI l8] [] (sh_E h2)
        refine ai_WP_steps mc_26 (sh_CM d) 7 (And.intro (Nat.le_of_ble_eq_true rfl) (x_Coins_mostOf N (Nat.le_trans (Nat.le_of_ble_eq_true rfl) hd) l1 l2 l8 l5 l6 h2 (sh_okB H) (fun v3 H => ?_)))
        show wq_26 d Q 67 [oR 1 0, oR 13 l1, oI l2, _, oI l4, oI l5, oI l6, oI l7, oI l8] [aI v3] (sh_E h2)
        refine ai_WP_steps mc_26 (sh_CM d) 8 (And.intro (Nat.le_of_ble_eq_true rfl) (x_Rows_get (Nat.le_trans (Nat.le_of_ble_eq_true rfl) hd) 28 l8 (0 : Int32) h2 (sh_okB H) (fun v4 H => ?_)))
        show wq_26 d Q 83 [oR 1 0, oR 13 l1, oI l2, _, oI l4, oI l5, oI l6, oI v3, oI l8] [aI v4, aI v3, aI l5] (sh_E h2)
        refine ai_WP_steps mc_26 (sh_CM d) 9 ?_
        exact hk24 l1 l2 l4 (l5 - (v3 * v4)) (l6 - v3) v3 (l8 + (1 : Int32)) h2 H
      · replace H := sh_okF c H
        show wq_26 d Q 100 [oR 1 0, oR 13 l1, oI l2, _, oI l4, oI l5, oI l6, oI l7, oI l8] [] (sh_E h)
        exact ai_WP_steps mc_26 (sh_CM d) 2 (hR l7 h H)
def f_Coins_ofKind (N : Nat)  (l1 : Nat) (l2 : Int32) (l3 : Int32) (l4 : Int32) (h : sh_H) : Option (Int32 × sh_H) := (Option.bind (f_Coins_fill N l1 l2 (0 : Int32) l3 h) (fun h5 => (Option.bind (f_Coins_at l1 l3 h5) (fun v6 => f_Coins_ofKind_l24 N N l1 l2 l4 l3 v6 (0 : Int32) (0 : Int32) h5))))
theorem x_Coins_ofKind (N : Nat) {d : Nat} (hd : 4 ≤ d) (l1 : Nat) (l2 : Int32) (l3 : Int32) (l4 : Int32) (h : sh_H) {Q : ai_Q} {R : Int32 × sh_H → Prop} (H : sh_ok (f_Coins_ofKind N l1 l2 l3 l4 h) R) (hR : ∀ r h, R (r, h) → Q (some (aI r)) (sh_E h)) : ai_Ex sh_T d 26 [aR 1 0, aR 13 l1, aI l2, aI l3, aI l4] (sh_E h) Q := by
  obtain ⟨d, rfl⟩ : ∃ e, d = e + 1 := ⟨d - 1, by omega⟩
  replace hd : 3 ≤ d := by omega
  refine And.intro (Nat.le_of_ble_eq_true rfl) ?_
  show wq_26 d Q 0 [oR 1 0, oR 13 l1, oI l2, oI l3, oI l4, none, none, none, none] [] (sh_E h)
  refine ai_WP_steps mc_26 (sh_CM d) 6 (And.intro (Nat.le_of_ble_eq_true rfl) (x_Coins_fill N (Nat.le_trans (Nat.le_of_ble_eq_true rfl) hd) l1 l2 (0 : Int32) l3 h (sh_okB H) (fun h5 H => ?_)))
  show wq_26 d Q 8 [oR 1 0, oR 13 l1, oI l2, oI l3, oI l4, _, _, _, _] [] (sh_E h5)
  refine ai_WP_steps mc_26 (sh_CM d) 5 (And.intro (Nat.le_of_ble_eq_true rfl) (x_Coins_at (Nat.le_trans (Nat.le_of_ble_eq_true rfl) hd) l1 l3 h5 (sh_okB H) (fun v6 H => ?_)))
  show wq_26 d Q 16 [oR 1 0, oR 13 l1, oI l2, oI l3, oI l4, oI l3, _, _, _] [aI v6] (sh_E h5)
  refine ai_WP_steps mc_26 (sh_CM d) 5 ?_
  exact x_Coins_ofKind_l24 N hd hR N l1 l2 l4 l3 v6 (0 : Int32) (0 : Int32) h5 H
def f_Coins_ofTill (N : Nat)  (l1 : Int32) (l2 : Int32) (h : sh_H) : Option (Int32 × sh_H) := (sh_b2 (f_Coins_ofKind N 35 (1 : Int32) l1 l2 h) (fun v1 h2 => (some (v1, h2))))
theorem x_Coins_ofTill (N : Nat) {d : Nat} (hd : 5 ≤ d) (l1 : Int32) (l2 : Int32) (h : sh_H) {Q : ai_Q} {R : Int32 × sh_H → Prop} (H : sh_ok (f_Coins_ofTill N l1 l2 h) R) (hR : ∀ r h, R (r, h) → Q (some (aI r)) (sh_E h)) : ai_Ex sh_T d 19 [aR 1 0, aI l1, aI l2] (sh_E h) Q := by
  obtain ⟨d, rfl⟩ : ∃ e, d = e + 1 := ⟨d - 1, by omega⟩
  replace hd : 4 ≤ d := by omega
  refine And.intro (Nat.le_of_ble_eq_true rfl) ?_
  show wq_19 d Q 0 [oR 1 0, oI l1, oI l2] [] (sh_E h)
  refine ai_WP_steps mc_19 (sh_CM d) 7 (And.intro (Nat.le_of_ble_eq_true rfl) (x_Coins_ofKind N (Nat.le_trans (Nat.le_of_ble_eq_true rfl) hd) 35 (1 : Int32) l1 l2 h (sh_okB H) (fun v1 h2 H => ?_)))
  show wq_19 d Q 11 [oR 1 0, oI l1, oI l2] [aI v1] (sh_E h2)
  exact ai_WP_steps mc_19 (sh_CM d) 1 (hR v1 h2 H)
def f_Coins_ofPurse (N : Nat)  (l1 : Int32) (l2 : Int32) (h : sh_H) : Option (Int32 × sh_H) := (sh_b2 (f_Coins_ofKind N 34 (2 : Int32) l1 l2 h) (fun v1 h2 => (some (v1, h2))))
theorem x_Coins_ofPurse (N : Nat) {d : Nat} (hd : 5 ≤ d) (l1 : Int32) (l2 : Int32) (h : sh_H) {Q : ai_Q} {R : Int32 × sh_H → Prop} (H : sh_ok (f_Coins_ofPurse N l1 l2 h) R) (hR : ∀ r h, R (r, h) → Q (some (aI r)) (sh_E h)) : ai_Ex sh_T d 20 [aR 1 0, aI l1, aI l2] (sh_E h) Q := by
  obtain ⟨d, rfl⟩ : ∃ e, d = e + 1 := ⟨d - 1, by omega⟩
  replace hd : 4 ≤ d := by omega
  refine And.intro (Nat.le_of_ble_eq_true rfl) ?_
  show wq_20 d Q 0 [oR 1 0, oI l1, oI l2] [] (sh_E h)
  refine ai_WP_steps mc_20 (sh_CM d) 7 (And.intro (Nat.le_of_ble_eq_true rfl) (x_Coins_ofKind N (Nat.le_trans (Nat.le_of_ble_eq_true rfl) hd) 34 (2 : Int32) l1 l2 h (sh_okB H) (fun v1 h2 H => ?_)))
  show wq_20 d Q 11 [oR 1 0, oI l1, oI l2] [aI v1] (sh_E h2)
  exact ai_WP_steps mc_20 (sh_CM d) 1 (hR v1 h2 H)
def f_Coins_leastGiven_b88 (N : Nat)  (k43 : Int32 → Int32 → Int32 → sh_H → Option (Int32 × sh_H)) (l1 : Int32) (l2 : Int32) (l3 : Int32) (h : sh_H) : Option (Int32 × sh_H) := k43 l1 l2 (l3 + (1 : Int32)) h
theorem x_Coins_leastGiven_b88 (N : Nat) {d : Nat} (hd : 3 ≤ d) {Q : ai_Q} {R : Int32 × sh_H → Prop} (hR : ∀ r h, R (r, h) → Q (some (aI r)) (sh_E h))  (k43 : Int32 → Int32 → Int32 → sh_H → Option (Int32 × sh_H)) (hk43 : ∀ (l1 : Int32) (l2 : Int32) (l3 : Int32) {d4 : Option ai_V} (h : sh_H), sh_ok (k43 l1 l2 l3 h) R → wq_21 d Q 43 [oR 1 0, oI l1, oI l2, oI l3, d4] [] (sh_E h)) (l1 : Int32) (l2 : Int32) (l3 : Int32) {d4 : Option ai_V} (h : sh_H) (H : sh_ok (f_Coins_leastGiven_b88 N k43 l1 l2 l3 h) R) : wq_21 d Q 88 [oR 1 0, oI l1, oI l2, oI l3, d4] [] (sh_E h) := by
  refine ai_WP_steps mc_21 (sh_CM d) 2 ?_
  exact hk43 l1 l2 (l3 + (1 : Int32)) h H
def f_Coins_leastGiven_c43 (N : Nat)   (k43 : Int32 → Int32 → Int32 → sh_H → Option (Int32 × sh_H)) (l1 : Int32) (l2 : Int32) (l3 : Int32) (h : sh_H) : Option (Int32 × sh_H) := (if (4000 : Int32) < l3 then (some (l2, h)) else (Option.bind (f_Coins_at 34 l3 h) (fun v1 => (Option.bind (f_Coins_at 35 (l3 - l1) h) (fun v2 => (if (v1 + v2) < (h.1 1 0 3) then (sh_let (sh_pI h 1 0 3 (v1 + v2)) (fun h3 => f_Coins_leastGiven_b88 N k43 l1 l3 l3 h3)) else f_Coins_leastGiven_b88 N k43 l1 l2 l3 h))))))
def f_Coins_leastGiven_l43 (N : Nat)   (n : Nat) : Int32 → Int32 → Int32 → sh_H → Option (Int32 × sh_H) := Nat.rec (motive := fun _ => Int32 → Int32 → Int32 → sh_H → Option (Int32 × sh_H)) (fun _ _ _ _ => none) (fun _ k43 => f_Coins_leastGiven_c43 N k43) n
theorem x_Coins_leastGiven_l43 (N : Nat) {d : Nat} (hd : 3 ≤ d) {Q : ai_Q} {R : Int32 × sh_H → Prop} (hR : ∀ r h, R (r, h) → Q (some (aI r)) (sh_E h))   (n : Nat) : ∀ (l1 : Int32) (l2 : Int32) (l3 : Int32) {d4 : Option ai_V} (h : sh_H), sh_ok (f_Coins_leastGiven_l43 N n l1 l2 l3 h) R → wq_21 d Q 43 [oR 1 0, oI l1, oI l2, oI l3, d4] [] (sh_E h) := by
  induction n with
  | zero => intro l1 l2 l3 d4 h H; exact H.elim
  | succ n ih =>
    intro l1 l2 l3 d4 h H
    have hk43 := @ih
    replace H : sh_ok (f_Coins_leastGiven_c43 N (f_Coins_leastGiven_l43 N n) l1 l2 l3 h) R := H
    revert hk43 H
    generalize f_Coins_leastGiven_l43 N n = k43
    intro hk43 H
    refine ai_WP_steps mc_21 (sh_CM d) 3 (And.intro (fun c => ?_) (fun c => ?_))
    · replace H := sh_okT c H
      show wq_21 d Q 94 [oR 1 0, oI l1, oI l2, oI l3, _] [] (sh_E h)
      exact ai_WP_steps mc_21 (sh_CM d) 2 (hR l2 h H)
    · replace H := sh_okF c H
      show wq_21 d Q 50 [oR 1 0, oI l1, oI l2, oI l3, _] [] (sh_E h)
      refine ai_WP_steps mc_21 (sh_CM d) 4 (And.intro (Nat.le_of_ble_eq_true rfl) (x_Coins_at (Nat.le_trans (Nat.le_of_ble_eq_true rfl) hd) 34 l3 h (sh_okB H) (fun v1 H => ?_)))
      show wq_21 d Q 58 [oR 1 0, oI l1, oI l2, oI l3, _] [aI v1] (sh_E h)
      refine ai_WP_steps mc_21 (sh_CM d) 6 (And.intro (Nat.le_of_ble_eq_true rfl) (x_Coins_at (Nat.le_trans (Nat.le_of_ble_eq_true rfl) hd) 35 (l3 - l1) h (sh_okB H) (fun v2 H => ?_)))
      show wq_21 d Q 68 [oR 1 0, oI l1, oI l2, oI l3, _] [aI v2, aI v1] (sh_E h)
      refine ai_WP_steps mc_21 (sh_CM d) 6 (And.intro (fun c => ?_) (fun c => ?_))
      · replace H := sh_okT c H
        show wq_21 d Q 80 [oR 1 0, oI l1, oI l2, oI l3, oI (v1 + v2)] [] (sh_E h)
        refine ai_WP_steps mc_21 (sh_CM d) 3 (And.intro trivial ?_)
        show wq_21 d Q 86 [oR 1 0, oI l1, oI l2, oI l3, oI (v1 + v2)] [] (sh_E (sh_pI h 1 0 3 (v1 + v2)))
        replace H := sh_okL H
        generalize sh_pI h 1 0 3 (v1 + v2) = h3 at H ⊢
        refine ai_WP_steps mc_21 (sh_CM d) 2 ?_
        exact x_Coins_leastGiven_b88 N hd hR k43 hk43 l1 l3 l3 h3 H
      · replace H := sh_okF c H
        exact x_Coins_leastGiven_b88 N hd hR k43 hk43 l1 l2 l3 h H
def f_Coins_leastGiven (N : Nat)  (l1 : Int32) (h : sh_H) : Option (Int32 × sh_H) := (Option.bind (f_Coins_fill N 34 (2 : Int32) (0 : Int32) (4000 : Int32) h) (fun h4 => (Option.bind (f_Coins_fill N 35 (1 : Int32) (0 : Int32) ((4000 : Int32) - l1) h4) (fun h5 => (sh_let (sh_pI h5 1 0 3 (1048576 : Int32)) (fun h6 => (Option.bind (f_Math_max (0 : Int32) l1 h6) (fun v7 => f_Coins_leastGiven_l43 N N l1 (-2 : Int32) v7 h6))))))))
theorem x_Coins_leastGiven (N : Nat) {d : Nat} (hd : 4 ≤ d) (l1 : Int32) (h : sh_H) {Q : ai_Q} {R : Int32 × sh_H → Prop} (H : sh_ok (f_Coins_leastGiven N l1 h) R) (hR : ∀ r h, R (r, h) → Q (some (aI r)) (sh_E h)) : ai_Ex sh_T d 21 [aR 1 0, aI l1] (sh_E h) Q := by
  obtain ⟨d, rfl⟩ : ∃ e, d = e + 1 := ⟨d - 1, by omega⟩
  replace hd : 3 ≤ d := by omega
  refine And.intro (Nat.le_of_ble_eq_true rfl) ?_
  show wq_21 d Q 0 [oR 1 0, oI l1, none, none, none] [] (sh_E h)
  refine ai_WP_steps mc_21 (sh_CM d) 7 (And.intro (Nat.le_of_ble_eq_true rfl) (x_Coins_fill N (Nat.le_trans (Nat.le_of_ble_eq_true rfl) hd) 34 (2 : Int32) (0 : Int32) (4000 : Int32) h (sh_okB H) (fun h4 H => ?_)))
  show wq_21 d Q 13 [oR 1 0, oI l1, _, _, _] [] (sh_E h4)
  refine ai_WP_steps mc_21 (sh_CM d) 9 (And.intro (Nat.le_of_ble_eq_true rfl) (x_Coins_fill N (Nat.le_trans (Nat.le_of_ble_eq_true rfl) hd) 35 (1 : Int32) (0 : Int32) ((4000 : Int32) - l1) h4 (sh_okB H) (fun h5 H => ?_)))
  show wq_21 d Q 28 [oR 1 0, oI l1, _, _, _] [] (sh_E h5)
  refine ai_WP_steps mc_21 (sh_CM d) 5 (And.intro trivial ?_)
  show wq_21 d Q 37 [oR 1 0, oI l1, oI (-2 : Int32), _, _] [] (sh_E (sh_pI h5 1 0 3 (1048576 : Int32)))
  replace H := sh_okL H
  generalize sh_pI h5 1 0 3 (1048576 : Int32) = h6 at H ⊢
  refine ai_WP_steps mc_21 (sh_CM d) 3 (And.intro (Nat.le_of_ble_eq_true rfl) (x_Math_max (Nat.le_trans (Nat.le_of_ble_eq_true rfl) hd) (0 : Int32) l1 h6 (sh_okB H) (fun v7 H => ?_)))
  show wq_21 d Q 42 [oR 1 0, oI l1, oI (-2 : Int32), _, _] [aI v7] (sh_E h6)
  refine ai_WP_steps mc_21 (sh_CM d) 1 ?_
  exact x_Coins_leastGiven_l43 N hd hR N l1 (-2 : Int32) v7 h6 H
def f_Coins_bothWays   (h : sh_H) : Option Int32 := (some (h.1 1 0 3))
theorem x_Coins_bothWays {d : Nat} (hd : 1 ≤ d)  (h : sh_H) {Q : ai_Q} {R : Int32 → Prop} (H : sh_ok (f_Coins_bothWays h) R) (hR : ∀ r, R r → Q (some (aI r)) (sh_E h)) : ai_Ex sh_T d 22 [aR 1 0] (sh_E h) Q := by
  obtain ⟨d, rfl⟩ : ∃ e, d = e + 1 := ⟨d - 1, by omega⟩
  replace hd : 0 ≤ d := by omega
  refine And.intro (Nat.le_of_ble_eq_true rfl) ?_
  show wq_22 d Q 0 [oR 1 0] [] (sh_E h)
  exact ai_WP_steps mc_22 (sh_CM d) 3 (hR (h.1 1 0 3) H)
def f_Coins_hasOne_b36 (N : Nat)  (k2 : Int32 → Int32 → sh_H → Option Int32) (l1 : Int32) (l2 : Int32) (h : sh_H) : Option Int32 := k2 l1 (l2 + (1 : Int32)) h
theorem x_Coins_hasOne_b36 (N : Nat) {d : Nat} (hd : 2 ≤ d) (h : sh_H) {Q : ai_Q} {R : Int32 → Prop} (hR : ∀ r, R r → Q (some (aI r)) (sh_E h))  (k2 : Int32 → Int32 → sh_H → Option Int32) (hk2 : ∀ (l1 : Int32) (l2 : Int32), sh_ok (k2 l1 l2 h) R → wq_24 d Q 2 [oR 1 0, oI l1, oI l2] [] (sh_E h)) (l1 : Int32) (l2 : Int32) (H : sh_ok (f_Coins_hasOne_b36 N k2 l1 l2 h) R) : wq_24 d Q 36 [oR 1 0, oI l1, oI l2] [] (sh_E h) := by
  refine ai_WP_steps mc_24 (sh_CM d) 2 ?_
  exact hk2 l1 (l2 + (1 : Int32)) H
def f_Coins_hasOne_c2 (N : Nat)   (k2 : Int32 → Int32 → sh_H → Option Int32) (l1 : Int32) (l2 : Int32) (h : sh_H) : Option Int32 := (Option.bind (f_Rows_size 28 h) (fun v1 => (if l2 < v1 then (if ((l1 >>> (l2 &&& 31)) &&& (1 : Int32)) = 0 then f_Coins_hasOne_b36 N k2 l1 l2 h else (Option.bind (f_Rows_get 28 l2 (0 : Int32) h) (fun v2 => (if v2 = (1 : Int32) then (some (ai_nar 1 (1 : Int32))) else f_Coins_hasOne_b36 N k2 l1 l2 h)))) else (some (ai_nar 1 (0 : Int32))))))
def f_Coins_hasOne_l2 (N : Nat)   (n : Nat) : Int32 → Int32 → sh_H → Option Int32 := Nat.rec (motive := fun _ => Int32 → Int32 → sh_H → Option Int32) (fun _ _ _ => none) (fun _ k2 => f_Coins_hasOne_c2 N k2) n
theorem x_Coins_hasOne_l2 (N : Nat) {d : Nat} (hd : 2 ≤ d) (h : sh_H) {Q : ai_Q} {R : Int32 → Prop} (hR : ∀ r, R r → Q (some (aI r)) (sh_E h))   (n : Nat) : ∀ (l1 : Int32) (l2 : Int32), sh_ok (f_Coins_hasOne_l2 N n l1 l2 h) R → wq_24 d Q 2 [oR 1 0, oI l1, oI l2] [] (sh_E h) := by
  induction n with
  | zero => intro l1 l2 H; exact H.elim
  | succ n ih =>
    intro l1 l2 H
    have hk2 := @ih
    replace H : sh_ok (f_Coins_hasOne_c2 N (f_Coins_hasOne_l2 N n) l1 l2 h) R := H
    revert hk2 H
    generalize f_Coins_hasOne_l2 N n = k2
    intro hk2 H
    refine ai_WP_steps mc_24 (sh_CM d) 4 (And.intro (Nat.le_of_ble_eq_true rfl) (x_Rows_size (Nat.le_trans (Nat.le_of_ble_eq_true rfl) hd) 28 h (sh_okB H) (fun v1 H => ?_)))
    show wq_24 d Q 10 [oR 1 0, oI l1, oI l2] [aI v1, aI l2] (sh_E h)
    refine ai_WP_steps mc_24 (sh_CM d) 1 (And.intro (fun c => ?_) (fun c => ?_))
    · replace H := sh_okT c H
      show wq_24 d Q 13 [oR 1 0, oI l1, oI l2] [] (sh_E h)
      refine ai_WP_steps mc_24 (sh_CM d) 6 (And.intro (fun c => ?_) (fun c => ?_))
      · replace H := sh_okT c H
        exact x_Coins_hasOne_b36 N hd h hR k2 hk2 l1 l2 H
      · replace H := sh_okF c H
        show wq_24 d Q 21 [oR 1 0, oI l1, oI l2] [] (sh_E h)
        refine ai_WP_steps mc_24 (sh_CM d) 5 (And.intro (Nat.le_of_ble_eq_true rfl) (x_Rows_get (Nat.le_trans (Nat.le_of_ble_eq_true rfl) hd) 28 l2 (0 : Int32) h (sh_okB H) (fun v2 H => ?_)))
        show wq_24 d Q 30 [oR 1 0, oI l1, oI l2] [aI v2] (sh_E h)
        refine ai_WP_steps mc_24 (sh_CM d) 2 (And.intro (fun c => ?_) (fun c => ?_))
        · replace H := sh_okT c H
          show wq_24 d Q 34 [oR 1 0, oI l1, oI l2] [] (sh_E h)
          exact ai_WP_steps mc_24 (sh_CM d) 2 (hR (ai_nar 1 (1 : Int32)) H)
        · replace H := sh_okF c H
          exact x_Coins_hasOne_b36 N hd h hR k2 hk2 l1 l2 H
    · replace H := sh_okF c H
      show wq_24 d Q 42 [oR 1 0, oI l1, oI l2] [] (sh_E h)
      exact ai_WP_steps mc_24 (sh_CM d) 2 (hR (ai_nar 1 (0 : Int32)) H)
def f_Coins_hasOne (N : Nat)  (l1 : Int32) (h : sh_H) : Option Int32 := f_Coins_hasOne_l2 N N l1 (0 : Int32) h
theorem x_Coins_hasOne (N : Nat) {d : Nat} (hd : 3 ≤ d) (l1 : Int32) (h : sh_H) {Q : ai_Q} {R : Int32 → Prop} (H : sh_ok (f_Coins_hasOne N l1 h) R) (hR : ∀ r, R r → Q (some (aI r)) (sh_E h)) : ai_Ex sh_T d 24 [aR 1 0, aI l1] (sh_E h) Q := by
  obtain ⟨d, rfl⟩ : ∃ e, d = e + 1 := ⟨d - 1, by omega⟩
  replace hd : 2 ≤ d := by omega
  refine And.intro (Nat.le_of_ble_eq_true rfl) ?_
  show wq_24 d Q 0 [oR 1 0, oI l1, none] [] (sh_E h)
  refine ai_WP_steps mc_24 (sh_CM d) 2 ?_
  exact x_Coins_hasOne_l2 N hd h hR N l1 (0 : Int32) H
def f_Int_bitCount  (l0 : Int32) (h : sh_H) : Option Int32 := (some ((((((((l0 - ((sh_us l0 (1 : Int32)) &&& (1431655765 : Int32))) &&& (858993459 : Int32)) + ((sh_us (l0 - ((sh_us l0 (1 : Int32)) &&& (1431655765 : Int32))) (2 : Int32)) &&& (858993459 : Int32))) + (sh_us (((l0 - ((sh_us l0 (1 : Int32)) &&& (1431655765 : Int32))) &&& (858993459 : Int32)) + ((sh_us (l0 - ((sh_us l0 (1 : Int32)) &&& (1431655765 : Int32))) (2 : Int32)) &&& (858993459 : Int32))) (4 : Int32))) &&& (252645135 : Int32)) + (sh_us (((((l0 - ((sh_us l0 (1 : Int32)) &&& (1431655765 : Int32))) &&& (858993459 : Int32)) + ((sh_us (l0 - ((sh_us l0 (1 : Int32)) &&& (1431655765 : Int32))) (2 : Int32)) &&& (858993459 : Int32))) + (sh_us (((l0 - ((sh_us l0 (1 : Int32)) &&& (1431655765 : Int32))) &&& (858993459 : Int32)) + ((sh_us (l0 - ((sh_us l0 (1 : Int32)) &&& (1431655765 : Int32))) (2 : Int32)) &&& (858993459 : Int32))) (4 : Int32))) &&& (252645135 : Int32)) (8 : Int32))) + (sh_us ((((((l0 - ((sh_us l0 (1 : Int32)) &&& (1431655765 : Int32))) &&& (858993459 : Int32)) + ((sh_us (l0 - ((sh_us l0 (1 : Int32)) &&& (1431655765 : Int32))) (2 : Int32)) &&& (858993459 : Int32))) + (sh_us (((l0 - ((sh_us l0 (1 : Int32)) &&& (1431655765 : Int32))) &&& (858993459 : Int32)) + ((sh_us (l0 - ((sh_us l0 (1 : Int32)) &&& (1431655765 : Int32))) (2 : Int32)) &&& (858993459 : Int32))) (4 : Int32))) &&& (252645135 : Int32)) + (sh_us (((((l0 - ((sh_us l0 (1 : Int32)) &&& (1431655765 : Int32))) &&& (858993459 : Int32)) + ((sh_us (l0 - ((sh_us l0 (1 : Int32)) &&& (1431655765 : Int32))) (2 : Int32)) &&& (858993459 : Int32))) + (sh_us (((l0 - ((sh_us l0 (1 : Int32)) &&& (1431655765 : Int32))) &&& (858993459 : Int32)) + ((sh_us (l0 - ((sh_us l0 (1 : Int32)) &&& (1431655765 : Int32))) (2 : Int32)) &&& (858993459 : Int32))) (4 : Int32))) &&& (252645135 : Int32)) (8 : Int32))) (16 : Int32))) &&& (63 : Int32)))
theorem x_Int_bitCount {d : Nat} (hd : 1 ≤ d) (l0 : Int32) (h : sh_H) {Q : ai_Q} {R : Int32 → Prop} (H : sh_ok (f_Int_bitCount l0 h) R) (hR : ∀ r, R r → Q (some (aI r)) (sh_E h)) : ai_Ex sh_T d 343 [aI l0] (sh_E h) Q := by
  obtain ⟨d, rfl⟩ : ∃ e, d = e + 1 := ⟨d - 1, by omega⟩
  replace hd : 0 ≤ d := by omega
  refine And.intro (Nat.le_of_ble_eq_true rfl) ?_
  show wq_343 d Q 0 [oI l0] [] (sh_E h)
  exact ai_WP_steps mc_343 (sh_CM d) 42 (hR ((((((((l0 - ((sh_us l0 (1 : Int32)) &&& (1431655765 : Int32))) &&& (858993459 : Int32)) + ((sh_us (l0 - ((sh_us l0 (1 : Int32)) &&& (1431655765 : Int32))) (2 : Int32)) &&& (858993459 : Int32))) + (sh_us (((l0 - ((sh_us l0 (1 : Int32)) &&& (1431655765 : Int32))) &&& (858993459 : Int32)) + ((sh_us (l0 - ((sh_us l0 (1 : Int32)) &&& (1431655765 : Int32))) (2 : Int32)) &&& (858993459 : Int32))) (4 : Int32))) &&& (252645135 : Int32)) + (sh_us (((((l0 - ((sh_us l0 (1 : Int32)) &&& (1431655765 : Int32))) &&& (858993459 : Int32)) + ((sh_us (l0 - ((sh_us l0 (1 : Int32)) &&& (1431655765 : Int32))) (2 : Int32)) &&& (858993459 : Int32))) + (sh_us (((l0 - ((sh_us l0 (1 : Int32)) &&& (1431655765 : Int32))) &&& (858993459 : Int32)) + ((sh_us (l0 - ((sh_us l0 (1 : Int32)) &&& (1431655765 : Int32))) (2 : Int32)) &&& (858993459 : Int32))) (4 : Int32))) &&& (252645135 : Int32)) (8 : Int32))) + (sh_us ((((((l0 - ((sh_us l0 (1 : Int32)) &&& (1431655765 : Int32))) &&& (858993459 : Int32)) + ((sh_us (l0 - ((sh_us l0 (1 : Int32)) &&& (1431655765 : Int32))) (2 : Int32)) &&& (858993459 : Int32))) + (sh_us (((l0 - ((sh_us l0 (1 : Int32)) &&& (1431655765 : Int32))) &&& (858993459 : Int32)) + ((sh_us (l0 - ((sh_us l0 (1 : Int32)) &&& (1431655765 : Int32))) (2 : Int32)) &&& (858993459 : Int32))) (4 : Int32))) &&& (252645135 : Int32)) + (sh_us (((((l0 - ((sh_us l0 (1 : Int32)) &&& (1431655765 : Int32))) &&& (858993459 : Int32)) + ((sh_us (l0 - ((sh_us l0 (1 : Int32)) &&& (1431655765 : Int32))) (2 : Int32)) &&& (858993459 : Int32))) + (sh_us (((l0 - ((sh_us l0 (1 : Int32)) &&& (1431655765 : Int32))) &&& (858993459 : Int32)) + ((sh_us (l0 - ((sh_us l0 (1 : Int32)) &&& (1431655765 : Int32))) (2 : Int32)) &&& (858993459 : Int32))) (4 : Int32))) &&& (252645135 : Int32)) (8 : Int32))) (16 : Int32))) &&& (63 : Int32)) H)
def f_Coins_sumOf_b50 (N : Nat)  (k11 : Int32 → Int32 → Int32 → Int32 → sh_H → Option (Int32 × sh_H)) (l1 : Int32) (l2 : Int32) (l3 : Int32) (l4 : Int32) (h : sh_H) : Option (Int32 × sh_H) := k11 l1 l2 l3 (l4 + (1 : Int32)) h
theorem x_Coins_sumOf_b50 (N : Nat) {d : Nat} (hd : 2 ≤ d) {Q : ai_Q} {R : Int32 × sh_H → Prop} (hR : ∀ r h, R (r, h) → Q (some (aI r)) (sh_E h))  (k11 : Int32 → Int32 → Int32 → Int32 → sh_H → Option (Int32 × sh_H)) (hk11 : ∀ (l1 : Int32) (l2 : Int32) (l3 : Int32) (l4 : Int32) {d5 : Option ai_V} (h : sh_H), sh_ok (k11 l1 l2 l3 l4 h) R → wq_25 d Q 11 [oR 1 0, oI l1, oI l2, oI l3, oI l4, d5] [] (sh_E h)) (l1 : Int32) (l2 : Int32) (l3 : Int32) (l4 : Int32) {d5 : Option ai_V} (h : sh_H) (H : sh_ok (f_Coins_sumOf_b50 N k11 l1 l2 l3 l4 h) R) : wq_25 d Q 50 [oR 1 0, oI l1, oI l2, oI l3, oI l4, d5] [] (sh_E h) := by
  refine ai_WP_steps mc_25 (sh_CM d) 2 ?_
  exact hk11 l1 l2 l3 (l4 + (1 : Int32)) h H
def f_Coins_sumOf_c11 (N : Nat)  (k56 : Int32 → Int32 → Int32 → sh_H → Option (Int32 × sh_H)) (k11 : Int32 → Int32 → Int32 → Int32 → sh_H → Option (Int32 × sh_H)) (l1 : Int32) (l2 : Int32) (l3 : Int32) (l4 : Int32) (h : sh_H) : Option (Int32 × sh_H) := (Option.bind (f_Rows_size 28 h) (fun v1 => (if l4 < v1 then (if ((l1 >>> (l4 &&& 31)) &&& (1 : Int32)) = 0 then f_Coins_sumOf_b50 N k11 l1 l2 l3 l4 h else (Option.bind (f_Rows_get 28 l4 (0 : Int32) h) (fun v2 => (Option.bind (f_Coins_addEndless N 34 v2 l2 h) (fun h3 => f_Coins_sumOf_b50 N k11 l1 l2 l3 l4 h3))))) else k56 l1 l2 l3 h)))
def f_Coins_sumOf_l11 (N : Nat)  (k56 : Int32 → Int32 → Int32 → sh_H → Option (Int32 × sh_H)) (n : Nat) : Int32 → Int32 → Int32 → Int32 → sh_H → Option (Int32 × sh_H) := Nat.rec (motive := fun _ => Int32 → Int32 → Int32 → Int32 → sh_H → Option (Int32 × sh_H)) (fun _ _ _ _ _ => none) (fun _ k11 => f_Coins_sumOf_c11 N k56 k11) n
theorem x_Coins_sumOf_l11 (N : Nat) {d : Nat} (hd : 2 ≤ d) {Q : ai_Q} {R : Int32 × sh_H → Prop} (hR : ∀ r h, R (r, h) → Q (some (aI r)) (sh_E h))  (k56 : Int32 → Int32 → Int32 → sh_H → Option (Int32 × sh_H)) (hk56 : ∀ (l1 : Int32) (l2 : Int32) (l3 : Int32) {d4 d5 : Option ai_V} (h : sh_H), sh_ok (k56 l1 l2 l3 h) R → wq_25 d Q 56 [oR 1 0, oI l1, oI l2, oI l3, d4, d5] [] (sh_E h)) (n : Nat) : ∀ (l1 : Int32) (l2 : Int32) (l3 : Int32) (l4 : Int32) {d5 : Option ai_V} (h : sh_H), sh_ok (f_Coins_sumOf_l11 N k56 n l1 l2 l3 l4 h) R → wq_25 d Q 11 [oR 1 0, oI l1, oI l2, oI l3, oI l4, d5] [] (sh_E h) := by
  induction n with
  | zero => intro l1 l2 l3 l4 d5 h H; exact H.elim
  | succ n ih =>
    intro l1 l2 l3 l4 d5 h H
    have hk11 := @ih
    replace H : sh_ok (f_Coins_sumOf_c11 N k56 (f_Coins_sumOf_l11 N k56 n) l1 l2 l3 l4 h) R := H
    revert hk11 H
    generalize f_Coins_sumOf_l11 N k56 n = k11
    intro hk11 H
    refine ai_WP_steps mc_25 (sh_CM d) 4 (And.intro (Nat.le_of_ble_eq_true rfl) (x_Rows_size (Nat.le_trans (Nat.le_of_ble_eq_true rfl) hd) 28 h (sh_okB H) (fun v1 H => ?_)))
    show wq_25 d Q 20 [oR 1 0, oI l1, oI l2, oI l3, oI l4, _] [aI v1, aI l4] (sh_E h)
    refine ai_WP_steps mc_25 (sh_CM d) 1 (And.intro (fun c => ?_) (fun c => ?_))
    · replace H := sh_okT c H
      show wq_25 d Q 23 [oR 1 0, oI l1, oI l2, oI l3, oI l4, _] [] (sh_E h)
      refine ai_WP_steps mc_25 (sh_CM d) 6 (And.intro (fun c => ?_) (fun c => ?_))
      · replace H := sh_okT c H
        exact x_Coins_sumOf_b50 N hd hR k11 hk11 l1 l2 l3 l4 h H
      · replace H := sh_okF c H
        show wq_25 d Q 32 [oR 1 0, oI l1, oI l2, oI l3, oI l4, _] [] (sh_E h)
        refine ai_WP_steps mc_25 (sh_CM d) 7 (And.intro (Nat.le_of_ble_eq_true rfl) (x_Rows_get (Nat.le_trans (Nat.le_of_ble_eq_true rfl) hd) 28 l4 (0 : Int32) h (sh_okB H) (fun v2 H => ?_)))
        show wq_25 d Q 46 [oR 1 0, oI l1, oI l2, oI l3, oI l4, _] [aI v2, aR 13 34] (sh_E h)
        refine ai_WP_steps mc_25 (sh_CM d) 2 (And.intro (Nat.le_of_ble_eq_true rfl) (x_Coins_addEndless N (Nat.le_trans (Nat.le_of_ble_eq_true rfl) hd) 34 v2 l2 h (sh_okB H) (fun h3 H => ?_)))
        show wq_25 d Q 50 [oR 1 0, oI l1, oI l2, oI l3, oI l4, _] [] (sh_E h3)
        exact x_Coins_sumOf_b50 N hd hR k11 hk11 l1 l2 l3 l4 h3 H
    · replace H := sh_okF c H
      exact hk56 l1 l2 l3 h H
def f_Coins_sumOf_c67 (N : Nat)   (k67 : Int32 → Int32 → Int32 → sh_H → Option (Int32 × sh_H)) (l2 : Int32) (l4 : Int32) (l5 : Int32) (h : sh_H) : Option (Int32 × sh_H) := (if l2 < l5 then (some (l4, h)) else (Option.bind (f_Coins_at 34 l5 h) (fun v4 => k67 l2 (l4 + v4) (l5 + (1 : Int32)) h)))
def f_Coins_sumOf_l67 (N : Nat)   (n : Nat) : Int32 → Int32 → Int32 → sh_H → Option (Int32 × sh_H) := Nat.rec (motive := fun _ => Int32 → Int32 → Int32 → sh_H → Option (Int32 × sh_H)) (fun _ _ _ _ => none) (fun _ k67 => f_Coins_sumOf_c67 N k67) n
theorem x_Coins_sumOf_l67 (N : Nat) {d : Nat} (hd : 2 ≤ d) {Q : ai_Q} {R : Int32 × sh_H → Prop} (hR : ∀ r h, R (r, h) → Q (some (aI r)) (sh_E h))   (n : Nat) : ∀ (l2 : Int32) (l4 : Int32) (l5 : Int32) {d1 d3 : Option ai_V} (h : sh_H), sh_ok (f_Coins_sumOf_l67 N n l2 l4 l5 h) R → wq_25 d Q 67 [oR 1 0, d1, oI l2, d3, oI l4, oI l5] [] (sh_E h) := by
  induction n with
  | zero => intro l2 l4 l5 d1 d3 h H; exact H.elim
  | succ n ih =>
    intro l2 l4 l5 d1 d3 h H
    have hk67 := @ih
    replace H : sh_ok (f_Coins_sumOf_c67 N (f_Coins_sumOf_l67 N n) l2 l4 l5 h) R := H
    revert hk67 H
    generalize f_Coins_sumOf_l67 N n = k67
    intro hk67 H
    refine ai_WP_steps mc_25 (sh_CM d) 3 (And.intro (fun c => ?_) (fun c => ?_))
    · replace H := sh_okT c H
      show wq_25 d Q 93 [oR 1 0, _, oI l2, _, oI l4, oI l5] [] (sh_E h)
      exact ai_WP_steps mc_25 (sh_CM d) 2 (hR l4 h H)
    · replace H := sh_okF c H
      show wq_25 d Q 73 [oR 1 0, _, oI l2, _, oI l4, oI l5] [] (sh_E h)
      refine ai_WP_steps mc_25 (sh_CM d) 5 (And.intro (Nat.le_of_ble_eq_true rfl) (x_Coins_at (Nat.le_trans (Nat.le_of_ble_eq_true rfl) hd) 34 l5 h (sh_okB H) (fun v4 H => ?_)))
      show wq_25 d Q 84 [oR 1 0, _, oI l2, _, oI l4, oI l5] [aI v4, aI l4] (sh_E h)
      refine ai_WP_steps mc_25 (sh_CM d) 4 ?_
      exact hk67 l2 (l4 + v4) (l5 + (1 : Int32)) h H
def f_Coins_sumOf_b56 (N : Nat)   (l1 : Int32) (l2 : Int32) (l3 : Int32) (h : sh_H) : Option (Int32 × sh_H) := (Option.bind (f_Int_bitCount l1 h) (fun v5 => f_Coins_sumOf_l67 N N l2 (l3 * v5) (1 : Int32) h))
theorem x_Coins_sumOf_b56 (N : Nat) {d : Nat} (hd : 2 ≤ d) {Q : ai_Q} {R : Int32 × sh_H → Prop} (hR : ∀ r h, R (r, h) → Q (some (aI r)) (sh_E h))   (l1 : Int32) (l2 : Int32) (l3 : Int32) {d4 d5 : Option ai_V} (h : sh_H) (H : sh_ok (f_Coins_sumOf_b56 N l1 l2 l3 h) R) : wq_25 d Q 56 [oR 1 0, oI l1, oI l2, oI l3, d4, d5] [] (sh_E h) := by
  refine ai_WP_steps mc_25 (sh_CM d) 3 (And.intro (Nat.le_of_ble_eq_true rfl) (x_Int_bitCount (Nat.le_trans (Nat.le_of_ble_eq_true rfl) hd) l1 h (sh_okB H) (fun v5 H => ?_)))
  show wq_25 d Q 61 [oR 1 0, oI l1, oI l2, oI l3, _, _] [aI v5, aI l3] (sh_E h)
  refine ai_WP_steps mc_25 (sh_CM d) 4 ?_
  exact x_Coins_sumOf_l67 N hd hR N l2 (l3 * v5) (1 : Int32) h H
def f_Coins_sumOf (N : Nat)  (l1 : Int32) (l2 : Int32) (l3 : Int32) (h : sh_H) : Option (Int32 × sh_H) := (Option.bind (f_Coins_clear N 34 l2 h) (fun h6 => f_Coins_sumOf_l11 N (f_Coins_sumOf_b56 N) N l1 l2 l3 (0 : Int32) h6))
theorem x_Coins_sumOf (N : Nat) {d : Nat} (hd : 3 ≤ d) (l1 : Int32) (l2 : Int32) (l3 : Int32) (h : sh_H) {Q : ai_Q} {R : Int32 × sh_H → Prop} (H : sh_ok (f_Coins_sumOf N l1 l2 l3 h) R) (hR : ∀ r h, R (r, h) → Q (some (aI r)) (sh_E h)) : ai_Ex sh_T d 25 [aR 1 0, aI l1, aI l2, aI l3] (sh_E h) Q := by
  obtain ⟨d, rfl⟩ : ∃ e, d = e + 1 := ⟨d - 1, by omega⟩
  replace hd : 2 ≤ d := by omega
  refine And.intro (Nat.le_of_ble_eq_true rfl) ?_
  show wq_25 d Q 0 [oR 1 0, oI l1, oI l2, oI l3, none, none] [] (sh_E h)
  refine ai_WP_steps mc_25 (sh_CM d) 4 (And.intro (Nat.le_of_ble_eq_true rfl) (x_Coins_clear N (Nat.le_trans (Nat.le_of_ble_eq_true rfl) hd) 34 l2 h (sh_okB H) (fun h6 H => ?_)))
  show wq_25 d Q 8 [oR 1 0, oI l1, oI l2, oI l3, _, _] [] (sh_E h6)
  refine ai_WP_steps mc_25 (sh_CM d) 2 ?_
  exact x_Coins_sumOf_l11 N hd hR (f_Coins_sumOf_b56 N) (fun z0 z1 z2 {e4} {e5} h H => x_Coins_sumOf_b56 N hd hR z0 z1 z2 h H) N l1 l2 l3 (0 : Int32) h6 H
def f_Coins_bestSet_b62 (N : Nat)  (k9 : Int32 → Int32 → Int32 → Int32 → Int32 → sh_H → Option (Int32 × sh_H)) (l1 : Int32) (l2 : Int32) (l3 : Int32) (l4 : Int32) (l5 : Int32) (h : sh_H) : Option (Int32 × sh_H) := k9 l1 l2 l3 l4 (l5 + (1 : Int32)) h
theorem x_Coins_bestSet_b62 (N : Nat) {d : Nat} (hd : 3 ≤ d) {Q : ai_Q} {R : Int32 × sh_H → Prop} (hR : ∀ r h, R (r, h) → Q (some (aI r)) (sh_E h))  (k9 : Int32 → Int32 → Int32 → Int32 → Int32 → sh_H → Option (Int32 × sh_H)) (hk9 : ∀ (l1 : Int32) (l2 : Int32) (l3 : Int32) (l4 : Int32) (l5 : Int32) {d6 : Option ai_V} (h : sh_H), sh_ok (k9 l1 l2 l3 l4 l5 h) R → wq_23 d Q 9 [oR 1 0, oI l1, oI l2, oI l3, oI l4, oI l5, d6] [] (sh_E h)) (l1 : Int32) (l2 : Int32) (l3 : Int32) (l4 : Int32) (l5 : Int32) {d6 : Option ai_V} (h : sh_H) (H : sh_ok (f_Coins_bestSet_b62 N k9 l1 l2 l3 l4 l5 h) R) : wq_23 d Q 62 [oR 1 0, oI l1, oI l2, oI l3, oI l4, oI l5, d6] [] (sh_E h) := by
  refine ai_WP_steps mc_23 (sh_CM d) 2 ?_
  exact hk9 l1 l2 l3 l4 (l5 + (1 : Int32)) h H
def f_Coins_bestSet_b55 (N : Nat)  (k9 : Int32 → Int32 → Int32 → Int32 → Int32 → sh_H → Option (Int32 × sh_H)) (l1 : Int32) (l2 : Int32) (l5 : Int32) (l6 : Int32) (h : sh_H) : Option (Int32 × sh_H) := f_Coins_bestSet_b62 N k9 l1 l2 l5 l6 l5 h
theorem x_Coins_bestSet_b55 (N : Nat) {d : Nat} (hd : 3 ≤ d) {Q : ai_Q} {R : Int32 × sh_H → Prop} (hR : ∀ r h, R (r, h) → Q (some (aI r)) (sh_E h))  (k9 : Int32 → Int32 → Int32 → Int32 → Int32 → sh_H → Option (Int32 × sh_H)) (hk9 : ∀ (l1 : Int32) (l2 : Int32) (l3 : Int32) (l4 : Int32) (l5 : Int32) {d6 : Option ai_V} (h : sh_H), sh_ok (k9 l1 l2 l3 l4 l5 h) R → wq_23 d Q 9 [oR 1 0, oI l1, oI l2, oI l3, oI l4, oI l5, d6] [] (sh_E h)) (l1 : Int32) (l2 : Int32) (l5 : Int32) (l6 : Int32) {d3 d4 : Option ai_V} (h : sh_H) (H : sh_ok (f_Coins_bestSet_b55 N k9 l1 l2 l5 l6 h) R) : wq_23 d Q 55 [oR 1 0, oI l1, oI l2, d3, d4, oI l5, oI l6] [] (sh_E h) := by
  refine ai_WP_steps mc_23 (sh_CM d) 4 ?_
  exact x_Coins_bestSet_b62 N hd hR k9 hk9 l1 l2 l5 l6 l5 h H
def f_Coins_bestSet_c9 (N : Nat)   (k9 : Int32 → Int32 → Int32 → Int32 → Int32 → sh_H → Option (Int32 × sh_H)) (l1 : Int32) (l2 : Int32) (l3 : Int32) (l4 : Int32) (l5 : Int32) (h : sh_H) : Option (Int32 × sh_H) := (Option.bind (f_Rows_size 28 h) (fun v1 => (if l5 < ((1 : Int32) <<< (v1 &&& 31)) then (Option.bind (f_Coins_hasOne N l5 h) (fun v2 => (if v2 = 0 then f_Coins_bestSet_b62 N k9 l1 l2 l3 l4 l5 h else (sh_b2 (f_Coins_sumOf N l5 l1 l2 h) (fun v3 h4 => (if l3 = (-2 : Int32) then f_Coins_bestSet_b55 N k9 l1 l2 l5 v3 h4 else (if v3 < l4 then f_Coins_bestSet_b55 N k9 l1 l2 l5 v3 h4 else f_Coins_bestSet_b62 N k9 l1 l2 l3 l4 l5 h4))))))) else (some (l3, h)))))
def f_Coins_bestSet_l9 (N : Nat)   (n : Nat) : Int32 → Int32 → Int32 → Int32 → Int32 → sh_H → Option (Int32 × sh_H) := Nat.rec (motive := fun _ => Int32 → Int32 → Int32 → Int32 → Int32 → sh_H → Option (Int32 × sh_H)) (fun _ _ _ _ _ _ => none) (fun _ k9 => f_Coins_bestSet_c9 N k9) n
theorem x_Coins_bestSet_l9 (N : Nat) {d : Nat} (hd : 3 ≤ d) {Q : ai_Q} {R : Int32 × sh_H → Prop} (hR : ∀ r h, R (r, h) → Q (some (aI r)) (sh_E h))   (n : Nat) : ∀ (l1 : Int32) (l2 : Int32) (l3 : Int32) (l4 : Int32) (l5 : Int32) {d6 : Option ai_V} (h : sh_H), sh_ok (f_Coins_bestSet_l9 N n l1 l2 l3 l4 l5 h) R → wq_23 d Q 9 [oR 1 0, oI l1, oI l2, oI l3, oI l4, oI l5, d6] [] (sh_E h) := by
  induction n with
  | zero => intro l1 l2 l3 l4 l5 d6 h H; exact H.elim
  | succ n ih =>
    intro l1 l2 l3 l4 l5 d6 h H
    have hk9 := @ih
    replace H : sh_ok (f_Coins_bestSet_c9 N (f_Coins_bestSet_l9 N n) l1 l2 l3 l4 l5 h) R := H
    revert hk9 H
    generalize f_Coins_bestSet_l9 N n = k9
    intro hk9 H
    refine ai_WP_steps mc_23 (sh_CM d) 5 (And.intro (Nat.le_of_ble_eq_true rfl) (x_Rows_size (Nat.le_trans (Nat.le_of_ble_eq_true rfl) hd) 28 h (sh_okB H) (fun v1 H => ?_)))
    show wq_23 d Q 19 [oR 1 0, oI l1, oI l2, oI l3, oI l4, oI l5, _] [aI v1, aI (1 : Int32), aI l5] (sh_E h)
    refine ai_WP_steps mc_23 (sh_CM d) 2 (And.intro (fun c => ?_) (fun c => ?_))
    · replace H := sh_okT c H
      show wq_23 d Q 23 [oR 1 0, oI l1, oI l2, oI l3, oI l4, oI l5, _] [] (sh_E h)
      refine ai_WP_steps mc_23 (sh_CM d) 3 (And.intro (Nat.le_of_ble_eq_true rfl) (x_Coins_hasOne N (Nat.le_trans (Nat.le_of_ble_eq_true rfl) hd) l5 h (sh_okB H) (fun v2 H => ?_)))
      show wq_23 d Q 29 [oR 1 0, oI l1, oI l2, oI l3, oI l4, oI l5, _] [aI v2] (sh_E h)
      refine ai_WP_steps mc_23 (sh_CM d) 1 (And.intro (fun c => ?_) (fun c => ?_))
      · replace H := sh_okT c H
        exact x_Coins_bestSet_b62 N hd hR k9 hk9 l1 l2 l3 l4 l5 h H
      · replace H := sh_okF c H
        show wq_23 d Q 32 [oR 1 0, oI l1, oI l2, oI l3, oI l4, oI l5, _] [] (sh_E h)
        refine ai_WP_steps mc_23 (sh_CM d) 5 (And.intro (Nat.le_of_ble_eq_true rfl) (x_Coins_sumOf N (Nat.le_trans (Nat.le_of_ble_eq_true rfl) hd) l5 l1 l2 h (sh_okB H) (fun v3 h4 H => ?_)))
        show wq_23 d Q 40 [oR 1 0, oI l1, oI l2, oI l3, oI l4, oI l5, _] [aI v3] (sh_E h4)
        refine ai_WP_steps mc_23 (sh_CM d) 4 (And.intro (fun c => ?_) (fun c => ?_))
        · replace H := sh_okT c H
          exact x_Coins_bestSet_b55 N hd hR k9 hk9 l1 l2 l5 v3 h4 H
        · replace H := sh_okF c H
          show wq_23 d Q 48 [oR 1 0, oI l1, oI l2, oI l3, oI l4, oI l5, oI v3] [] (sh_E h4)
          refine ai_WP_steps mc_23 (sh_CM d) 3 (And.intro (fun c => ?_) (fun c => ?_))
          · replace H := sh_okT c H
            exact x_Coins_bestSet_b55 N hd hR k9 hk9 l1 l2 l5 v3 h4 H
          · replace H := sh_okF c H
            exact x_Coins_bestSet_b62 N hd hR k9 hk9 l1 l2 l3 l4 l5 h4 H
    · replace H := sh_okF c H
      show wq_23 d Q 68 [oR 1 0, oI l1, oI l2, oI l3, oI l4, oI l5, _] [] (sh_E h)
      exact ai_WP_steps mc_23 (sh_CM d) 2 (hR l3 h H)
def f_Coins_bestSet (N : Nat)  (l1 : Int32) (l2 : Int32) (h : sh_H) : Option (Int32 × sh_H) := f_Coins_bestSet_l9 N N l1 l2 (-2 : Int32) (0 : Int32) (1 : Int32) h
theorem x_Coins_bestSet (N : Nat) {d : Nat} (hd : 4 ≤ d) (l1 : Int32) (l2 : Int32) (h : sh_H) {Q : ai_Q} {R : Int32 × sh_H → Prop} (H : sh_ok (f_Coins_bestSet N l1 l2 h) R) (hR : ∀ r h, R (r, h) → Q (some (aI r)) (sh_E h)) : ai_Ex sh_T d 23 [aR 1 0, aI l1, aI l2] (sh_E h) Q := by
  obtain ⟨d, rfl⟩ : ∃ e, d = e + 1 := ⟨d - 1, by omega⟩
  replace hd : 3 ≤ d := by omega
  refine And.intro (Nat.le_of_ble_eq_true rfl) ?_
  show wq_23 d Q 0 [oR 1 0, oI l1, oI l2, none, none, none, none] [] (sh_E h)
  refine ai_WP_steps mc_23 (sh_CM d) 6 ?_
  exact x_Coins_bestSet_l9 N hd hR N l1 l2 (-2 : Int32) (0 : Int32) (1 : Int32) h H
def f_Formulas_clear  (l0 : Nat) (h : sh_H) : Option sh_H := (sh_let (sh_pI h 2 l0 1 (0 : Int32)) (fun h1 => (some h1)))
theorem x_Formulas_clear {d : Nat} (hd : 1 ≤ d) (l0 : Nat) (h : sh_H) {Q : ai_Q} {R : sh_H → Prop} (H : sh_ok (f_Formulas_clear l0 h) R) (hR : ∀ h, R h → Q none (sh_E h)) : ai_Ex sh_T d 34 [aR 2 l0] (sh_E h) Q := by
  obtain ⟨d, rfl⟩ : ∃ e, d = e + 1 := ⟨d - 1, by omega⟩
  replace hd : 0 ≤ d := by omega
  refine And.intro (Nat.le_of_ble_eq_true rfl) ?_
  show wq_34 d Q 0 [oR 2 l0] [] (sh_E h)
  refine ai_WP_steps mc_34 (sh_CM d) 3 (And.intro trivial ?_)
  show wq_34 d Q 5 [oR 2 l0] [] (sh_E (sh_pI h 2 l0 1 (0 : Int32)))
  replace H := sh_okL H
  generalize sh_pI h 2 l0 1 (0 : Int32) = h1 at H ⊢
  exact ai_WP_steps mc_34 (sh_CM d) 1 (hR h1 H)
def f_Formulas_size  (l0 : Nat) (h : sh_H) : Option Int32 := (some (h.1 2 l0 1))
theorem x_Formulas_size {d : Nat} (hd : 1 ≤ d) (l0 : Nat) (h : sh_H) {Q : ai_Q} {R : Int32 → Prop} (H : sh_ok (f_Formulas_size l0 h) R) (hR : ∀ r, R r → Q (some (aI r)) (sh_E h)) : ai_Ex sh_T d 35 [aR 2 l0] (sh_E h) Q := by
  obtain ⟨d, rfl⟩ : ∃ e, d = e + 1 := ⟨d - 1, by omega⟩
  replace hd : 0 ≤ d := by omega
  refine And.intro (Nat.le_of_ble_eq_true rfl) ?_
  show wq_35 d Q 0 [oR 2 l0] [] (sh_E h)
  exact ai_WP_steps mc_35 (sh_CM d) 3 (hR (h.1 2 l0 1) H)
def f_Formulas_add  (l0 : Nat) (l1 : Int32) (l2 : Int32) (h : sh_H) : Option sh_H := (if (h.1 2 l0 1) < 0 then (some h) else (if (h.1 2 l0 1) < (Int32.ofNat (sh_l13 (9 * l0 + 7))) then (if ai_in (h.1 2 l0 1) (sh_l13 (9 * l0 + 7)) then (sh_let (sh_pI h 13 (9 * l0 + 7) (h.1 2 l0 1).toNatClampNeg ((l1 <<< ((16 : Int32) &&& 31)) ||| (l2 &&& (65535 : Int32)))) (fun h1 => (sh_let (sh_pI h1 2 l0 1 ((h1.1 2 l0 1) + (1 : Int32))) (fun h2 => (some h2))))) else none) else (some h)))
theorem x_Formulas_add {d : Nat} (hd : 1 ≤ d) (l0 : Nat) (l1 : Int32) (l2 : Int32) (h : sh_H) {Q : ai_Q} {R : sh_H → Prop} (H : sh_ok (f_Formulas_add l0 l1 l2 h) R) (hR : ∀ h, R h → Q none (sh_E h)) : ai_Ex sh_T d 36 [aR 2 l0, aI l1, aI l2] (sh_E h) Q := by
  obtain ⟨d, rfl⟩ : ∃ e, d = e + 1 := ⟨d - 1, by omega⟩
  replace hd : 0 ≤ d := by omega
  refine And.intro (Nat.le_of_ble_eq_true rfl) ?_
  show wq_36 d Q 0 [oR 2 l0, oI l1, oI l2] [] (sh_E h)
  refine ai_WP_steps mc_36 (sh_CM d) 3 (And.intro (fun c => ?_) (fun c => ?_))
  · replace H := sh_okT c H
    show wq_36 d Q 47 [oR 2 l0, oI l1, oI l2] [] (sh_E h)
    exact ai_WP_steps mc_36 (sh_CM d) 1 (hR h H)
  · replace H := sh_okF c H
    show wq_36 d Q 7 [oR 2 l0, oI l1, oI l2] [] (sh_E h)
    refine ai_WP_steps mc_36 (sh_CM d) 6 (And.intro (fun c => ?_) (fun c => ?_))
    · replace H := sh_okT c H
      show wq_36 d Q 19 [oR 2 l0, oI l1, oI l2] [] (sh_E h)
      have c := sh_okG H
      replace H := sh_okH H
      refine ai_WP_steps mc_36 (sh_CM d) 12 (And.intro c ?_)
      show wq_36 d Q 37 [oR 2 l0, oI l1, oI l2] [] (sh_E (sh_pI h 13 (9 * l0 + 7) (h.1 2 l0 1).toNatClampNeg ((l1 <<< ((16 : Int32) &&& 31)) ||| (l2 &&& (65535 : Int32)))))
      replace H := sh_okL H
      generalize sh_pI h 13 (9 * l0 + 7) (h.1 2 l0 1).toNatClampNeg ((l1 <<< ((16 : Int32) &&& 31)) ||| (l2 &&& (65535 : Int32))) = h1 at H ⊢
      refine ai_WP_steps mc_36 (sh_CM d) 6 (And.intro trivial ?_)
      show wq_36 d Q 47 [oR 2 l0, oI l1, oI l2] [] (sh_E (sh_pI h1 2 l0 1 ((h1.1 2 l0 1) + (1 : Int32))))
      replace H := sh_okL H
      generalize sh_pI h1 2 l0 1 ((h1.1 2 l0 1) + (1 : Int32)) = h2 at H ⊢
      exact ai_WP_steps mc_36 (sh_CM d) 1 (hR h2 H)
    · replace H := sh_okF c H
      show wq_36 d Q 47 [oR 2 l0, oI l1, oI l2] [] (sh_E h)
      exact ai_WP_steps mc_36 (sh_CM d) 1 (hR h H)
def f_Ledger_add  (l0 : Nat) (l1 : Int32) (l2 : Int32) (l3 : Int32) (h : sh_H) : Option sh_H := (Option.bind (f_Rows_get l0 l1 l2 h) (fun v1 => (Option.bind (f_Rows_put l0 l1 l2 (v1 + l3) h) (fun h2 => (some h2)))))
theorem x_Ledger_add {d : Nat} (hd : 3 ≤ d) (l0 : Nat) (l1 : Int32) (l2 : Int32) (l3 : Int32) (h : sh_H) {Q : ai_Q} {R : sh_H → Prop} (H : sh_ok (f_Ledger_add l0 l1 l2 l3 h) R) (hR : ∀ h, R h → Q none (sh_E h)) : ai_Ex sh_T d 44 [aR 6 l0, aI l1, aI l2, aI l3] (sh_E h) Q := by
  obtain ⟨d, rfl⟩ : ∃ e, d = e + 1 := ⟨d - 1, by omega⟩
  replace hd : 2 ≤ d := by omega
  refine And.intro (Nat.le_of_ble_eq_true rfl) ?_
  show wq_44 d Q 0 [oR 6 l0, oI l1, oI l2, oI l3] [] (sh_E h)
  refine ai_WP_steps mc_44 (sh_CM d) 7 (And.intro (Nat.le_of_ble_eq_true rfl) (x_Rows_get (Nat.le_trans (Nat.le_of_ble_eq_true rfl) hd) l0 l1 l2 h (sh_okB H) (fun v1 H => ?_)))
  show wq_44 d Q 9 [oR 6 l0, oI l1, oI l2, oI l3] [aI v1, aI l2, aI l1, aR 6 l0] (sh_E h)
  refine ai_WP_steps mc_44 (sh_CM d) 3 (And.intro (Nat.le_of_ble_eq_true rfl) (x_Rows_put (Nat.le_trans (Nat.le_of_ble_eq_true rfl) hd) l0 l1 l2 (v1 + l3) h (sh_okB H) (fun h2 H => ?_)))
  show wq_44 d Q 14 [oR 6 l0, oI l1, oI l2, oI l3] [] (sh_E h2)
  exact ai_WP_steps mc_44 (sh_CM d) 1 (hR h2 H)
def f_Ledger_enter  (l1 : Nat) (l2 : Int32) (h : sh_H) : Option sh_H := (Option.bind (f_Rows_get l1 l2 (3 : Int32) h) (fun v1 => (Option.bind (f_Rows_get l1 l2 (0 : Int32) h) (fun v2 => (Option.bind (f_Rows_get l1 l2 (2 : Int32) h) (fun v3 => (if v3 = (0 : Int32) then (Option.bind (f_Rows_get l1 l2 (1 : Int32) h) (fun v4 => (Option.bind (f_Ledger_add 29 v2 v4 v1 h) (fun h5 => (some h5))))) else (if v3 = (1 : Int32) then (Option.bind (f_Rows_get l1 l2 (1 : Int32) h) (fun v6 => (Option.bind (f_Ledger_add 30 v2 v6 v1 h) (fun h7 => (some h7))))) else (if v3 = (2 : Int32) then (Option.bind (f_Ledger_add 31 v2 (0 : Int32) v1 h) (fun h8 => (Option.bind (f_Rows_get l1 l2 (4 : Int32) h8) (fun v9 => (Option.bind (f_Ledger_add 31 v2 (1 : Int32) v9 h8) (fun h10 => (sh_let (sh_pI h10 3 0 4 ((h10.1 3 0 4) + v1)) (fun h11 => (Option.bind (f_Rows_get l1 l2 (4 : Int32) h11) (fun v12 => (sh_let (sh_pI h11 3 0 5 ((h11.1 3 0 5) + v12)) (fun h13 => (some h13))))))))))))) else (some h))))))))))
theorem x_Ledger_enter {d : Nat} (hd : 4 ≤ d) (l1 : Nat) (l2 : Int32) (h : sh_H) {Q : ai_Q} {R : sh_H → Prop} (H : sh_ok (f_Ledger_enter l1 l2 h) R) (hR : ∀ h, R h → Q none (sh_E h)) : ai_Ex sh_T d 43 [aR 3 0, aR 6 l1, aI l2] (sh_E h) Q := by
  obtain ⟨d, rfl⟩ : ∃ e, d = e + 1 := ⟨d - 1, by omega⟩
  replace hd : 3 ≤ d := by omega
  refine And.intro (Nat.le_of_ble_eq_true rfl) ?_
  show wq_43 d Q 0 [oR 3 0, oR 6 l1, oI l2, none, none] [] (sh_E h)
  refine ai_WP_steps mc_43 (sh_CM d) 4 (And.intro (Nat.le_of_ble_eq_true rfl) (x_Rows_get (Nat.le_trans (Nat.le_of_ble_eq_true rfl) hd) l1 l2 (3 : Int32) h (sh_okB H) (fun v1 H => ?_)))
  show wq_43 d Q 6 [oR 3 0, oR 6 l1, oI l2, _, _] [aI v1] (sh_E h)
  refine ai_WP_steps mc_43 (sh_CM d) 5 (And.intro (Nat.le_of_ble_eq_true rfl) (x_Rows_get (Nat.le_trans (Nat.le_of_ble_eq_true rfl) hd) l1 l2 (0 : Int32) h (sh_okB H) (fun v2 H => ?_)))
  show wq_43 d Q 13 [oR 3 0, oR 6 l1, oI l2, oI v1, _] [aI v2] (sh_E h)
  refine ai_WP_steps mc_43 (sh_CM d) 5 (And.intro (Nat.le_of_ble_eq_true rfl) (x_Rows_get (Nat.le_trans (Nat.le_of_ble_eq_true rfl) hd) l1 l2 (2 : Int32) h (sh_okB H) (fun v3 H => ?_)))
  show wq_43 d Q 21 [oR 3 0, oR 6 l1, oI l2, oI v1, oI v2] [aI v3] (sh_E h)
  refine ai_WP_steps mc_43 (sh_CM d) 1 (And.intro (fun c => ?_) (fun c => ?_))
  · replace H := sh_okT c H
    show wq_43 d Q 48 [oR 3 0, oR 6 l1, oI l2, oI v1, oI v2] [] (sh_E h)
    refine ai_WP_steps mc_43 (sh_CM d) 7 (And.intro (Nat.le_of_ble_eq_true rfl) (x_Rows_get (Nat.le_trans (Nat.le_of_ble_eq_true rfl) hd) l1 l2 (1 : Int32) h (sh_okB H) (fun v4 H => ?_)))
    show wq_43 d Q 60 [oR 3 0, oR 6 l1, oI l2, oI v1, oI v2] [aI v4, aI v2, aR 6 29] (sh_E h)
    refine ai_WP_steps mc_43 (sh_CM d) 2 (And.intro (Nat.le_of_ble_eq_true rfl) (x_Ledger_add (Nat.le_trans (Nat.le_of_ble_eq_true rfl) hd) 29 v2 v4 v1 h (sh_okB H) (fun h5 H => ?_)))
    show wq_43 d Q 64 [oR 3 0, oR 6 l1, oI l2, oI v1, oI v2] [] (sh_E h5)
    exact ai_WP_steps mc_43 (sh_CM d) 2 (hR h5 H)
  replace H := sh_okF c H
  refine And.intro (fun c => ?_) (fun c => ?_)
  · replace H := sh_okT c H
    show wq_43 d Q 67 [oR 3 0, oR 6 l1, oI l2, oI v1, oI v2] [] (sh_E h)
    refine ai_WP_steps mc_43 (sh_CM d) 7 (And.intro (Nat.le_of_ble_eq_true rfl) (x_Rows_get (Nat.le_trans (Nat.le_of_ble_eq_true rfl) hd) l1 l2 (1 : Int32) h (sh_okB H) (fun v6 H => ?_)))
    show wq_43 d Q 79 [oR 3 0, oR 6 l1, oI l2, oI v1, oI v2] [aI v6, aI v2, aR 6 30] (sh_E h)
    refine ai_WP_steps mc_43 (sh_CM d) 2 (And.intro (Nat.le_of_ble_eq_true rfl) (x_Ledger_add (Nat.le_trans (Nat.le_of_ble_eq_true rfl) hd) 30 v2 v6 v1 h (sh_okB H) (fun h7 H => ?_)))
    show wq_43 d Q 83 [oR 3 0, oR 6 l1, oI l2, oI v1, oI v2] [] (sh_E h7)
    exact ai_WP_steps mc_43 (sh_CM d) 2 (hR h7 H)
  replace H := sh_okF c H
  refine And.intro (fun c => ?_) (fun c => ?_)
  · replace H := sh_okT c H
    show wq_43 d Q 86 [oR 3 0, oR 6 l1, oI l2, oI v1, oI v2] [] (sh_E h)
    refine ai_WP_steps mc_43 (sh_CM d) 6 (And.intro (Nat.le_of_ble_eq_true rfl) (x_Ledger_add (Nat.le_trans (Nat.le_of_ble_eq_true rfl) hd) 31 v2 (0 : Int32) v1 h (sh_okB H) (fun h8 H => ?_)))
    show wq_43 d Q 97 [oR 3 0, oR 6 l1, oI l2, oI v1, oI v2] [] (sh_E h8)
    refine ai_WP_steps mc_43 (sh_CM d) 8 (And.intro (Nat.le_of_ble_eq_true rfl) (x_Rows_get (Nat.le_trans (Nat.le_of_ble_eq_true rfl) hd) l1 l2 (4 : Int32) h8 (sh_okB H) (fun v9 H => ?_)))
    show wq_43 d Q 110 [oR 3 0, oR 6 l1, oI l2, oI v1, oI v2] [aI v9, aI (1 : Int32), aI v2, aR 6 31] (sh_E h8)
    refine ai_WP_steps mc_43 (sh_CM d) 1 (And.intro (Nat.le_of_ble_eq_true rfl) (x_Ledger_add (Nat.le_trans (Nat.le_of_ble_eq_true rfl) hd) 31 v2 (1 : Int32) v9 h8 (sh_okB H) (fun h10 H => ?_)))
    show wq_43 d Q 113 [oR 3 0, oR 6 l1, oI l2, oI v1, oI v2] [] (sh_E h10)
    refine ai_WP_steps mc_43 (sh_CM d) 6 (And.intro trivial ?_)
    show wq_43 d Q 123 [oR 3 0, oR 6 l1, oI l2, oI v1, oI v2] [] (sh_E (sh_pI h10 3 0 4 ((h10.1 3 0 4) + v1)))
    replace H := sh_okL H
    generalize sh_pI h10 3 0 4 ((h10.1 3 0 4) + v1) = h11 at H ⊢
    refine ai_WP_steps mc_43 (sh_CM d) 7 (And.intro (Nat.le_of_ble_eq_true rfl) (x_Rows_get (Nat.le_trans (Nat.le_of_ble_eq_true rfl) hd) l1 l2 (4 : Int32) h11 (sh_okB H) (fun v12 H => ?_)))
    show wq_43 d Q 134 [oR 3 0, oR 6 l1, oI l2, oI v1, oI v2] [aI v12, aI (h11.1 3 0 5), aR 3 0] (sh_E h11)
    refine ai_WP_steps mc_43 (sh_CM d) 2 (And.intro trivial ?_)
    show wq_43 d Q 138 [oR 3 0, oR 6 l1, oI l2, oI v1, oI v2] [] (sh_E (sh_pI h11 3 0 5 ((h11.1 3 0 5) + v12)))
    replace H := sh_okL H
    generalize sh_pI h11 3 0 5 ((h11.1 3 0 5) + v12) = h13 at H ⊢
    exact ai_WP_steps mc_43 (sh_CM d) 2 (hR h13 H)
  replace H := sh_okF c H
  show wq_43 d Q 141 [oR 3 0, oR 6 l1, oI l2, oI v1, oI v2] [] (sh_E h)
  exact ai_WP_steps mc_43 (sh_CM d) 1 (hR h H)
def f_Ledger_know_b78 (N : Nat)  (k40 : Nat → Int32 → Int32 → sh_H → Option sh_H) (l1 : Nat) (l2 : Int32) (l3 : Int32) (h : sh_H) : Option sh_H := k40 l1 l2 (l3 + (1 : Int32)) h
theorem x_Ledger_know_b78 (N : Nat) {d : Nat} (hd : 4 ≤ d) {Q : ai_Q} {R : sh_H → Prop} (hR : ∀ h, R h → Q none (sh_E h))  (k40 : Nat → Int32 → Int32 → sh_H → Option sh_H) (hk40 : ∀ (l1 : Nat) (l2 : Int32) (l3 : Int32) (h : sh_H), sh_ok (k40 l1 l2 l3 h) R → wq_42 d Q 40 [oR 3 0, oR 6 l1, oI l2, oI l3] [] (sh_E h)) (l1 : Nat) (l2 : Int32) (l3 : Int32) (h : sh_H) (H : sh_ok (f_Ledger_know_b78 N k40 l1 l2 l3 h) R) : wq_42 d Q 78 [oR 3 0, oR 6 l1, oI l2, oI l3] [] (sh_E h) := by
  refine ai_WP_steps mc_42 (sh_CM d) 2 ?_
  exact hk40 l1 l2 (l3 + (1 : Int32)) h H
def f_Ledger_know_c40 (N : Nat)  (k84 : Nat → Int32 → sh_H → Option sh_H) (k40 : Nat → Int32 → Int32 → sh_H → Option sh_H) (l1 : Nat) (l2 : Int32) (l3 : Int32) (h : sh_H) : Option sh_H := (if l3 < l2 then (Option.bind (f_Rows_size l1 h) (fun v1 => (if l3 < v1 then (Option.bind (f_Rows_get l1 l3 (2 : Int32) h) (fun v2 => (if v2 = (3 : Int32) then (Option.bind (f_Rows_get l1 l3 (3 : Int32) h) (fun v3 => (Option.bind (f_Rows_put 32 v3 (0 : Int32) (1 : Int32) h) (fun h4 => f_Ledger_know_b78 N k40 l1 l2 l3 h4)))) else f_Ledger_know_b78 N k40 l1 l2 l3 h))) else k84 l1 l2 h))) else k84 l1 l2 h)
def f_Ledger_know_l40 (N : Nat)  (k84 : Nat → Int32 → sh_H → Option sh_H) (n : Nat) : Nat → Int32 → Int32 → sh_H → Option sh_H := Nat.rec (motive := fun _ => Nat → Int32 → Int32 → sh_H → Option sh_H) (fun _ _ _ _ => none) (fun _ k40 => f_Ledger_know_c40 N k84 k40) n
theorem x_Ledger_know_l40 (N : Nat) {d : Nat} (hd : 4 ≤ d) {Q : ai_Q} {R : sh_H → Prop} (hR : ∀ h, R h → Q none (sh_E h))  (k84 : Nat → Int32 → sh_H → Option sh_H) (hk84 : ∀ (l1 : Nat) (l2 : Int32) {d3 : Option ai_V} (h : sh_H), sh_ok (k84 l1 l2 h) R → wq_42 d Q 84 [oR 3 0, oR 6 l1, oI l2, d3] [] (sh_E h)) (n : Nat) : ∀ (l1 : Nat) (l2 : Int32) (l3 : Int32) (h : sh_H), sh_ok (f_Ledger_know_l40 N k84 n l1 l2 l3 h) R → wq_42 d Q 40 [oR 3 0, oR 6 l1, oI l2, oI l3] [] (sh_E h) := by
  induction n with
  | zero => intro l1 l2 l3 h H; exact H.elim
  | succ n ih =>
    intro l1 l2 l3 h H
    have hk40 := @ih
    replace H : sh_ok (f_Ledger_know_c40 N k84 (f_Ledger_know_l40 N k84 n) l1 l2 l3 h) R := H
    revert hk40 H
    generalize f_Ledger_know_l40 N k84 n = k40
    intro hk40 H
    refine ai_WP_steps mc_42 (sh_CM d) 3 (And.intro (fun c => ?_) (fun c => ?_))
    · replace H := sh_okT c H
      show wq_42 d Q 45 [oR 3 0, oR 6 l1, oI l2, oI l3] [] (sh_E h)
      refine ai_WP_steps mc_42 (sh_CM d) 3 (And.intro (Nat.le_of_ble_eq_true rfl) (x_Rows_size (Nat.le_trans (Nat.le_of_ble_eq_true rfl) hd) l1 h (sh_okB H) (fun v1 H => ?_)))
      show wq_42 d Q 50 [oR 3 0, oR 6 l1, oI l2, oI l3] [aI v1, aI l3] (sh_E h)
      refine ai_WP_steps mc_42 (sh_CM d) 1 (And.intro (fun c => ?_) (fun c => ?_))
      · replace H := sh_okT c H
        show wq_42 d Q 53 [oR 3 0, oR 6 l1, oI l2, oI l3] [] (sh_E h)
        refine ai_WP_steps mc_42 (sh_CM d) 4 (And.intro (Nat.le_of_ble_eq_true rfl) (x_Rows_get (Nat.le_trans (Nat.le_of_ble_eq_true rfl) hd) l1 l3 (2 : Int32) h (sh_okB H) (fun v2 H => ?_)))
        show wq_42 d Q 59 [oR 3 0, oR 6 l1, oI l2, oI l3] [aI v2] (sh_E h)
        refine ai_WP_steps mc_42 (sh_CM d) 2 (And.intro (fun c => ?_) (fun c => ?_))
        · replace H := sh_okT c H
          show wq_42 d Q 63 [oR 3 0, oR 6 l1, oI l2, oI l3] [] (sh_E h)
          refine ai_WP_steps mc_42 (sh_CM d) 6 (And.intro (Nat.le_of_ble_eq_true rfl) (x_Rows_get (Nat.le_trans (Nat.le_of_ble_eq_true rfl) hd) l1 l3 (3 : Int32) h (sh_okB H) (fun v3 H => ?_)))
          show wq_42 d Q 73 [oR 3 0, oR 6 l1, oI l2, oI l3] [aI v3, aR 6 32] (sh_E h)
          refine ai_WP_steps mc_42 (sh_CM d) 3 (And.intro (Nat.le_of_ble_eq_true rfl) (x_Rows_put (Nat.le_trans (Nat.le_of_ble_eq_true rfl) hd) 32 v3 (0 : Int32) (1 : Int32) h (sh_okB H) (fun h4 H => ?_)))
          show wq_42 d Q 78 [oR 3 0, oR 6 l1, oI l2, oI l3] [] (sh_E h4)
          exact x_Ledger_know_b78 N hd hR k40 hk40 l1 l2 l3 h4 H
        · replace H := sh_okF c H
          exact x_Ledger_know_b78 N hd hR k40 hk40 l1 l2 l3 h H
      · replace H := sh_okF c H
        exact hk84 l1 l2 h H
    · replace H := sh_okF c H
      exact hk84 l1 l2 h H
def f_Ledger_know_b117 (N : Nat)  (k86 : Nat → Int32 → Int32 → sh_H → Option sh_H) (l1 : Nat) (l2 : Int32) (l3 : Int32) (h : sh_H) : Option sh_H := k86 l1 l2 (l3 + (1 : Int32)) h
theorem x_Ledger_know_b117 (N : Nat) {d : Nat} (hd : 4 ≤ d) {Q : ai_Q} {R : sh_H → Prop} (hR : ∀ h, R h → Q none (sh_E h))  (k86 : Nat → Int32 → Int32 → sh_H → Option sh_H) (hk86 : ∀ (l1 : Nat) (l2 : Int32) (l3 : Int32) (h : sh_H), sh_ok (k86 l1 l2 l3 h) R → wq_42 d Q 86 [oR 3 0, oR 6 l1, oI l2, oI l3] [] (sh_E h)) (l1 : Nat) (l2 : Int32) (l3 : Int32) (h : sh_H) (H : sh_ok (f_Ledger_know_b117 N k86 l1 l2 l3 h) R) : wq_42 d Q 117 [oR 3 0, oR 6 l1, oI l2, oI l3] [] (sh_E h) := by
  refine ai_WP_steps mc_42 (sh_CM d) 2 ?_
  exact hk86 l1 l2 (l3 + (1 : Int32)) h H
def f_Ledger_know_c86 (N : Nat)   (k86 : Nat → Int32 → Int32 → sh_H → Option sh_H) (l1 : Nat) (l2 : Int32) (l3 : Int32) (h : sh_H) : Option sh_H := (if l3 < l2 then (Option.bind (f_Rows_size l1 h) (fun v5 => (if l3 < v5 then (Option.bind (f_Rows_get 32 l3 (0 : Int32) h) (fun v6 => (if v6 = 0 then (Option.bind (f_Ledger_enter l1 l3 h) (fun h7 => f_Ledger_know_b117 N k86 l1 l2 l3 h7)) else f_Ledger_know_b117 N k86 l1 l2 l3 h))) else (some h)))) else (some h))
def f_Ledger_know_l86 (N : Nat)   (n : Nat) : Nat → Int32 → Int32 → sh_H → Option sh_H := Nat.rec (motive := fun _ => Nat → Int32 → Int32 → sh_H → Option sh_H) (fun _ _ _ _ => none) (fun _ k86 => f_Ledger_know_c86 N k86) n
theorem x_Ledger_know_l86 (N : Nat) {d : Nat} (hd : 4 ≤ d) {Q : ai_Q} {R : sh_H → Prop} (hR : ∀ h, R h → Q none (sh_E h))   (n : Nat) : ∀ (l1 : Nat) (l2 : Int32) (l3 : Int32) (h : sh_H), sh_ok (f_Ledger_know_l86 N n l1 l2 l3 h) R → wq_42 d Q 86 [oR 3 0, oR 6 l1, oI l2, oI l3] [] (sh_E h) := by
  induction n with
  | zero => intro l1 l2 l3 h H; exact H.elim
  | succ n ih =>
    intro l1 l2 l3 h H
    have hk86 := @ih
    replace H : sh_ok (f_Ledger_know_c86 N (f_Ledger_know_l86 N n) l1 l2 l3 h) R := H
    revert hk86 H
    generalize f_Ledger_know_l86 N n = k86
    intro hk86 H
    refine ai_WP_steps mc_42 (sh_CM d) 3 (And.intro (fun c => ?_) (fun c => ?_))
    · replace H := sh_okT c H
      show wq_42 d Q 91 [oR 3 0, oR 6 l1, oI l2, oI l3] [] (sh_E h)
      refine ai_WP_steps mc_42 (sh_CM d) 3 (And.intro (Nat.le_of_ble_eq_true rfl) (x_Rows_size (Nat.le_trans (Nat.le_of_ble_eq_true rfl) hd) l1 h (sh_okB H) (fun v5 H => ?_)))
      show wq_42 d Q 96 [oR 3 0, oR 6 l1, oI l2, oI l3] [aI v5, aI l3] (sh_E h)
      refine ai_WP_steps mc_42 (sh_CM d) 1 (And.intro (fun c => ?_) (fun c => ?_))
      · replace H := sh_okT c H
        show wq_42 d Q 99 [oR 3 0, oR 6 l1, oI l2, oI l3] [] (sh_E h)
        refine ai_WP_steps mc_42 (sh_CM d) 5 (And.intro (Nat.le_of_ble_eq_true rfl) (x_Rows_get (Nat.le_trans (Nat.le_of_ble_eq_true rfl) hd) 32 l3 (0 : Int32) h (sh_okB H) (fun v6 H => ?_)))
        show wq_42 d Q 108 [oR 3 0, oR 6 l1, oI l2, oI l3] [aI v6] (sh_E h)
        refine ai_WP_steps mc_42 (sh_CM d) 1 (And.intro (fun c => ?_) (fun c => ?_))
        · replace H := sh_okT c H
          show wq_42 d Q 111 [oR 3 0, oR 6 l1, oI l2, oI l3] [] (sh_E h)
          refine ai_WP_steps mc_42 (sh_CM d) 4 (And.intro (Nat.le_of_ble_eq_true rfl) (x_Ledger_enter (Nat.le_trans (Nat.le_of_ble_eq_true rfl) hd) l1 l3 h (sh_okB H) (fun h7 H => ?_)))
          show wq_42 d Q 117 [oR 3 0, oR 6 l1, oI l2, oI l3] [] (sh_E h7)
          exact x_Ledger_know_b117 N hd hR k86 hk86 l1 l2 l3 h7 H
        · replace H := sh_okF c H
          exact x_Ledger_know_b117 N hd hR k86 hk86 l1 l2 l3 h H
      · replace H := sh_okF c H
        show wq_42 d Q 123 [oR 3 0, oR 6 l1, oI l2, oI l3] [] (sh_E h)
        exact ai_WP_steps mc_42 (sh_CM d) 1 (hR h H)
    · replace H := sh_okF c H
      show wq_42 d Q 123 [oR 3 0, oR 6 l1, oI l2, oI l3] [] (sh_E h)
      exact ai_WP_steps mc_42 (sh_CM d) 1 (hR h H)
def f_Ledger_know_b84 (N : Nat)   (l1 : Nat) (l2 : Int32) (h : sh_H) : Option sh_H := f_Ledger_know_l86 N N l1 l2 (0 : Int32) h
theorem x_Ledger_know_b84 (N : Nat) {d : Nat} (hd : 4 ≤ d) {Q : ai_Q} {R : sh_H → Prop} (hR : ∀ h, R h → Q none (sh_E h))   (l1 : Nat) (l2 : Int32) {d3 : Option ai_V} (h : sh_H) (H : sh_ok (f_Ledger_know_b84 N l1 l2 h) R) : wq_42 d Q 84 [oR 3 0, oR 6 l1, oI l2, d3] [] (sh_E h) := by
  refine ai_WP_steps mc_42 (sh_CM d) 2 ?_
  exact x_Ledger_know_l86 N hd hR N l1 l2 (0 : Int32) h H
def f_Ledger_know (N : Nat)  (l1 : Nat) (l2 : Int32) (h : sh_H) : Option sh_H := (Option.bind (f_Rows_zero N 29 h) (fun h8 => (Option.bind (f_Rows_zero N 30 h8) (fun h9 => (Option.bind (f_Rows_zero N 31 h9) (fun h10 => (Option.bind (f_Rows_zero N 32 h10) (fun h11 => (sh_let (sh_pI h11 3 0 4 (0 : Int32)) (fun h12 => (sh_let (sh_pI h12 3 0 5 (0 : Int32)) (fun h13 => f_Ledger_know_l40 N (f_Ledger_know_b84 N) N l1 l2 (0 : Int32) h13))))))))))))
theorem x_Ledger_know (N : Nat) {d : Nat} (hd : 5 ≤ d) (l1 : Nat) (l2 : Int32) (h : sh_H) {Q : ai_Q} {R : sh_H → Prop} (H : sh_ok (f_Ledger_know N l1 l2 h) R) (hR : ∀ h, R h → Q none (sh_E h)) : ai_Ex sh_T d 42 [aR 3 0, aR 6 l1, aI l2] (sh_E h) Q := by
  obtain ⟨d, rfl⟩ : ∃ e, d = e + 1 := ⟨d - 1, by omega⟩
  replace hd : 4 ≤ d := by omega
  refine And.intro (Nat.le_of_ble_eq_true rfl) ?_
  show wq_42 d Q 0 [oR 3 0, oR 6 l1, oI l2, none] [] (sh_E h)
  refine ai_WP_steps mc_42 (sh_CM d) 3 (And.intro (Nat.le_of_ble_eq_true rfl) (x_Rows_zero N (Nat.le_trans (Nat.le_of_ble_eq_true rfl) hd) 29 h (sh_okB H) (fun h8 H => ?_)))
  show wq_42 d Q 7 [oR 3 0, oR 6 l1, oI l2, _] [] (sh_E h8)
  refine ai_WP_steps mc_42 (sh_CM d) 3 (And.intro (Nat.le_of_ble_eq_true rfl) (x_Rows_zero N (Nat.le_trans (Nat.le_of_ble_eq_true rfl) hd) 30 h8 (sh_okB H) (fun h9 H => ?_)))
  show wq_42 d Q 14 [oR 3 0, oR 6 l1, oI l2, _] [] (sh_E h9)
  refine ai_WP_steps mc_42 (sh_CM d) 3 (And.intro (Nat.le_of_ble_eq_true rfl) (x_Rows_zero N (Nat.le_trans (Nat.le_of_ble_eq_true rfl) hd) 31 h9 (sh_okB H) (fun h10 H => ?_)))
  show wq_42 d Q 21 [oR 3 0, oR 6 l1, oI l2, _] [] (sh_E h10)
  refine ai_WP_steps mc_42 (sh_CM d) 3 (And.intro (Nat.le_of_ble_eq_true rfl) (x_Rows_zero N (Nat.le_trans (Nat.le_of_ble_eq_true rfl) hd) 32 h10 (sh_okB H) (fun h11 H => ?_)))
  show wq_42 d Q 28 [oR 3 0, oR 6 l1, oI l2, _] [] (sh_E h11)
  refine ai_WP_steps mc_42 (sh_CM d) 3 (And.intro trivial ?_)
  show wq_42 d Q 33 [oR 3 0, oR 6 l1, oI l2, _] [] (sh_E (sh_pI h11 3 0 4 (0 : Int32)))
  replace H := sh_okL H
  generalize sh_pI h11 3 0 4 (0 : Int32) = h12 at H ⊢
  refine ai_WP_steps mc_42 (sh_CM d) 3 (And.intro trivial ?_)
  show wq_42 d Q 38 [oR 3 0, oR 6 l1, oI l2, _] [] (sh_E (sh_pI h12 3 0 5 (0 : Int32)))
  replace H := sh_okL H
  generalize sh_pI h12 3 0 5 (0 : Int32) = h13 at H ⊢
  refine ai_WP_steps mc_42 (sh_CM d) 2 ?_
  exact x_Ledger_know_l40 N hd hR (f_Ledger_know_b84 N) (fun z0 z1 {e3} h H => x_Ledger_know_b84 N hd hR z0 z1 h H) N l1 l2 (0 : Int32) h13 H
def f_Ledger_went  (l1 : Int32) (l2 : Int32) (h : sh_H) : Option Int32 := (Option.bind (f_Rows_get 29 l1 l2 h) (fun v1 => (some v1)))
theorem x_Ledger_went {d : Nat} (hd : 3 ≤ d) (l1 : Int32) (l2 : Int32) (h : sh_H) {Q : ai_Q} {R : Int32 → Prop} (H : sh_ok (f_Ledger_went l1 l2 h) R) (hR : ∀ r, R r → Q (some (aI r)) (sh_E h)) : ai_Ex sh_T d 45 [aR 3 0, aI l1, aI l2] (sh_E h) Q := by
  obtain ⟨d, rfl⟩ : ∃ e, d = e + 1 := ⟨d - 1, by omega⟩
  replace hd : 2 ≤ d := by omega
  refine And.intro (Nat.le_of_ble_eq_true rfl) ?_
  show wq_45 d Q 0 [oR 3 0, oI l1, oI l2] [] (sh_E h)
  refine ai_WP_steps mc_45 (sh_CM d) 5 (And.intro (Nat.le_of_ble_eq_true rfl) (x_Rows_get (Nat.le_trans (Nat.le_of_ble_eq_true rfl) hd) 29 l1 l2 h (sh_okB H) (fun v1 H => ?_)))
  show wq_45 d Q 9 [oR 3 0, oI l1, oI l2] [aI v1] (sh_E h)
  exact ai_WP_steps mc_45 (sh_CM d) 1 (hR v1 H)
def f_Ledger_came  (l1 : Int32) (l2 : Int32) (h : sh_H) : Option Int32 := (Option.bind (f_Rows_get 30 l1 l2 h) (fun v1 => (some v1)))
theorem x_Ledger_came {d : Nat} (hd : 3 ≤ d) (l1 : Int32) (l2 : Int32) (h : sh_H) {Q : ai_Q} {R : Int32 → Prop} (H : sh_ok (f_Ledger_came l1 l2 h) R) (hR : ∀ r, R r → Q (some (aI r)) (sh_E h)) : ai_Ex sh_T d 46 [aR 3 0, aI l1, aI l2] (sh_E h) Q := by
  obtain ⟨d, rfl⟩ : ∃ e, d = e + 1 := ⟨d - 1, by omega⟩
  replace hd : 2 ≤ d := by omega
  refine And.intro (Nat.le_of_ble_eq_true rfl) ?_
  show wq_46 d Q 0 [oR 3 0, oI l1, oI l2] [] (sh_E h)
  refine ai_WP_steps mc_46 (sh_CM d) 5 (And.intro (Nat.le_of_ble_eq_true rfl) (x_Rows_get (Nat.le_trans (Nat.le_of_ble_eq_true rfl) hd) 30 l1 l2 h (sh_okB H) (fun v1 H => ?_)))
  show wq_46 d Q 9 [oR 3 0, oI l1, oI l2] [aI v1] (sh_E h)
  exact ai_WP_steps mc_46 (sh_CM d) 1 (hR v1 H)
def f_Ledger_gainer_c26 (N : Nat)  (k83 : Nat → Int32 → Int64 → Int32 → Int64 → sh_H → Option Int32) (k26 : Nat → Int32 → Int64 → Int32 → Int64 → Int32 → sh_H → Option Int32) (l1 : Nat) (l2 : Int32) (l3 : Int64) (l5 : Int32) (l6 : Int64) (l8 : Int32) (h : sh_H) : Option Int32 := (Option.bind (f_Rows_size (7 * l1 + 0) h) (fun v1 => (if l8 < v1 then (Option.bind (f_Ledger_came l5 l8 h) (fun v2 => (Option.bind (f_Ledger_went l5 l8 h) (fun v3 => (Option.bind (f_Rows_get (7 * l1 + 0) l8 (0 : Int32) h) (fun v4 => k26 l1 l2 l3 l5 (l6 + ((v2 - v3).toInt64 * v4.toInt64)) (l8 + (1 : Int32)) h)))))) else k83 l1 l2 l3 l5 l6 h)))
def f_Ledger_gainer_l26 (N : Nat)  (k83 : Nat → Int32 → Int64 → Int32 → Int64 → sh_H → Option Int32) (n : Nat) : Nat → Int32 → Int64 → Int32 → Int64 → Int32 → sh_H → Option Int32 := Nat.rec (motive := fun _ => Nat → Int32 → Int64 → Int32 → Int64 → Int32 → sh_H → Option Int32) (fun _ _ _ _ _ _ _ => none) (fun _ k26 => f_Ledger_gainer_c26 N k83 k26) n
theorem x_Ledger_gainer_l26 (N : Nat) {d : Nat} (hd : 3 ≤ d) (h : sh_H) {Q : ai_Q} {R : Int32 → Prop} (hR : ∀ r, R r → Q (some (aI r)) (sh_E h))  (k83 : Nat → Int32 → Int64 → Int32 → Int64 → sh_H → Option Int32) (hk83 : ∀ (l1 : Nat) (l2 : Int32) (l3 : Int64) (l5 : Int32) (l6 : Int64) {d4 d7 d8 d9 d10 : Option ai_V}, sh_ok (k83 l1 l2 l3 l5 l6 h) R → wq_47 d Q 83 [oR 3 0, oR 9 l1, oI l2, oL l3, d4, oI l5, oL l6, d7, d8, d9, d10] [] (sh_E h)) (n : Nat) : ∀ (l1 : Nat) (l2 : Int32) (l3 : Int64) (l5 : Int32) (l6 : Int64) (l8 : Int32) {d4 d7 d9 d10 : Option ai_V}, sh_ok (f_Ledger_gainer_l26 N k83 n l1 l2 l3 l5 l6 l8 h) R → wq_47 d Q 26 [oR 3 0, oR 9 l1, oI l2, oL l3, d4, oI l5, oL l6, d7, oI l8, d9, d10] [] (sh_E h) := by
  induction n with
  | zero => intro l1 l2 l3 l5 l6 l8 d4 d7 d9 d10 H; exact H.elim
  | succ n ih =>
    intro l1 l2 l3 l5 l6 l8 d4 d7 d9 d10 H
    have hk26 := @ih
    replace H : sh_ok (f_Ledger_gainer_c26 N k83 (f_Ledger_gainer_l26 N k83 n) l1 l2 l3 l5 l6 l8 h) R := H
    revert hk26 H
    generalize f_Ledger_gainer_l26 N k83 n = k26
    intro hk26 H
    refine ai_WP_steps mc_47 (sh_CM d) 4 (And.intro (Nat.le_of_ble_eq_true rfl) (x_Rows_size (Nat.le_trans (Nat.le_of_ble_eq_true rfl) hd) (7 * l1 + 0) h (sh_okB H) (fun v1 H => ?_)))
    show wq_47 d Q 35 [oR 3 0, oR 9 l1, oI l2, oL l3, _, oI l5, oL l6, _, oI l8, _, _] [aI v1, aI l8] (sh_E h)
    refine ai_WP_steps mc_47 (sh_CM d) 1 (And.intro (fun c => ?_) (fun c => ?_))
    · replace H := sh_okT c H
      show wq_47 d Q 38 [oR 3 0, oR 9 l1, oI l2, oL l3, _, oI l5, oL l6, _, oI l8, _, _] [] (sh_E h)
      refine ai_WP_steps mc_47 (sh_CM d) 4 (And.intro (Nat.le_of_ble_eq_true rfl) (x_Ledger_came (Nat.le_trans (Nat.le_of_ble_eq_true rfl) hd) l5 l8 h (sh_okB H) (fun v2 H => ?_)))
      show wq_47 d Q 46 [oR 3 0, oR 9 l1, oI l2, oL l3, _, oI l5, oL l6, _, oI l8, _, _] [aI v2] (sh_E h)
      refine ai_WP_steps mc_47 (sh_CM d) 4 (And.intro (Nat.le_of_ble_eq_true rfl) (x_Ledger_went (Nat.le_trans (Nat.le_of_ble_eq_true rfl) hd) l5 l8 h (sh_okB H) (fun v3 H => ?_)))
      show wq_47 d Q 54 [oR 3 0, oR 9 l1, oI l2, oL l3, _, oI l5, oL l6, _, oI l8, _, _] [aI v3, aI v2] (sh_E h)
      refine ai_WP_steps mc_47 (sh_CM d) 10 (And.intro (Nat.le_of_ble_eq_true rfl) (x_Rows_get (Nat.le_trans (Nat.le_of_ble_eq_true rfl) hd) (7 * l1 + 0) l8 (0 : Int32) h (sh_okB H) (fun v4 H => ?_)))
      show wq_47 d Q 72 [oR 3 0, oR 9 l1, oI l2, oL l3, _, oI l5, oL l6, _, oI l8, oL (v2 - v3).toInt64, _] [aI v4, aL (v2 - v3).toInt64, aL l6] (sh_E h)
      refine ai_WP_steps mc_47 (sh_CM d) 6 ?_
      exact hk26 l1 l2 l3 l5 (l6 + ((v2 - v3).toInt64 * v4.toInt64)) (l8 + (1 : Int32)) H
    · replace H := sh_okF c H
      exact hk83 l1 l2 l3 l5 l6 H
def f_Ledger_gainer_b96 (N : Nat)  (k8 : Nat → Int32 → Int64 → Int32 → sh_H → Option Int32) (l1 : Nat) (l2 : Int32) (l3 : Int64) (l5 : Int32) (h : sh_H) : Option Int32 := k8 l1 l2 l3 (l5 + (1 : Int32)) h
theorem x_Ledger_gainer_b96 (N : Nat) {d : Nat} (hd : 3 ≤ d) (h : sh_H) {Q : ai_Q} {R : Int32 → Prop} (hR : ∀ r, R r → Q (some (aI r)) (sh_E h))  (k8 : Nat → Int32 → Int64 → Int32 → sh_H → Option Int32) (hk8 : ∀ (l1 : Nat) (l2 : Int32) (l3 : Int64) (l5 : Int32) {d4 d6 d7 d8 d9 d10 : Option ai_V}, sh_ok (k8 l1 l2 l3 l5 h) R → wq_47 d Q 8 [oR 3 0, oR 9 l1, oI l2, oL l3, d4, oI l5, d6, d7, d8, d9, d10] [] (sh_E h)) (l1 : Nat) (l2 : Int32) (l3 : Int64) (l5 : Int32) {d4 d6 d7 d8 d9 d10 : Option ai_V} (H : sh_ok (f_Ledger_gainer_b96 N k8 l1 l2 l3 l5 h) R) : wq_47 d Q 96 [oR 3 0, oR 9 l1, oI l2, oL l3, d4, oI l5, d6, d7, d8, d9, d10] [] (sh_E h) := by
  refine ai_WP_steps mc_47 (sh_CM d) 2 ?_
  exact hk8 l1 l2 l3 (l5 + (1 : Int32)) H
def f_Ledger_gainer_b83 (N : Nat)  (k8 : Nat → Int32 → Int64 → Int32 → sh_H → Option Int32) (l1 : Nat) (l2 : Int32) (l3 : Int64) (l5 : Int32) (l6 : Int64) (h : sh_H) : Option Int32 := (if 0 < (lg_cmp l6 l3) then f_Ledger_gainer_b96 N k8 l1 l5 l6 l5 h else f_Ledger_gainer_b96 N k8 l1 l2 l3 l5 h)
theorem x_Ledger_gainer_b83 (N : Nat) {d : Nat} (hd : 3 ≤ d) (h : sh_H) {Q : ai_Q} {R : Int32 → Prop} (hR : ∀ r, R r → Q (some (aI r)) (sh_E h))  (k8 : Nat → Int32 → Int64 → Int32 → sh_H → Option Int32) (hk8 : ∀ (l1 : Nat) (l2 : Int32) (l3 : Int64) (l5 : Int32) {d4 d6 d7 d8 d9 d10 : Option ai_V}, sh_ok (k8 l1 l2 l3 l5 h) R → wq_47 d Q 8 [oR 3 0, oR 9 l1, oI l2, oL l3, d4, oI l5, d6, d7, d8, d9, d10] [] (sh_E h)) (l1 : Nat) (l2 : Int32) (l3 : Int64) (l5 : Int32) (l6 : Int64) {d4 d7 d8 d9 d10 : Option ai_V} (H : sh_ok (f_Ledger_gainer_b83 N k8 l1 l2 l3 l5 l6 h) R) : wq_47 d Q 83 [oR 3 0, oR 9 l1, oI l2, oL l3, d4, oI l5, oL l6, d7, d8, d9, d10] [] (sh_E h) := by
  refine ai_WP_steps mc_47 (sh_CM d) 4 (And.intro (fun c => ?_) (fun c => ?_))
  · replace H := sh_okT c H
    show wq_47 d Q 90 [oR 3 0, oR 9 l1, oI l2, oL l3, _, oI l5, oL l6, _, _, _, _] [] (sh_E h)
    refine ai_WP_steps mc_47 (sh_CM d) 4 ?_
    exact x_Ledger_gainer_b96 N hd h hR k8 hk8 l1 l5 l6 l5 H
  · replace H := sh_okF c H
    exact x_Ledger_gainer_b96 N hd h hR k8 hk8 l1 l2 l3 l5 H
def f_Ledger_gainer_c8 (N : Nat)   (k8 : Nat → Int32 → Int64 → Int32 → sh_H → Option Int32) (l1 : Nat) (l2 : Int32) (l3 : Int64) (l5 : Int32) (h : sh_H) : Option Int32 := (Option.bind (f_Rows_size (7 * l1 + 1) h) (fun v5 => (if v5 < l5 then (some l2) else f_Ledger_gainer_l26 N (f_Ledger_gainer_b83 N k8) N l1 l2 l3 l5 (0 : Int64) (0 : Int32) h)))
def f_Ledger_gainer_l8 (N : Nat)   (n : Nat) : Nat → Int32 → Int64 → Int32 → sh_H → Option Int32 := Nat.rec (motive := fun _ => Nat → Int32 → Int64 → Int32 → sh_H → Option Int32) (fun _ _ _ _ _ => none) (fun _ k8 => f_Ledger_gainer_c8 N k8) n
theorem x_Ledger_gainer_l8 (N : Nat) {d : Nat} (hd : 3 ≤ d) (h : sh_H) {Q : ai_Q} {R : Int32 → Prop} (hR : ∀ r, R r → Q (some (aI r)) (sh_E h))   (n : Nat) : ∀ (l1 : Nat) (l2 : Int32) (l3 : Int64) (l5 : Int32) {d4 d6 d7 d8 d9 d10 : Option ai_V}, sh_ok (f_Ledger_gainer_l8 N n l1 l2 l3 l5 h) R → wq_47 d Q 8 [oR 3 0, oR 9 l1, oI l2, oL l3, d4, oI l5, d6, d7, d8, d9, d10] [] (sh_E h) := by
  induction n with
  | zero => intro l1 l2 l3 l5 d4 d6 d7 d8 d9 d10 H; exact H.elim
  | succ n ih =>
    intro l1 l2 l3 l5 d4 d6 d7 d8 d9 d10 H
    have hk8 := @ih
    replace H : sh_ok (f_Ledger_gainer_c8 N (f_Ledger_gainer_l8 N n) l1 l2 l3 l5 h) R := H
    revert hk8 H
    generalize f_Ledger_gainer_l8 N n = k8
    intro hk8 H
    refine ai_WP_steps mc_47 (sh_CM d) 4 (And.intro (Nat.le_of_ble_eq_true rfl) (x_Rows_size (Nat.le_trans (Nat.le_of_ble_eq_true rfl) hd) (7 * l1 + 1) h (sh_okB H) (fun v5 H => ?_)))
    show wq_47 d Q 17 [oR 3 0, oR 9 l1, oI l2, oL l3, _, oI l5, _, _, _, _, _] [aI v5, aI l5] (sh_E h)
    refine ai_WP_steps mc_47 (sh_CM d) 1 (And.intro (fun c => ?_) (fun c => ?_))
    · replace H := sh_okT c H
      show wq_47 d Q 102 [oR 3 0, oR 9 l1, oI l2, oL l3, _, oI l5, _, _, _, _, _] [] (sh_E h)
      exact ai_WP_steps mc_47 (sh_CM d) 2 (hR l2 H)
    · replace H := sh_okF c H
      show wq_47 d Q 20 [oR 3 0, oR 9 l1, oI l2, oL l3, _, oI l5, _, _, _, _, _] [] (sh_E h)
      refine ai_WP_steps mc_47 (sh_CM d) 4 ?_
      exact x_Ledger_gainer_l26 N hd h hR (f_Ledger_gainer_b83 N k8) (fun z0 z1 z2 z3 z4 {e4} {e7} {e8} {e9} {e10} H => x_Ledger_gainer_b83 N hd h hR k8 hk8 z0 z1 z2 z3 z4 H) N l1 l2 l3 l5 (0 : Int64) (0 : Int32) H
def f_Ledger_gainer (N : Nat)  (l1 : Nat) (h : sh_H) : Option Int32 := f_Ledger_gainer_l8 N N l1 (-2 : Int32) (0 : Int64) (1 : Int32) h
theorem x_Ledger_gainer (N : Nat) {d : Nat} (hd : 4 ≤ d) (l1 : Nat) (h : sh_H) {Q : ai_Q} {R : Int32 → Prop} (H : sh_ok (f_Ledger_gainer N l1 h) R) (hR : ∀ r, R r → Q (some (aI r)) (sh_E h)) : ai_Ex sh_T d 47 [aR 3 0, aR 9 l1] (sh_E h) Q := by
  obtain ⟨d, rfl⟩ : ∃ e, d = e + 1 := ⟨d - 1, by omega⟩
  replace hd : 3 ≤ d := by omega
  refine And.intro (Nat.le_of_ble_eq_true rfl) ?_
  show wq_47 d Q 0 [oR 3 0, oR 9 l1, none, none, none, none, none, none, none, none, none] [] (sh_E h)
  refine ai_WP_steps mc_47 (sh_CM d) 6 ?_
  exact x_Ledger_gainer_l8 N hd h hR N l1 (-2 : Int32) (0 : Int64) (1 : Int32) H
def f_Math_abs  (l0 : Int32) (h : sh_H) : Option Int32 := (if l0 < 0 then (some (-l0)) else (some l0))
theorem x_Math_abs {d : Nat} (hd : 1 ≤ d) (l0 : Int32) (h : sh_H) {Q : ai_Q} {R : Int32 → Prop} (H : sh_ok (f_Math_abs l0 h) R) (hR : ∀ r, R r → Q (some (aI r)) (sh_E h)) : ai_Ex sh_T d 344 [aI l0] (sh_E h) Q := by
  obtain ⟨d, rfl⟩ : ∃ e, d = e + 1 := ⟨d - 1, by omega⟩
  replace hd : 0 ≤ d := by omega
  refine And.intro (Nat.le_of_ble_eq_true rfl) ?_
  show wq_344 d Q 0 [oI l0] [] (sh_E h)
  refine ai_WP_steps mc_344 (sh_CM d) 2 (And.intro (fun c => ?_) (fun c => ?_))
  · replace H := sh_okT c H
    show wq_344 d Q 4 [oI l0] [] (sh_E h)
    exact ai_WP_steps mc_344 (sh_CM d) 4 (hR (-l0) H)
  · replace H := sh_okF c H
    show wq_344 d Q 9 [oI l0] [] (sh_E h)
    exact ai_WP_steps mc_344 (sh_CM d) 2 (hR l0 H)
def f_Ledger_off_b82 (N : Nat)  (k6 : Nat → Int32 → Int32 → Int32 → Int32 → Int32 → Int32 → sh_H → Option Int32) (l1 : Nat) (l2 : Int32) (l3 : Int32) (l4 : Int32) (l5 : Int32) (l6 : Int32) (l7 : Int32) (s0 : Int32) (h : sh_H) : Option Int32 := (Option.bind (f_Ledger_came l2 l7 h) (fun v1 => (Option.bind (f_Math_abs (s0 - v1) h) (fun v2 => k6 l1 l2 l3 l4 l5 (l6 + v2) (l7 + (1 : Int32)) h))))
theorem x_Ledger_off_b82 (N : Nat) {d : Nat} (hd : 3 ≤ d) (h : sh_H) {Q : ai_Q} {R : Int32 → Prop} (hR : ∀ r, R r → Q (some (aI r)) (sh_E h))  (k6 : Nat → Int32 → Int32 → Int32 → Int32 → Int32 → Int32 → sh_H → Option Int32) (hk6 : ∀ (l1 : Nat) (l2 : Int32) (l3 : Int32) (l4 : Int32) (l5 : Int32) (l6 : Int32) (l7 : Int32) {d8 d9 d10 d11 : Option ai_V}, sh_ok (k6 l1 l2 l3 l4 l5 l6 l7 h) R → wq_53 d Q 6 [oR 3 0, oR 9 l1, oI l2, oI l3, oI l4, oI l5, oI l6, oI l7, d8, d9, d10, d11] [] (sh_E h)) (l1 : Nat) (l2 : Int32) (l3 : Int32) (l4 : Int32) (l5 : Int32) (l6 : Int32) (l7 : Int32) (s0 : Int32) {d8 d9 d10 d11 : Option ai_V} (H : sh_ok (f_Ledger_off_b82 N k6 l1 l2 l3 l4 l5 l6 l7 s0 h) R) : wq_53 d Q 82 [oR 3 0, oR 9 l1, oI l2, oI l3, oI l4, oI l5, oI l6, oI l7, d8, d9, d10, d11] [aI s0] (sh_E h) := by
  refine ai_WP_steps mc_53 (sh_CM d) 7 (And.intro (Nat.le_of_ble_eq_true rfl) (x_Ledger_came (Nat.le_trans (Nat.le_of_ble_eq_true rfl) hd) l2 l7 h (sh_okB H) (fun v1 H => ?_)))
  show wq_53 d Q 95 [oR 3 0, oR 9 l1, oI l2, oI l3, oI l4, oI l5, oI l6, oI l7, _, _, _, oI s0] [aI v1, aI s0, aI l6] (sh_E h)
  refine ai_WP_steps mc_53 (sh_CM d) 2 (And.intro (Nat.le_of_ble_eq_true rfl) (x_Math_abs (Nat.le_trans (Nat.le_of_ble_eq_true rfl) hd) (s0 - v1) h (sh_okB H) (fun v2 H => ?_)))
  show wq_53 d Q 99 [oR 3 0, oR 9 l1, oI l2, oI l3, oI l4, oI l5, oI l6, oI l7, _, _, _, oI s0] [aI v2, aI l6] (sh_E h)
  refine ai_WP_steps mc_53 (sh_CM d) 4 ?_
  exact hk6 l1 l2 l3 l4 l5 (l6 + v2) (l7 + (1 : Int32)) H
def f_Ledger_off_b59 (N : Nat)  (k6 : Nat → Int32 → Int32 → Int32 → Int32 → Int32 → Int32 → sh_H → Option Int32) (l1 : Nat) (l2 : Int32) (l3 : Int32) (l4 : Int32) (l5 : Int32) (l6 : Int32) (l7 : Int32) (l9 : Int32) (s0 : Int32) (h : sh_H) : Option Int32 := (if s0 = 0 then f_Ledger_off_b82 N k6 l1 l2 l3 l4 l5 l6 l7 l9 h else (if ¬ (10 : Int32) = 0 then f_Ledger_off_b82 N k6 l1 l2 l3 l4 l5 l6 l7 (l9 - ((l9 * l4) / (10 : Int32))) h else none))
theorem x_Ledger_off_b59 (N : Nat) {d : Nat} (hd : 3 ≤ d) (h : sh_H) {Q : ai_Q} {R : Int32 → Prop} (hR : ∀ r, R r → Q (some (aI r)) (sh_E h))  (k6 : Nat → Int32 → Int32 → Int32 → Int32 → Int32 → Int32 → sh_H → Option Int32) (hk6 : ∀ (l1 : Nat) (l2 : Int32) (l3 : Int32) (l4 : Int32) (l5 : Int32) (l6 : Int32) (l7 : Int32) {d8 d9 d10 d11 : Option ai_V}, sh_ok (k6 l1 l2 l3 l4 l5 l6 l7 h) R → wq_53 d Q 6 [oR 3 0, oR 9 l1, oI l2, oI l3, oI l4, oI l5, oI l6, oI l7, d8, d9, d10, d11] [] (sh_E h)) (l1 : Nat) (l2 : Int32) (l3 : Int32) (l4 : Int32) (l5 : Int32) (l6 : Int32) (l7 : Int32) (l9 : Int32) (s0 : Int32) {d8 d10 d11 : Option ai_V} (H : sh_ok (f_Ledger_off_b59 N k6 l1 l2 l3 l4 l5 l6 l7 l9 s0 h) R) : wq_53 d Q 59 [oR 3 0, oR 9 l1, oI l2, oI l3, oI l4, oI l5, oI l6, oI l7, d8, oI l9, d10, d11] [aI s0] (sh_E h) := by
  refine ai_WP_steps mc_53 (sh_CM d) 3 (And.intro (fun c => ?_) (fun c => ?_))
  · replace H := sh_okT c H
    show wq_53 d Q 80 [oR 3 0, oR 9 l1, oI l2, oI l3, oI l4, oI l5, oI l6, oI l7, _, oI l9, oI s0, _] [] (sh_E h)
    refine ai_WP_steps mc_53 (sh_CM d) 1 ?_
    exact x_Ledger_off_b82 N hd h hR k6 hk6 l1 l2 l3 l4 l5 l6 l7 l9 H
  · replace H := sh_okF c H
    show wq_53 d Q 66 [oR 3 0, oR 9 l1, oI l2, oI l3, oI l4, oI l5, oI l6, oI l7, _, oI l9, oI s0, _] [] (sh_E h)
    have c := sh_okG H
    replace H := sh_okH H
    refine ai_WP_steps mc_53 (sh_CM d) 6 (And.intro c ?_)
    show wq_53 d Q 76 [oR 3 0, oR 9 l1, oI l2, oI l3, oI l4, oI l5, oI l6, oI l7, _, oI l9, oI s0, _] [aI ((l9 * l4) / (10 : Int32)), aI l9] (sh_E h)
    refine ai_WP_steps mc_53 (sh_CM d) 2 ?_
    exact x_Ledger_off_b82 N hd h hR k6 hk6 l1 l2 l3 l4 l5 l6 l7 (l9 - ((l9 * l4) / (10 : Int32))) H
def f_Ledger_off_c6 (N : Nat)   (k6 : Nat → Int32 → Int32 → Int32 → Int32 → Int32 → Int32 → sh_H → Option Int32) (l1 : Nat) (l2 : Int32) (l3 : Int32) (l4 : Int32) (l5 : Int32) (l6 : Int32) (l7 : Int32) (h : sh_H) : Option Int32 := (Option.bind (f_Rows_size (7 * l1 + 0) h) (fun v3 => (if l7 < v3 then (Option.bind (f_Ledger_went l2 l7 h) (fun v4 => (if ¬ (10 : Int32) = 0 then (Option.bind (f_Rows_get (7 * l1 + 0) l7 (0 : Int32) h) (fun v5 => (if v5 < l3 then f_Ledger_off_b59 N k6 l1 l2 l3 l4 l5 l6 l7 (v4 - ((v4 * l5) / (10 : Int32))) (1 : Int32) h else f_Ledger_off_b59 N k6 l1 l2 l3 l4 l5 l6 l7 (v4 - ((v4 * l5) / (10 : Int32))) (0 : Int32) h))) else none))) else (some l6))))
def f_Ledger_off_l6 (N : Nat)   (n : Nat) : Nat → Int32 → Int32 → Int32 → Int32 → Int32 → Int32 → sh_H → Option Int32 := Nat.rec (motive := fun _ => Nat → Int32 → Int32 → Int32 → Int32 → Int32 → Int32 → sh_H → Option Int32) (fun _ _ _ _ _ _ _ _ => none) (fun _ k6 => f_Ledger_off_c6 N k6) n
theorem x_Ledger_off_l6 (N : Nat) {d : Nat} (hd : 3 ≤ d) (h : sh_H) {Q : ai_Q} {R : Int32 → Prop} (hR : ∀ r, R r → Q (some (aI r)) (sh_E h))   (n : Nat) : ∀ (l1 : Nat) (l2 : Int32) (l3 : Int32) (l4 : Int32) (l5 : Int32) (l6 : Int32) (l7 : Int32) {d8 d9 d10 d11 : Option ai_V}, sh_ok (f_Ledger_off_l6 N n l1 l2 l3 l4 l5 l6 l7 h) R → wq_53 d Q 6 [oR 3 0, oR 9 l1, oI l2, oI l3, oI l4, oI l5, oI l6, oI l7, d8, d9, d10, d11] [] (sh_E h) := by
  induction n with
  | zero => intro l1 l2 l3 l4 l5 l6 l7 d8 d9 d10 d11 H; exact H.elim
  | succ n ih =>
    intro l1 l2 l3 l4 l5 l6 l7 d8 d9 d10 d11 H
    have hk6 := @ih
    replace H : sh_ok (f_Ledger_off_c6 N (f_Ledger_off_l6 N n) l1 l2 l3 l4 l5 l6 l7 h) R := H
    revert hk6 H
    generalize f_Ledger_off_l6 N n = k6
    intro hk6 H
    refine ai_WP_steps mc_53 (sh_CM d) 4 (And.intro (Nat.le_of_ble_eq_true rfl) (x_Rows_size (Nat.le_trans (Nat.le_of_ble_eq_true rfl) hd) (7 * l1 + 0) h (sh_okB H) (fun v3 H => ?_)))
    show wq_53 d Q 15 [oR 3 0, oR 9 l1, oI l2, oI l3, oI l4, oI l5, oI l6, oI l7, _, _, _, _] [aI v3, aI l7] (sh_E h)
    refine ai_WP_steps mc_53 (sh_CM d) 1 (And.intro (fun c => ?_) (fun c => ?_))
    · replace H := sh_okT c H
      show wq_53 d Q 18 [oR 3 0, oR 9 l1, oI l2, oI l3, oI l4, oI l5, oI l6, oI l7, _, _, _, _] [] (sh_E h)
      refine ai_WP_steps mc_53 (sh_CM d) 4 (And.intro (Nat.le_of_ble_eq_true rfl) (x_Ledger_went (Nat.le_trans (Nat.le_of_ble_eq_true rfl) hd) l2 l7 h (sh_okB H) (fun v4 H => ?_)))
      show wq_53 d Q 25 [oR 3 0, oR 9 l1, oI l2, oI l3, oI l4, oI l5, oI l6, oI l7, _, _, _, _] [aI v4] (sh_E h)
      have c := sh_okG H
      replace H := sh_okH H
      refine ai_WP_steps mc_53 (sh_CM d) 7 (And.intro c ?_)
      show wq_53 d Q 37 [oR 3 0, oR 9 l1, oI l2, oI l3, oI l4, oI l5, oI l6, oI l7, oI v4, _, _, _] [aI ((v4 * l5) / (10 : Int32)), aI v4] (sh_E h)
      refine ai_WP_steps mc_53 (sh_CM d) 7 (And.intro (Nat.le_of_ble_eq_true rfl) (x_Rows_get (Nat.le_trans (Nat.le_of_ble_eq_true rfl) hd) (7 * l1 + 0) l7 (0 : Int32) h (sh_okB H) (fun v5 H => ?_)))
      show wq_53 d Q 50 [oR 3 0, oR 9 l1, oI l2, oI l3, oI l4, oI l5, oI l6, oI l7, _, oI (v4 - ((v4 * l5) / (10 : Int32))), _, _] [aI v5] (sh_E h)
      refine ai_WP_steps mc_53 (sh_CM d) 2 (And.intro (fun c => ?_) (fun c => ?_))
      · replace H := sh_okT c H
        show wq_53 d Q 54 [oR 3 0, oR 9 l1, oI l2, oI l3, oI l4, oI l5, oI l6, oI l7, _, oI (v4 - ((v4 * l5) / (10 : Int32))), _, _] [] (sh_E h)
        refine ai_WP_steps mc_53 (sh_CM d) 2 ?_
        exact x_Ledger_off_b59 N hd h hR k6 hk6 l1 l2 l3 l4 l5 l6 l7 (v4 - ((v4 * l5) / (10 : Int32))) (1 : Int32) H
      · replace H := sh_okF c H
        show wq_53 d Q 58 [oR 3 0, oR 9 l1, oI l2, oI l3, oI l4, oI l5, oI l6, oI l7, _, oI (v4 - ((v4 * l5) / (10 : Int32))), _, _] [] (sh_E h)
        refine ai_WP_steps mc_53 (sh_CM d) 1 ?_
        exact x_Ledger_off_b59 N hd h hR k6 hk6 l1 l2 l3 l4 l5 l6 l7 (v4 - ((v4 * l5) / (10 : Int32))) (0 : Int32) H
    · replace H := sh_okF c H
      show wq_53 d Q 108 [oR 3 0, oR 9 l1, oI l2, oI l3, oI l4, oI l5, oI l6, oI l7, _, _, _, _] [] (sh_E h)
      exact ai_WP_steps mc_53 (sh_CM d) 2 (hR l6 H)
def f_Ledger_off (N : Nat)  (l1 : Nat) (l2 : Int32) (l3 : Int32) (l4 : Int32) (l5 : Int32) (h : sh_H) : Option Int32 := f_Ledger_off_l6 N N l1 l2 l3 l4 l5 (0 : Int32) (0 : Int32) h
theorem x_Ledger_off (N : Nat) {d : Nat} (hd : 4 ≤ d) (l1 : Nat) (l2 : Int32) (l3 : Int32) (l4 : Int32) (l5 : Int32) (h : sh_H) {Q : ai_Q} {R : Int32 → Prop} (H : sh_ok (f_Ledger_off N l1 l2 l3 l4 l5 h) R) (hR : ∀ r, R r → Q (some (aI r)) (sh_E h)) : ai_Ex sh_T d 53 [aR 3 0, aR 9 l1, aI l2, aI l3, aI l4, aI l5] (sh_E h) Q := by
  obtain ⟨d, rfl⟩ : ∃ e, d = e + 1 := ⟨d - 1, by omega⟩
  replace hd : 3 ≤ d := by omega
  refine And.intro (Nat.le_of_ble_eq_true rfl) ?_
  show wq_53 d Q 0 [oR 3 0, oR 9 l1, oI l2, oI l3, oI l4, oI l5, none, none, none, none, none, none] [] (sh_E h)
  refine ai_WP_steps mc_53 (sh_CM d) 4 ?_
  exact x_Ledger_off_l6 N hd h hR N l1 l2 l3 l4 l5 (0 : Int32) (0 : Int32) H
def f_Ledger_leastOff_b65 (N : Nat)  (k16 : Nat → Int32 → Int32 → Int32 → Int32 → Int32 → sh_H → Option (Int32 × sh_H)) (l1 : Nat) (l2 : Int32) (l3 : Int32) (l4 : Int32) (l5 : Int32) (l6 : Int32) (h : sh_H) : Option (Int32 × sh_H) := k16 l1 l2 l3 l4 l5 (l6 + (1 : Int32)) h
theorem x_Ledger_leastOff_b65 (N : Nat) {d : Nat} (hd : 4 ≤ d) {Q : ai_Q} {R : Int32 × sh_H → Prop} (hR : ∀ r h, R (r, h) → Q (some (aI r)) (sh_E h))  (k16 : Nat → Int32 → Int32 → Int32 → Int32 → Int32 → sh_H → Option (Int32 × sh_H)) (hk16 : ∀ (l1 : Nat) (l2 : Int32) (l3 : Int32) (l4 : Int32) (l5 : Int32) (l6 : Int32) {d7 : Option ai_V} (h : sh_H), sh_ok (k16 l1 l2 l3 l4 l5 l6 h) R → wq_48 d Q 16 [oR 3 0, oR 9 l1, oI l2, oI l3, oI l4, oI l5, oI l6, d7] [] (sh_E h)) (l1 : Nat) (l2 : Int32) (l3 : Int32) (l4 : Int32) (l5 : Int32) (l6 : Int32) {d7 : Option ai_V} (h : sh_H) (H : sh_ok (f_Ledger_leastOff_b65 N k16 l1 l2 l3 l4 l5 l6 h) R) : wq_48 d Q 65 [oR 3 0, oR 9 l1, oI l2, oI l3, oI l4, oI l5, oI l6, d7] [] (sh_E h) := by
  refine ai_WP_steps mc_48 (sh_CM d) 2 ?_
  exact hk16 l1 l2 l3 l4 l5 (l6 + (1 : Int32)) h H
def f_Ledger_leastOff_b49 (N : Nat)  (k16 : Nat → Int32 → Int32 → Int32 → Int32 → Int32 → sh_H → Option (Int32 × sh_H)) (l1 : Nat) (l2 : Int32) (l3 : Int32) (l5 : Int32) (l6 : Int32) (l7 : Int32) (h : sh_H) : Option (Int32 × sh_H) := (sh_let (sh_pI h 3 0 6 l5) (fun h1 => (sh_let (sh_pI h1 3 0 7 l6) (fun h2 => f_Ledger_leastOff_b65 N k16 l1 l2 l3 l7 l5 l6 h2))))
theorem x_Ledger_leastOff_b49 (N : Nat) {d : Nat} (hd : 4 ≤ d) {Q : ai_Q} {R : Int32 × sh_H → Prop} (hR : ∀ r h, R (r, h) → Q (some (aI r)) (sh_E h))  (k16 : Nat → Int32 → Int32 → Int32 → Int32 → Int32 → sh_H → Option (Int32 × sh_H)) (hk16 : ∀ (l1 : Nat) (l2 : Int32) (l3 : Int32) (l4 : Int32) (l5 : Int32) (l6 : Int32) {d7 : Option ai_V} (h : sh_H), sh_ok (k16 l1 l2 l3 l4 l5 l6 h) R → wq_48 d Q 16 [oR 3 0, oR 9 l1, oI l2, oI l3, oI l4, oI l5, oI l6, d7] [] (sh_E h)) (l1 : Nat) (l2 : Int32) (l3 : Int32) (l5 : Int32) (l6 : Int32) (l7 : Int32) {d4 : Option ai_V} (h : sh_H) (H : sh_ok (f_Ledger_leastOff_b49 N k16 l1 l2 l3 l5 l6 l7 h) R) : wq_48 d Q 49 [oR 3 0, oR 9 l1, oI l2, oI l3, d4, oI l5, oI l6, oI l7] [] (sh_E h) := by
  refine ai_WP_steps mc_48 (sh_CM d) 5 (And.intro trivial ?_)
  show wq_48 d Q 59 [oR 3 0, oR 9 l1, oI l2, oI l3, oI l7, oI l5, oI l6, oI l7] [] (sh_E (sh_pI h 3 0 6 l5))
  replace H := sh_okL H
  generalize sh_pI h 3 0 6 l5 = h1 at H ⊢
  refine ai_WP_steps mc_48 (sh_CM d) 3 (And.intro trivial ?_)
  show wq_48 d Q 65 [oR 3 0, oR 9 l1, oI l2, oI l3, oI l7, oI l5, oI l6, oI l7] [] (sh_E (sh_pI h1 3 0 7 l6))
  replace H := sh_okL H
  generalize sh_pI h1 3 0 7 l6 = h2 at H ⊢
  exact x_Ledger_leastOff_b65 N hd hR k16 hk16 l1 l2 l3 l7 l5 l6 h2 H
def f_Ledger_leastOff_c16 (N : Nat)  (k71 : Nat → Int32 → Int32 → Int32 → Int32 → sh_H → Option (Int32 × sh_H)) (k16 : Nat → Int32 → Int32 → Int32 → Int32 → Int32 → sh_H → Option (Int32 × sh_H)) (l1 : Nat) (l2 : Int32) (l3 : Int32) (l4 : Int32) (l5 : Int32) (l6 : Int32) (h : sh_H) : Option (Int32 × sh_H) := (if (10 : Int32) < l6 then k71 l1 l2 l3 l4 l5 h else (Option.bind (f_Ledger_off N l1 l2 l3 l5 l6 h) (fun v3 => (if l4 = (-1 : Int32) then f_Ledger_leastOff_b49 N k16 l1 l2 l3 l5 l6 v3 h else (if v3 < l4 then f_Ledger_leastOff_b49 N k16 l1 l2 l3 l5 l6 v3 h else f_Ledger_leastOff_b65 N k16 l1 l2 l3 l4 l5 l6 h)))))
def f_Ledger_leastOff_l16 (N : Nat)  (k71 : Nat → Int32 → Int32 → Int32 → Int32 → sh_H → Option (Int32 × sh_H)) (n : Nat) : Nat → Int32 → Int32 → Int32 → Int32 → Int32 → sh_H → Option (Int32 × sh_H) := Nat.rec (motive := fun _ => Nat → Int32 → Int32 → Int32 → Int32 → Int32 → sh_H → Option (Int32 × sh_H)) (fun _ _ _ _ _ _ _ => none) (fun _ k16 => f_Ledger_leastOff_c16 N k71 k16) n
theorem x_Ledger_leastOff_l16 (N : Nat) {d : Nat} (hd : 4 ≤ d) {Q : ai_Q} {R : Int32 × sh_H → Prop} (hR : ∀ r h, R (r, h) → Q (some (aI r)) (sh_E h))  (k71 : Nat → Int32 → Int32 → Int32 → Int32 → sh_H → Option (Int32 × sh_H)) (hk71 : ∀ (l1 : Nat) (l2 : Int32) (l3 : Int32) (l4 : Int32) (l5 : Int32) {d6 d7 : Option ai_V} (h : sh_H), sh_ok (k71 l1 l2 l3 l4 l5 h) R → wq_48 d Q 71 [oR 3 0, oR 9 l1, oI l2, oI l3, oI l4, oI l5, d6, d7] [] (sh_E h)) (n : Nat) : ∀ (l1 : Nat) (l2 : Int32) (l3 : Int32) (l4 : Int32) (l5 : Int32) (l6 : Int32) {d7 : Option ai_V} (h : sh_H), sh_ok (f_Ledger_leastOff_l16 N k71 n l1 l2 l3 l4 l5 l6 h) R → wq_48 d Q 16 [oR 3 0, oR 9 l1, oI l2, oI l3, oI l4, oI l5, oI l6, d7] [] (sh_E h) := by
  induction n with
  | zero => intro l1 l2 l3 l4 l5 l6 d7 h H; exact H.elim
  | succ n ih =>
    intro l1 l2 l3 l4 l5 l6 d7 h H
    have hk16 := @ih
    replace H : sh_ok (f_Ledger_leastOff_c16 N k71 (f_Ledger_leastOff_l16 N k71 n) l1 l2 l3 l4 l5 l6 h) R := H
    revert hk16 H
    generalize f_Ledger_leastOff_l16 N k71 n = k16
    intro hk16 H
    refine ai_WP_steps mc_48 (sh_CM d) 3 (And.intro (fun c => ?_) (fun c => ?_))
    · replace H := sh_okT c H
      exact hk71 l1 l2 l3 l4 l5 h H
    · replace H := sh_okF c H
      show wq_48 d Q 23 [oR 3 0, oR 9 l1, oI l2, oI l3, oI l4, oI l5, oI l6, _] [] (sh_E h)
      refine ai_WP_steps mc_48 (sh_CM d) 7 (And.intro (Nat.le_of_ble_eq_true rfl) (x_Ledger_off N (Nat.le_trans (Nat.le_of_ble_eq_true rfl) hd) l1 l2 l3 l5 l6 h (sh_okB H) (fun v3 H => ?_)))
      show wq_48 d Q 34 [oR 3 0, oR 9 l1, oI l2, oI l3, oI l4, oI l5, oI l6, _] [aI v3] (sh_E h)
      refine ai_WP_steps mc_48 (sh_CM d) 4 (And.intro (fun c => ?_) (fun c => ?_))
      · replace H := sh_okT c H
        exact x_Ledger_leastOff_b49 N hd hR k16 hk16 l1 l2 l3 l5 l6 v3 h H
      · replace H := sh_okF c H
        show wq_48 d Q 42 [oR 3 0, oR 9 l1, oI l2, oI l3, oI l4, oI l5, oI l6, oI v3] [] (sh_E h)
        refine ai_WP_steps mc_48 (sh_CM d) 3 (And.intro (fun c => ?_) (fun c => ?_))
        · replace H := sh_okT c H
          exact x_Ledger_leastOff_b49 N hd hR k16 hk16 l1 l2 l3 l5 l6 v3 h H
        · replace H := sh_okF c H
          exact x_Ledger_leastOff_b65 N hd hR k16 hk16 l1 l2 l3 l4 l5 l6 h H
def f_Ledger_leastOff_b71 (N : Nat)  (k6 : Nat → Int32 → Int32 → Int32 → Int32 → sh_H → Option (Int32 × sh_H)) (l1 : Nat) (l2 : Int32) (l3 : Int32) (l4 : Int32) (l5 : Int32) (h : sh_H) : Option (Int32 × sh_H) := k6 l1 l2 l3 l4 (l5 + (1 : Int32)) h
theorem x_Ledger_leastOff_b71 (N : Nat) {d : Nat} (hd : 4 ≤ d) {Q : ai_Q} {R : Int32 × sh_H → Prop} (hR : ∀ r h, R (r, h) → Q (some (aI r)) (sh_E h))  (k6 : Nat → Int32 → Int32 → Int32 → Int32 → sh_H → Option (Int32 × sh_H)) (hk6 : ∀ (l1 : Nat) (l2 : Int32) (l3 : Int32) (l4 : Int32) (l5 : Int32) {d6 d7 : Option ai_V} (h : sh_H), sh_ok (k6 l1 l2 l3 l4 l5 h) R → wq_48 d Q 6 [oR 3 0, oR 9 l1, oI l2, oI l3, oI l4, oI l5, d6, d7] [] (sh_E h)) (l1 : Nat) (l2 : Int32) (l3 : Int32) (l4 : Int32) (l5 : Int32) {d6 d7 : Option ai_V} (h : sh_H) (H : sh_ok (f_Ledger_leastOff_b71 N k6 l1 l2 l3 l4 l5 h) R) : wq_48 d Q 71 [oR 3 0, oR 9 l1, oI l2, oI l3, oI l4, oI l5, d6, d7] [] (sh_E h) := by
  refine ai_WP_steps mc_48 (sh_CM d) 2 ?_
  exact hk6 l1 l2 l3 l4 (l5 + (1 : Int32)) h H
def f_Ledger_leastOff_c6 (N : Nat)   (k6 : Nat → Int32 → Int32 → Int32 → Int32 → sh_H → Option (Int32 × sh_H)) (l1 : Nat) (l2 : Int32) (l3 : Int32) (l4 : Int32) (l5 : Int32) (h : sh_H) : Option (Int32 × sh_H) := (if (10 : Int32) < l5 then (some (l4, h)) else f_Ledger_leastOff_l16 N (f_Ledger_leastOff_b71 N k6) N l1 l2 l3 l4 l5 (0 : Int32) h)
def f_Ledger_leastOff_l6 (N : Nat)   (n : Nat) : Nat → Int32 → Int32 → Int32 → Int32 → sh_H → Option (Int32 × sh_H) := Nat.rec (motive := fun _ => Nat → Int32 → Int32 → Int32 → Int32 → sh_H → Option (Int32 × sh_H)) (fun _ _ _ _ _ _ => none) (fun _ k6 => f_Ledger_leastOff_c6 N k6) n
theorem x_Ledger_leastOff_l6 (N : Nat) {d : Nat} (hd : 4 ≤ d) {Q : ai_Q} {R : Int32 × sh_H → Prop} (hR : ∀ r h, R (r, h) → Q (some (aI r)) (sh_E h))   (n : Nat) : ∀ (l1 : Nat) (l2 : Int32) (l3 : Int32) (l4 : Int32) (l5 : Int32) {d6 d7 : Option ai_V} (h : sh_H), sh_ok (f_Ledger_leastOff_l6 N n l1 l2 l3 l4 l5 h) R → wq_48 d Q 6 [oR 3 0, oR 9 l1, oI l2, oI l3, oI l4, oI l5, d6, d7] [] (sh_E h) := by
  induction n with
  | zero => intro l1 l2 l3 l4 l5 d6 d7 h H; exact H.elim
  | succ n ih =>
    intro l1 l2 l3 l4 l5 d6 d7 h H
    have hk6 := @ih
    replace H : sh_ok (f_Ledger_leastOff_c6 N (f_Ledger_leastOff_l6 N n) l1 l2 l3 l4 l5 h) R := H
    revert hk6 H
    generalize f_Ledger_leastOff_l6 N n = k6
    intro hk6 H
    refine ai_WP_steps mc_48 (sh_CM d) 3 (And.intro (fun c => ?_) (fun c => ?_))
    · replace H := sh_okT c H
      show wq_48 d Q 77 [oR 3 0, oR 9 l1, oI l2, oI l3, oI l4, oI l5, _, _] [] (sh_E h)
      exact ai_WP_steps mc_48 (sh_CM d) 2 (hR l4 h H)
    · replace H := sh_okF c H
      show wq_48 d Q 13 [oR 3 0, oR 9 l1, oI l2, oI l3, oI l4, oI l5, _, _] [] (sh_E h)
      refine ai_WP_steps mc_48 (sh_CM d) 2 ?_
      exact x_Ledger_leastOff_l16 N hd hR (f_Ledger_leastOff_b71 N k6) (fun z0 z1 z2 z3 z4 {e6} {e7} h H => x_Ledger_leastOff_b71 N hd hR k6 hk6 z0 z1 z2 z3 z4 h H) N l1 l2 l3 l4 l5 (0 : Int32) h H
def f_Ledger_leastOff (N : Nat)  (l1 : Nat) (l2 : Int32) (l3 : Int32) (h : sh_H) : Option (Int32 × sh_H) := f_Ledger_leastOff_l6 N N l1 l2 l3 (-1 : Int32) (0 : Int32) h
theorem x_Ledger_leastOff (N : Nat) {d : Nat} (hd : 5 ≤ d) (l1 : Nat) (l2 : Int32) (l3 : Int32) (h : sh_H) {Q : ai_Q} {R : Int32 × sh_H → Prop} (H : sh_ok (f_Ledger_leastOff N l1 l2 l3 h) R) (hR : ∀ r h, R (r, h) → Q (some (aI r)) (sh_E h)) : ai_Ex sh_T d 48 [aR 3 0, aR 9 l1, aI l2, aI l3] (sh_E h) Q := by
  obtain ⟨d, rfl⟩ : ∃ e, d = e + 1 := ⟨d - 1, by omega⟩
  replace hd : 4 ≤ d := by omega
  refine And.intro (Nat.le_of_ble_eq_true rfl) ?_
  show wq_48 d Q 0 [oR 3 0, oR 9 l1, oI l2, oI l3, none, none, none, none] [] (sh_E h)
  refine ai_WP_steps mc_48 (sh_CM d) 4 ?_
  exact x_Ledger_leastOff_l6 N hd hR N l1 l2 l3 (-1 : Int32) (0 : Int32) h H
def f_Ledger_kept   (h : sh_H) : Option Int32 := (some (h.1 3 0 6))
theorem x_Ledger_kept {d : Nat} (hd : 1 ≤ d)  (h : sh_H) {Q : ai_Q} {R : Int32 → Prop} (H : sh_ok (f_Ledger_kept h) R) (hR : ∀ r, R r → Q (some (aI r)) (sh_E h)) : ai_Ex sh_T d 49 [aR 3 0] (sh_E h) Q := by
  obtain ⟨d, rfl⟩ : ∃ e, d = e + 1 := ⟨d - 1, by omega⟩
  replace hd : 0 ≤ d := by omega
  refine And.intro (Nat.le_of_ble_eq_true rfl) ?_
  show wq_49 d Q 0 [oR 3 0] [] (sh_E h)
  exact ai_WP_steps mc_49 (sh_CM d) 3 (hR (h.1 3 0 6) H)
def f_Ledger_lost   (h : sh_H) : Option Int32 := (some (h.1 3 0 7))
theorem x_Ledger_lost {d : Nat} (hd : 1 ≤ d)  (h : sh_H) {Q : ai_Q} {R : Int32 → Prop} (H : sh_ok (f_Ledger_lost h) R) (hR : ∀ r, R r → Q (some (aI r)) (sh_E h)) : ai_Ex sh_T d 50 [aR 3 0] (sh_E h) Q := by
  obtain ⟨d, rfl⟩ : ∃ e, d = e + 1 := ⟨d - 1, by omega⟩
  replace hd : 0 ≤ d := by omega
  refine And.intro (Nat.le_of_ble_eq_true rfl) ?_
  show wq_50 d Q 0 [oR 3 0] [] (sh_E h)
  exact ai_WP_steps mc_50 (sh_CM d) 3 (hR (h.1 3 0 7) H)
def f_Ledger_isNear_c3 (N : Nat)   (k3 : Nat → Int32 → Int32 → Int32 → Int32 → Int32 → sh_H → Option Int32) (l1 : Nat) (l2 : Int32) (l3 : Int32) (l4 : Int32) (l5 : Int32) (l6 : Int32) (h : sh_H) : Option Int32 := (if (10 : Int32) < l6 then (some (ai_nar 1 (0 : Int32))) else (Option.bind (f_Ledger_off N l1 l2 l3 l4 l6 h) (fun v1 => (if l5 < v1 then k3 l1 l2 l3 l4 l5 (l6 + (1 : Int32)) h else (some (ai_nar 1 (1 : Int32)))))))
def f_Ledger_isNear_l3 (N : Nat)   (n : Nat) : Nat → Int32 → Int32 → Int32 → Int32 → Int32 → sh_H → Option Int32 := Nat.rec (motive := fun _ => Nat → Int32 → Int32 → Int32 → Int32 → Int32 → sh_H → Option Int32) (fun _ _ _ _ _ _ _ => none) (fun _ k3 => f_Ledger_isNear_c3 N k3) n
theorem x_Ledger_isNear_l3 (N : Nat) {d : Nat} (hd : 4 ≤ d) (h : sh_H) {Q : ai_Q} {R : Int32 → Prop} (hR : ∀ r, R r → Q (some (aI r)) (sh_E h))   (n : Nat) : ∀ (l1 : Nat) (l2 : Int32) (l3 : Int32) (l4 : Int32) (l5 : Int32) (l6 : Int32), sh_ok (f_Ledger_isNear_l3 N n l1 l2 l3 l4 l5 l6 h) R → wq_52 d Q 3 [oR 3 0, oR 9 l1, oI l2, oI l3, oI l4, oI l5, oI l6] [] (sh_E h) := by
  induction n with
  | zero => intro l1 l2 l3 l4 l5 l6 H; exact H.elim
  | succ n ih =>
    intro l1 l2 l3 l4 l5 l6 H
    have hk3 := @ih
    replace H : sh_ok (f_Ledger_isNear_c3 N (f_Ledger_isNear_l3 N n) l1 l2 l3 l4 l5 l6 h) R := H
    revert hk3 H
    generalize f_Ledger_isNear_l3 N n = k3
    intro hk3 H
    refine ai_WP_steps mc_52 (sh_CM d) 3 (And.intro (fun c => ?_) (fun c => ?_))
    · replace H := sh_okT c H
      show wq_52 d Q 34 [oR 3 0, oR 9 l1, oI l2, oI l3, oI l4, oI l5, oI l6] [] (sh_E h)
      exact ai_WP_steps mc_52 (sh_CM d) 2 (hR (ai_nar 1 (0 : Int32)) H)
    · replace H := sh_okF c H
      show wq_52 d Q 10 [oR 3 0, oR 9 l1, oI l2, oI l3, oI l4, oI l5, oI l6] [] (sh_E h)
      refine ai_WP_steps mc_52 (sh_CM d) 7 (And.intro (Nat.le_of_ble_eq_true rfl) (x_Ledger_off N (Nat.le_trans (Nat.le_of_ble_eq_true rfl) hd) l1 l2 l3 l4 l6 h (sh_okB H) (fun v1 H => ?_)))
      show wq_52 d Q 21 [oR 3 0, oR 9 l1, oI l2, oI l3, oI l4, oI l5, oI l6] [aI v1] (sh_E h)
      refine ai_WP_steps mc_52 (sh_CM d) 2 (And.intro (fun c => ?_) (fun c => ?_))
      · replace H := sh_okT c H
        show wq_52 d Q 28 [oR 3 0, oR 9 l1, oI l2, oI l3, oI l4, oI l5, oI l6] [] (sh_E h)
        refine ai_WP_steps mc_52 (sh_CM d) 2 ?_
        exact hk3 l1 l2 l3 l4 l5 (l6 + (1 : Int32)) H
      · replace H := sh_okF c H
        show wq_52 d Q 26 [oR 3 0, oR 9 l1, oI l2, oI l3, oI l4, oI l5, oI l6] [] (sh_E h)
        exact ai_WP_steps mc_52 (sh_CM d) 2 (hR (ai_nar 1 (1 : Int32)) H)
def f_Ledger_isNear (N : Nat)  (l1 : Nat) (l2 : Int32) (l3 : Int32) (l4 : Int32) (l5 : Int32) (h : sh_H) : Option Int32 := f_Ledger_isNear_l3 N N l1 l2 l3 l4 l5 (0 : Int32) h
theorem x_Ledger_isNear (N : Nat) {d : Nat} (hd : 5 ≤ d) (l1 : Nat) (l2 : Int32) (l3 : Int32) (l4 : Int32) (l5 : Int32) (h : sh_H) {Q : ai_Q} {R : Int32 → Prop} (H : sh_ok (f_Ledger_isNear N l1 l2 l3 l4 l5 h) R) (hR : ∀ r, R r → Q (some (aI r)) (sh_E h)) : ai_Ex sh_T d 52 [aR 3 0, aR 9 l1, aI l2, aI l3, aI l4, aI l5] (sh_E h) Q := by
  obtain ⟨d, rfl⟩ : ∃ e, d = e + 1 := ⟨d - 1, by omega⟩
  replace hd : 4 ≤ d := by omega
  refine And.intro (Nat.le_of_ble_eq_true rfl) ?_
  show wq_52 d Q 0 [oR 3 0, oR 9 l1, oI l2, oI l3, oI l4, oI l5, none] [] (sh_E h)
  refine ai_WP_steps mc_52 (sh_CM d) 2 ?_
  exact x_Ledger_isNear_l3 N hd h hR N l1 l2 l3 l4 l5 (0 : Int32) H
def f_Ledger_keptEnds_b49 (N : Nat)  (k9 : Nat → Int32 → Int32 → Int32 → Int32 → Int32 → Int32 → sh_H → Option Int32) (l1 : Nat) (l2 : Int32) (l3 : Int32) (l4 : Int32) (l5 : Int32) (l6 : Int32) (l7 : Int32) (h : sh_H) : Option Int32 := k9 l1 l2 l3 l4 l5 l6 (l7 + (1 : Int32)) h
theorem x_Ledger_keptEnds_b49 (N : Nat) {d : Nat} (hd : 5 ≤ d) (h : sh_H) {Q : ai_Q} {R : Int32 → Prop} (hR : ∀ r, R r → Q (some (aI r)) (sh_E h))  (k9 : Nat → Int32 → Int32 → Int32 → Int32 → Int32 → Int32 → sh_H → Option Int32) (hk9 : ∀ (l1 : Nat) (l2 : Int32) (l3 : Int32) (l4 : Int32) (l5 : Int32) (l6 : Int32) (l7 : Int32), sh_ok (k9 l1 l2 l3 l4 l5 l6 l7 h) R → wq_51 d Q 9 [oR 3 0, oR 9 l1, oI l2, oI l3, oI l4, oI l5, oI l6, oI l7] [] (sh_E h)) (l1 : Nat) (l2 : Int32) (l3 : Int32) (l4 : Int32) (l5 : Int32) (l6 : Int32) (l7 : Int32) (H : sh_ok (f_Ledger_keptEnds_b49 N k9 l1 l2 l3 l4 l5 l6 l7 h) R) : wq_51 d Q 49 [oR 3 0, oR 9 l1, oI l2, oI l3, oI l4, oI l5, oI l6, oI l7] [] (sh_E h) := by
  refine ai_WP_steps mc_51 (sh_CM d) 2 ?_
  exact hk9 l1 l2 l3 l4 l5 l6 (l7 + (1 : Int32)) H
def f_Ledger_keptEnds_b43 (N : Nat)  (k9 : Nat → Int32 → Int32 → Int32 → Int32 → Int32 → Int32 → sh_H → Option Int32) (l1 : Nat) (l2 : Int32) (l3 : Int32) (l4 : Int32) (l7 : Int32) (s0 : Int32) (h : sh_H) : Option Int32 := f_Ledger_keptEnds_b49 N k9 l1 l2 l3 l4 s0 l7 l7 h
theorem x_Ledger_keptEnds_b43 (N : Nat) {d : Nat} (hd : 5 ≤ d) (h : sh_H) {Q : ai_Q} {R : Int32 → Prop} (hR : ∀ r, R r → Q (some (aI r)) (sh_E h))  (k9 : Nat → Int32 → Int32 → Int32 → Int32 → Int32 → Int32 → sh_H → Option Int32) (hk9 : ∀ (l1 : Nat) (l2 : Int32) (l3 : Int32) (l4 : Int32) (l5 : Int32) (l6 : Int32) (l7 : Int32), sh_ok (k9 l1 l2 l3 l4 l5 l6 l7 h) R → wq_51 d Q 9 [oR 3 0, oR 9 l1, oI l2, oI l3, oI l4, oI l5, oI l6, oI l7] [] (sh_E h)) (l1 : Nat) (l2 : Int32) (l3 : Int32) (l4 : Int32) (l7 : Int32) (s0 : Int32) {d5 d6 : Option ai_V} (H : sh_ok (f_Ledger_keptEnds_b43 N k9 l1 l2 l3 l4 l7 s0 h) R) : wq_51 d Q 43 [oR 3 0, oR 9 l1, oI l2, oI l3, oI l4, d5, d6, oI l7] [aI s0] (sh_E h) := by
  refine ai_WP_steps mc_51 (sh_CM d) 3 ?_
  exact x_Ledger_keptEnds_b49 N hd h hR k9 hk9 l1 l2 l3 l4 s0 l7 l7 H
def f_Ledger_keptEnds_c9 (N : Nat)  (k55 : Int32 → Int32 → sh_H → Option Int32) (k9 : Nat → Int32 → Int32 → Int32 → Int32 → Int32 → Int32 → sh_H → Option Int32) (l1 : Nat) (l2 : Int32) (l3 : Int32) (l4 : Int32) (l5 : Int32) (l6 : Int32) (l7 : Int32) (h : sh_H) : Option Int32 := (if (10 : Int32) < l7 then k55 l5 l6 h else (Option.bind (f_Ledger_isNear N l1 l2 l3 l7 l4 h) (fun v1 => (if v1 = 0 then f_Ledger_keptEnds_b49 N k9 l1 l2 l3 l4 l5 l6 l7 h else (if l5 = (-1 : Int32) then f_Ledger_keptEnds_b43 N k9 l1 l2 l3 l4 l7 l7 h else f_Ledger_keptEnds_b43 N k9 l1 l2 l3 l4 l7 l5 h)))))
def f_Ledger_keptEnds_l9 (N : Nat)  (k55 : Int32 → Int32 → sh_H → Option Int32) (n : Nat) : Nat → Int32 → Int32 → Int32 → Int32 → Int32 → Int32 → sh_H → Option Int32 := Nat.rec (motive := fun _ => Nat → Int32 → Int32 → Int32 → Int32 → Int32 → Int32 → sh_H → Option Int32) (fun _ _ _ _ _ _ _ _ => none) (fun _ k9 => f_Ledger_keptEnds_c9 N k55 k9) n
theorem x_Ledger_keptEnds_l9 (N : Nat) {d : Nat} (hd : 5 ≤ d) (h : sh_H) {Q : ai_Q} {R : Int32 → Prop} (hR : ∀ r, R r → Q (some (aI r)) (sh_E h))  (k55 : Int32 → Int32 → sh_H → Option Int32) (hk55 : ∀ (l5 : Int32) (l6 : Int32) {d0 d1 d2 d3 d4 d7 : Option ai_V}, sh_ok (k55 l5 l6 h) R → wq_51 d Q 55 [d0, d1, d2, d3, d4, oI l5, oI l6, d7] [] (sh_E h)) (n : Nat) : ∀ (l1 : Nat) (l2 : Int32) (l3 : Int32) (l4 : Int32) (l5 : Int32) (l6 : Int32) (l7 : Int32), sh_ok (f_Ledger_keptEnds_l9 N k55 n l1 l2 l3 l4 l5 l6 l7 h) R → wq_51 d Q 9 [oR 3 0, oR 9 l1, oI l2, oI l3, oI l4, oI l5, oI l6, oI l7] [] (sh_E h) := by
  induction n with
  | zero => intro l1 l2 l3 l4 l5 l6 l7 H; exact H.elim
  | succ n ih =>
    intro l1 l2 l3 l4 l5 l6 l7 H
    have hk9 := @ih
    replace H : sh_ok (f_Ledger_keptEnds_c9 N k55 (f_Ledger_keptEnds_l9 N k55 n) l1 l2 l3 l4 l5 l6 l7 h) R := H
    revert hk9 H
    generalize f_Ledger_keptEnds_l9 N k55 n = k9
    intro hk9 H
    refine ai_WP_steps mc_51 (sh_CM d) 3 (And.intro (fun c => ?_) (fun c => ?_))
    · replace H := sh_okT c H
      exact hk55 l5 l6 H
    · replace H := sh_okF c H
      show wq_51 d Q 16 [oR 3 0, oR 9 l1, oI l2, oI l3, oI l4, oI l5, oI l6, oI l7] [] (sh_E h)
      refine ai_WP_steps mc_51 (sh_CM d) 7 (And.intro (Nat.le_of_ble_eq_true rfl) (x_Ledger_isNear N (Nat.le_trans (Nat.le_of_ble_eq_true rfl) hd) l1 l2 l3 l7 l4 h (sh_okB H) (fun v1 H => ?_)))
      show wq_51 d Q 27 [oR 3 0, oR 9 l1, oI l2, oI l3, oI l4, oI l5, oI l6, oI l7] [aI v1] (sh_E h)
      refine ai_WP_steps mc_51 (sh_CM d) 1 (And.intro (fun c => ?_) (fun c => ?_))
      · replace H := sh_okT c H
        exact x_Ledger_keptEnds_b49 N hd h hR k9 hk9 l1 l2 l3 l4 l5 l6 l7 H
      · replace H := sh_okF c H
        show wq_51 d Q 30 [oR 3 0, oR 9 l1, oI l2, oI l3, oI l4, oI l5, oI l6, oI l7] [] (sh_E h)
        refine ai_WP_steps mc_51 (sh_CM d) 3 (And.intro (fun c => ?_) (fun c => ?_))
        · replace H := sh_okT c H
          show wq_51 d Q 36 [oR 3 0, oR 9 l1, oI l2, oI l3, oI l4, oI l5, oI l6, oI l7] [] (sh_E h)
          refine ai_WP_steps mc_51 (sh_CM d) 2 ?_
          exact x_Ledger_keptEnds_b43 N hd h hR k9 hk9 l1 l2 l3 l4 l7 l7 H
        · replace H := sh_okF c H
          show wq_51 d Q 41 [oR 3 0, oR 9 l1, oI l2, oI l3, oI l4, oI l5, oI l6, oI l7] [] (sh_E h)
          refine ai_WP_steps mc_51 (sh_CM d) 1 ?_
          exact x_Ledger_keptEnds_b43 N hd h hR k9 hk9 l1 l2 l3 l4 l7 l5 H
def f_Ledger_keptEnds_b55 (N : Nat)   (l5 : Int32) (l6 : Int32) (h : sh_H) : Option Int32 := (if l5 = (-1 : Int32) then (some (-2 : Int32)) else (some (((100 : Int32) * l5) + l6)))
theorem x_Ledger_keptEnds_b55 (N : Nat) {d : Nat} (hd : 5 ≤ d) (h : sh_H) {Q : ai_Q} {R : Int32 → Prop} (hR : ∀ r, R r → Q (some (aI r)) (sh_E h))   (l5 : Int32) (l6 : Int32) {d0 d1 d2 d3 d4 d7 : Option ai_V} (H : sh_ok (f_Ledger_keptEnds_b55 N l5 l6 h) R) : wq_51 d Q 55 [d0, d1, d2, d3, d4, oI l5, oI l6, d7] [] (sh_E h) := by
  refine ai_WP_steps mc_51 (sh_CM d) 3 (And.intro (fun c => ?_) (fun c => ?_))
  · replace H := sh_okT c H
    show wq_51 d Q 61 [_, _, _, _, _, oI l5, oI l6, _] [] (sh_E h)
    exact ai_WP_steps mc_51 (sh_CM d) 3 (hR (-2 : Int32) H)
  · replace H := sh_okF c H
    show wq_51 d Q 66 [_, _, _, _, _, oI l5, oI l6, _] [] (sh_E h)
    exact ai_WP_steps mc_51 (sh_CM d) 6 (hR (((100 : Int32) * l5) + l6) H)
def f_Ledger_keptEnds (N : Nat)  (l1 : Nat) (l2 : Int32) (l3 : Int32) (l4 : Int32) (h : sh_H) : Option Int32 := f_Ledger_keptEnds_l9 N (f_Ledger_keptEnds_b55 N) N l1 l2 l3 l4 (-1 : Int32) (-1 : Int32) (0 : Int32) h
theorem x_Ledger_keptEnds (N : Nat) {d : Nat} (hd : 6 ≤ d) (l1 : Nat) (l2 : Int32) (l3 : Int32) (l4 : Int32) (h : sh_H) {Q : ai_Q} {R : Int32 → Prop} (H : sh_ok (f_Ledger_keptEnds N l1 l2 l3 l4 h) R) (hR : ∀ r, R r → Q (some (aI r)) (sh_E h)) : ai_Ex sh_T d 51 [aR 3 0, aR 9 l1, aI l2, aI l3, aI l4] (sh_E h) Q := by
  obtain ⟨d, rfl⟩ : ∃ e, d = e + 1 := ⟨d - 1, by omega⟩
  replace hd : 5 ≤ d := by omega
  refine And.intro (Nat.le_of_ble_eq_true rfl) ?_
  show wq_51 d Q 0 [oR 3 0, oR 9 l1, oI l2, oI l3, oI l4, none, none, none] [] (sh_E h)
  refine ai_WP_steps mc_51 (sh_CM d) 6 ?_
  exact x_Ledger_keptEnds_l9 N hd h hR (f_Ledger_keptEnds_b55 N) (fun z0 z1 {e0} {e1} {e2} {e3} {e4} {e7} H => x_Ledger_keptEnds_b55 N hd h hR z0 z1 H) N l1 l2 l3 l4 (-1 : Int32) (-1 : Int32) (0 : Int32) H
def f_Ledger_isCountable_b21    (h : sh_H) : Option Int32 := (some (ai_nar 1 (0 : Int32)))
theorem x_Ledger_isCountable_b21 {d : Nat} (hd : 0 ≤ d) (h : sh_H) {Q : ai_Q} {R : Int32 → Prop} (hR : ∀ r, R r → Q (some (aI r)) (sh_E h))    {d0 : Option ai_V} (H : sh_ok (f_Ledger_isCountable_b21 h) R) : wq_54 d Q 21 [d0] [] (sh_E h) := by
  exact ai_WP_steps mc_54 (sh_CM d) 2 (hR (ai_nar 1 (0 : Int32)) H)
def f_Ledger_isCountable   (h : sh_H) : Option Int32 := (if (h.1 3 0 4) < (1 : Int32) then f_Ledger_isCountable_b21 h else (if (60 : Int32) < (h.1 3 0 4) then f_Ledger_isCountable_b21 h else (some (ai_nar 1 (1 : Int32)))))
theorem x_Ledger_isCountable {d : Nat} (hd : 1 ≤ d)  (h : sh_H) {Q : ai_Q} {R : Int32 → Prop} (H : sh_ok (f_Ledger_isCountable h) R) (hR : ∀ r, R r → Q (some (aI r)) (sh_E h)) : ai_Ex sh_T d 54 [aR 3 0] (sh_E h) Q := by
  obtain ⟨d, rfl⟩ : ∃ e, d = e + 1 := ⟨d - 1, by omega⟩
  replace hd : 0 ≤ d := by omega
  refine And.intro (Nat.le_of_ble_eq_true rfl) ?_
  show wq_54 d Q 0 [oR 3 0] [] (sh_E h)
  refine ai_WP_steps mc_54 (sh_CM d) 4 (And.intro (fun c => ?_) (fun c => ?_))
  · replace H := sh_okT c H
    exact x_Ledger_isCountable_b21 hd h hR H
  · replace H := sh_okF c H
    show wq_54 d Q 8 [oR 3 0] [] (sh_E h)
    refine ai_WP_steps mc_54 (sh_CM d) 4 (And.intro (fun c => ?_) (fun c => ?_))
    · replace H := sh_okT c H
      exact x_Ledger_isCountable_b21 hd h hR H
    · replace H := sh_okF c H
      show wq_54 d Q 17 [oR 3 0] [] (sh_E h)
      exact ai_WP_steps mc_54 (sh_CM d) 3 (hR (ai_nar 1 (1 : Int32)) H)
def f_Ledger_seen  (l1 : Int32) (h : sh_H) : Option Int32 := (Option.bind (f_Rows_get 31 l1 (0 : Int32) h) (fun v1 => (some v1)))
theorem x_Ledger_seen {d : Nat} (hd : 3 ≤ d) (l1 : Int32) (h : sh_H) {Q : ai_Q} {R : Int32 → Prop} (H : sh_ok (f_Ledger_seen l1 h) R) (hR : ∀ r, R r → Q (some (aI r)) (sh_E h)) : ai_Ex sh_T d 55 [aR 3 0, aI l1] (sh_E h) Q := by
  obtain ⟨d, rfl⟩ : ∃ e, d = e + 1 := ⟨d - 1, by omega⟩
  replace hd : 2 ≤ d := by omega
  refine And.intro (Nat.le_of_ble_eq_true rfl) ?_
  show wq_55 d Q 0 [oR 3 0, oI l1] [] (sh_E h)
  refine ai_WP_steps mc_55 (sh_CM d) 5 (And.intro (Nat.le_of_ble_eq_true rfl) (x_Rows_get (Nat.le_trans (Nat.le_of_ble_eq_true rfl) hd) 31 l1 (0 : Int32) h (sh_okB H) (fun v1 H => ?_)))
  show wq_55 d Q 9 [oR 3 0, oI l1] [aI v1] (sh_E h)
  exact ai_WP_steps mc_55 (sh_CM d) 1 (hR v1 H)
def f_Ledger_ways_c16 (N : Nat)  (k42 : Int64 → sh_H → Option Int64) (k16 : Int32 → Int32 → Int64 → Int32 → sh_H → Option Int64) (l0 : Int32) (l1 : Int32) (l2 : Int64) (l4 : Int32) (h : sh_H) : Option Int64 := (if l1 < l4 then k42 l2 h else (if ¬ l4.toInt64 = 0 then k16 l0 l1 ((l2 * ((l0 - l4) + (1 : Int32)).toInt64) / l4.toInt64) (l4 + (1 : Int32)) h else none))
def f_Ledger_ways_l16 (N : Nat)  (k42 : Int64 → sh_H → Option Int64) (n : Nat) : Int32 → Int32 → Int64 → Int32 → sh_H → Option Int64 := Nat.rec (motive := fun _ => Int32 → Int32 → Int64 → Int32 → sh_H → Option Int64) (fun _ _ _ _ _ => none) (fun _ k16 => f_Ledger_ways_c16 N k42 k16) n
theorem x_Ledger_ways_l16 (N : Nat) {d : Nat} (hd : 0 ≤ d) (h : sh_H) {Q : ai_Q} {R : Int64 → Prop} (hR : ∀ r, R r → Q (some (aL r)) (sh_E h))  (k42 : Int64 → sh_H → Option Int64) (hk42 : ∀ (l2 : Int64) {d0 d1 d3 d4 : Option ai_V}, sh_ok (k42 l2 h) R → wq_60 d Q 42 [d0, d1, oL l2, d3, d4] [] (sh_E h)) (n : Nat) : ∀ (l0 : Int32) (l1 : Int32) (l2 : Int64) (l4 : Int32) {d3 : Option ai_V}, sh_ok (f_Ledger_ways_l16 N k42 n l0 l1 l2 l4 h) R → wq_60 d Q 16 [oI l0, oI l1, oL l2, d3, oI l4] [] (sh_E h) := by
  induction n with
  | zero => intro l0 l1 l2 l4 d3 H; exact H.elim
  | succ n ih =>
    intro l0 l1 l2 l4 d3 H
    have hk16 := @ih
    replace H : sh_ok (f_Ledger_ways_c16 N k42 (f_Ledger_ways_l16 N k42 n) l0 l1 l2 l4 h) R := H
    revert hk16 H
    generalize f_Ledger_ways_l16 N k42 n = k16
    intro hk16 H
    refine ai_WP_steps mc_60 (sh_CM d) 3 (And.intro (fun c => ?_) (fun c => ?_))
    · replace H := sh_okT c H
      exact hk42 l2 H
    · replace H := sh_okF c H
      show wq_60 d Q 22 [oI l0, oI l1, oL l2, _, oI l4] [] (sh_E h)
      have c := sh_okG H
      replace H := sh_okH H
      refine ai_WP_steps mc_60 (sh_CM d) 11 (And.intro c ?_)
      show wq_60 d Q 35 [oI l0, oI l1, oL l2, _, oI l4] [aL ((l2 * ((l0 - l4) + (1 : Int32)).toInt64) / l4.toInt64)] (sh_E h)
      refine ai_WP_steps mc_60 (sh_CM d) 3 ?_
      exact hk16 l0 l1 ((l2 * ((l0 - l4) + (1 : Int32)).toInt64) / l4.toInt64) (l4 + (1 : Int32)) H
def f_Ledger_ways_b42 (N : Nat)   (l2 : Int64) (h : sh_H) : Option Int64 := (some l2)
theorem x_Ledger_ways_b42 (N : Nat) {d : Nat} (hd : 0 ≤ d) (h : sh_H) {Q : ai_Q} {R : Int64 → Prop} (hR : ∀ r, R r → Q (some (aL r)) (sh_E h))   (l2 : Int64) {d0 d1 d3 d4 : Option ai_V} (H : sh_ok (f_Ledger_ways_b42 N l2 h) R) : wq_60 d Q 42 [d0, d1, oL l2, d3, d4] [] (sh_E h) := by
  exact ai_WP_steps mc_60 (sh_CM d) 2 (hR l2 H)
def f_Ledger_ways (N : Nat)  (l0 : Int32) (l1 : Int32) (h : sh_H) : Option Int64 := (if l1 < 0 then (some (0 : Int64)) else (if l0 < l1 then (some (0 : Int64)) else f_Ledger_ways_l16 N (f_Ledger_ways_b42 N) N l0 l1 (1 : Int64) (1 : Int32) h))
theorem x_Ledger_ways (N : Nat) {d : Nat} (hd : 1 ≤ d) (l0 : Int32) (l1 : Int32) (h : sh_H) {Q : ai_Q} {R : Int64 → Prop} (H : sh_ok (f_Ledger_ways N l0 l1 h) R) (hR : ∀ r, R r → Q (some (aL r)) (sh_E h)) : ai_Ex sh_T d 60 [aI l0, aI l1] (sh_E h) Q := by
  obtain ⟨d, rfl⟩ : ∃ e, d = e + 1 := ⟨d - 1, by omega⟩
  replace hd : 0 ≤ d := by omega
  refine And.intro (Nat.le_of_ble_eq_true rfl) ?_
  show wq_60 d Q 0 [oI l0, oI l1, none, none, none] [] (sh_E h)
  refine ai_WP_steps mc_60 (sh_CM d) 2 (And.intro (fun c => ?_) (fun c => ?_))
  · replace H := sh_okT c H
    show wq_60 d Q 9 [oI l0, oI l1, _, _, _] [] (sh_E h)
    exact ai_WP_steps mc_60 (sh_CM d) 2 (hR (0 : Int64) H)
  · replace H := sh_okF c H
    show wq_60 d Q 4 [oI l0, oI l1, _, _, _] [] (sh_E h)
    refine ai_WP_steps mc_60 (sh_CM d) 3 (And.intro (fun c => ?_) (fun c => ?_))
    · replace H := sh_okT c H
      show wq_60 d Q 9 [oI l0, oI l1, _, _, _] [] (sh_E h)
      exact ai_WP_steps mc_60 (sh_CM d) 2 (hR (0 : Int64) H)
    · replace H := sh_okF c H
      show wq_60 d Q 11 [oI l0, oI l1, _, _, _] [] (sh_E h)
      refine ai_WP_steps mc_60 (sh_CM d) 4 ?_
      exact x_Ledger_ways_l16 N hd h hR (f_Ledger_ways_b42 N) (fun z0 {e0} {e1} {e3} {e4} H => x_Ledger_ways_b42 N hd h hR z0 H) N l0 l1 (1 : Int64) (1 : Int32) H
def f_Ledger_waysOfAll (N : Nat)  (l1 : Int32) (h : sh_H) : Option Int64 := (Option.bind (f_Ledger_seen l1 h) (fun v1 => (Option.bind (f_Ledger_ways N (h.1 3 0 4) v1 h) (fun v2 => (some v2)))))
theorem x_Ledger_waysOfAll (N : Nat) {d : Nat} (hd : 4 ≤ d) (l1 : Int32) (h : sh_H) {Q : ai_Q} {R : Int64 → Prop} (H : sh_ok (f_Ledger_waysOfAll N l1 h) R) (hR : ∀ r, R r → Q (some (aL r)) (sh_E h)) : ai_Ex sh_T d 59 [aR 3 0, aI l1] (sh_E h) Q := by
  obtain ⟨d, rfl⟩ : ∃ e, d = e + 1 := ⟨d - 1, by omega⟩
  replace hd : 3 ≤ d := by omega
  refine And.intro (Nat.le_of_ble_eq_true rfl) ?_
  show wq_59 d Q 0 [oR 3 0, oI l1] [] (sh_E h)
  refine ai_WP_steps mc_59 (sh_CM d) 5 (And.intro (Nat.le_of_ble_eq_true rfl) (x_Ledger_seen (Nat.le_trans (Nat.le_of_ble_eq_true rfl) hd) l1 h (sh_okB H) (fun v1 H => ?_)))
  show wq_59 d Q 9 [oR 3 0, oI l1] [aI v1, aI (h.1 3 0 4)] (sh_E h)
  refine ai_WP_steps mc_59 (sh_CM d) 1 (And.intro (Nat.le_of_ble_eq_true rfl) (x_Ledger_ways N (Nat.le_trans (Nat.le_of_ble_eq_true rfl) hd) (h.1 3 0 4) v1 h (sh_okB H) (fun v2 H => ?_)))
  show wq_59 d Q 12 [oR 3 0, oI l1] [aL v2] (sh_E h)
  exact ai_WP_steps mc_59 (sh_CM d) 1 (hR v2 H)
def f_Ledger_waysOfMore_c19 (N : Nat)  (k63 : Int64 → sh_H → Option Int64) (k19 : Int32 → Int64 → Int32 → sh_H → Option Int64) (l2 : Int32) (l3 : Int64) (l5 : Int32) (h : sh_H) : Option Int64 := (if (h.1 3 0 5) < l5 then k63 l3 h else (Option.bind (f_Ledger_ways N (h.1 3 0 5) l5 h) (fun v1 => (Option.bind (f_Ledger_ways N ((h.1 3 0 4) - (h.1 3 0 5)) (l2 - l5) h) (fun v2 => k19 l2 (l3 + (v1 * v2)) (l5 + (1 : Int32)) h)))))
def f_Ledger_waysOfMore_l19 (N : Nat)  (k63 : Int64 → sh_H → Option Int64) (n : Nat) : Int32 → Int64 → Int32 → sh_H → Option Int64 := Nat.rec (motive := fun _ => Int32 → Int64 → Int32 → sh_H → Option Int64) (fun _ _ _ _ => none) (fun _ k19 => f_Ledger_waysOfMore_c19 N k63 k19) n
theorem x_Ledger_waysOfMore_l19 (N : Nat) {d : Nat} (hd : 3 ≤ d) (h : sh_H) {Q : ai_Q} {R : Int64 → Prop} (hR : ∀ r, R r → Q (some (aL r)) (sh_E h))  (k63 : Int64 → sh_H → Option Int64) (hk63 : ∀ (l3 : Int64) {d0 d1 d2 d4 d5 : Option ai_V}, sh_ok (k63 l3 h) R → wq_58 d Q 63 [d0, d1, d2, oL l3, d4, d5] [] (sh_E h)) (n : Nat) : ∀ (l2 : Int32) (l3 : Int64) (l5 : Int32) {d1 d4 : Option ai_V}, sh_ok (f_Ledger_waysOfMore_l19 N k63 n l2 l3 l5 h) R → wq_58 d Q 19 [oR 3 0, d1, oI l2, oL l3, d4, oI l5] [] (sh_E h) := by
  induction n with
  | zero => intro l2 l3 l5 d1 d4 H; exact H.elim
  | succ n ih =>
    intro l2 l3 l5 d1 d4 H
    have hk19 := @ih
    replace H : sh_ok (f_Ledger_waysOfMore_c19 N k63 (f_Ledger_waysOfMore_l19 N k63 n) l2 l3 l5 h) R := H
    revert hk19 H
    generalize f_Ledger_waysOfMore_l19 N k63 n = k19
    intro hk19 H
    refine ai_WP_steps mc_58 (sh_CM d) 4 (And.intro (fun c => ?_) (fun c => ?_))
    · replace H := sh_okT c H
      exact hk63 l3 H
    · replace H := sh_okF c H
      show wq_58 d Q 28 [oR 3 0, _, oI l2, oL l3, _, oI l5] [] (sh_E h)
      refine ai_WP_steps mc_58 (sh_CM d) 5 (And.intro (Nat.le_of_ble_eq_true rfl) (x_Ledger_ways N (Nat.le_trans (Nat.le_of_ble_eq_true rfl) hd) (h.1 3 0 5) l5 h (sh_okB H) (fun v1 H => ?_)))
      show wq_58 d Q 38 [oR 3 0, _, oI l2, oL l3, _, oI l5] [aL v1, aL l3] (sh_E h)
      refine ai_WP_steps mc_58 (sh_CM d) 9 (And.intro (Nat.le_of_ble_eq_true rfl) (x_Ledger_ways N (Nat.le_trans (Nat.le_of_ble_eq_true rfl) hd) ((h.1 3 0 4) - (h.1 3 0 5)) (l2 - l5) h (sh_okB H) (fun v2 H => ?_)))
      show wq_58 d Q 54 [oR 3 0, _, oI l2, oL l3, _, oI l5] [aL v2, aL v1, aL l3] (sh_E h)
      refine ai_WP_steps mc_58 (sh_CM d) 5 ?_
      exact hk19 l2 (l3 + (v1 * v2)) (l5 + (1 : Int32)) H
def f_Ledger_waysOfMore_b63 (N : Nat)   (l3 : Int64) (h : sh_H) : Option Int64 := (some l3)
theorem x_Ledger_waysOfMore_b63 (N : Nat) {d : Nat} (hd : 3 ≤ d) (h : sh_H) {Q : ai_Q} {R : Int64 → Prop} (hR : ∀ r, R r → Q (some (aL r)) (sh_E h))   (l3 : Int64) {d0 d1 d2 d4 d5 : Option ai_V} (H : sh_ok (f_Ledger_waysOfMore_b63 N l3 h) R) : wq_58 d Q 63 [d0, d1, d2, oL l3, d4, d5] [] (sh_E h) := by
  exact ai_WP_steps mc_58 (sh_CM d) 2 (hR l3 H)
def f_Ledger_waysOfMore (N : Nat)  (l1 : Int32) (h : sh_H) : Option Int64 := (Option.bind (f_Ledger_seen l1 h) (fun v3 => (Option.bind (f_Rows_get 31 l1 (1 : Int32) h) (fun v4 => f_Ledger_waysOfMore_l19 N (f_Ledger_waysOfMore_b63 N) N v3 (0 : Int64) v4 h))))
theorem x_Ledger_waysOfMore (N : Nat) {d : Nat} (hd : 4 ≤ d) (l1 : Int32) (h : sh_H) {Q : ai_Q} {R : Int64 → Prop} (H : sh_ok (f_Ledger_waysOfMore N l1 h) R) (hR : ∀ r, R r → Q (some (aL r)) (sh_E h)) : ai_Ex sh_T d 58 [aR 3 0, aI l1] (sh_E h) Q := by
  obtain ⟨d, rfl⟩ : ∃ e, d = e + 1 := ⟨d - 1, by omega⟩
  replace hd : 3 ≤ d := by omega
  refine And.intro (Nat.le_of_ble_eq_true rfl) ?_
  show wq_58 d Q 0 [oR 3 0, oI l1, none, none, none, none] [] (sh_E h)
  refine ai_WP_steps mc_58 (sh_CM d) 3 (And.intro (Nat.le_of_ble_eq_true rfl) (x_Ledger_seen (Nat.le_trans (Nat.le_of_ble_eq_true rfl) hd) l1 h (sh_okB H) (fun v3 H => ?_)))
  show wq_58 d Q 5 [oR 3 0, oI l1, _, _, _, _] [aI v3] (sh_E h)
  refine ai_WP_steps mc_58 (sh_CM d) 8 (And.intro (Nat.le_of_ble_eq_true rfl) (x_Rows_get (Nat.le_trans (Nat.le_of_ble_eq_true rfl) hd) 31 l1 (1 : Int32) h (sh_okB H) (fun v4 H => ?_)))
  show wq_58 d Q 17 [oR 3 0, oI l1, oI v3, oL (0 : Int64), _, _] [aI v4] (sh_E h)
  refine ai_WP_steps mc_58 (sh_CM d) 1 ?_
  exact x_Ledger_waysOfMore_l19 N hd h hR (f_Ledger_waysOfMore_b63 N) (fun z0 {e0} {e1} {e2} {e4} {e5} H => x_Ledger_waysOfMore_b63 N hd h hR z0 H) N v3 (0 : Int64) v4 H
def f_Ledger_isLessLuck_b144 (N : Nat)  (k33 : Int64 → Int64 → Int64 → Int64 → Int32 → Int32 → sh_H → Option Int32) (l3 : Int64) (l5 : Int64) (l7 : Int64) (l9 : Int64) (l12 : Int32) (s0 : Int32) (h : sh_H) : Option Int32 := k33 l3 l5 l7 l9 s0 (l12 + (1 : Int32)) h
theorem x_Ledger_isLessLuck_b144 (N : Nat) {d : Nat} (hd : 4 ≤ d) (h : sh_H) {Q : ai_Q} {R : Int32 → Prop} (hR : ∀ r, R r → Q (some (aI r)) (sh_E h))  (k33 : Int64 → Int64 → Int64 → Int64 → Int32 → Int32 → sh_H → Option Int32) (hk33 : ∀ (l3 : Int64) (l5 : Int64) (l7 : Int64) (l9 : Int64) (l11 : Int32) (l12 : Int32) {d0 d1 d2 d4 d6 d8 d10 d13 d14 d15 d16 d17 d18 d19 d20 : Option ai_V}, sh_ok (k33 l3 l5 l7 l9 l11 l12 h) R → wq_57 d Q 33 [d0, d1, d2, oL l3, d4, oL l5, d6, oL l7, d8, oL l9, d10, oI l11, oI l12, d13, d14, d15, d16, d17, d18, d19, d20] [] (sh_E h)) (l3 : Int64) (l5 : Int64) (l7 : Int64) (l9 : Int64) (l12 : Int32) (s0 : Int32) {d0 d1 d2 d4 d6 d8 d10 d11 d13 d14 d15 d16 d17 d18 d19 d20 : Option ai_V} (H : sh_ok (f_Ledger_isLessLuck_b144 N k33 l3 l5 l7 l9 l12 s0 h) R) : wq_57 d Q 144 [d0, d1, d2, oL l3, d4, oL l5, d6, oL l7, d8, oL l9, d10, d11, oI l12, d13, d14, d15, d16, d17, d18, d19, d20] [aI s0] (sh_E h) := by
  refine ai_WP_steps mc_57 (sh_CM d) 3 ?_
  exact hk33 l3 l5 l7 l9 s0 (l12 + (1 : Int32)) H
def f_Ledger_isLessLuck_c33 (N : Nat)  (k76 : Int32 → Int64 → Int64 → sh_H → Option Int32) (k152 : Int64 → Int64 → Int32 → sh_H → Option Int32) (k33 : Int64 → Int64 → Int64 → Int64 → Int32 → Int32 → sh_H → Option Int32) (l3 : Int64) (l5 : Int64) (l7 : Int64) (l9 : Int64) (l11 : Int32) (l12 : Int32) (h : sh_H) : Option Int32 := (if l12 < (1000 : Int32) then (if 0 < (lg_cmp l5 (0 : Int64)) then (if 0 < (lg_cmp l9 (0 : Int64)) then (if ¬ l5 = 0 then (if ¬ l9 = 0 then (if (lg_cmp (l3 / l5) (l7 / l9)) = 0 then (if l11 = 0 then f_Ledger_isLessLuck_b144 N k33 l5 (l3 - ((l3 / l5) * l5)) l9 (l7 - ((l7 / l9) * l9)) l12 (1 : Int32) h else f_Ledger_isLessLuck_b144 N k33 l5 (l3 - ((l3 / l5) * l5)) l9 (l7 - ((l7 / l9) * l9)) l12 (0 : Int32) h) else k76 l11 (l3 / l5) (l7 / l9) h) else none) else none) else k152 l5 l9 l11 h) else k152 l5 l9 l11 h) else k152 l5 l9 l11 h)
def f_Ledger_isLessLuck_l33 (N : Nat)  (k76 : Int32 → Int64 → Int64 → sh_H → Option Int32) (k152 : Int64 → Int64 → Int32 → sh_H → Option Int32) (n : Nat) : Int64 → Int64 → Int64 → Int64 → Int32 → Int32 → sh_H → Option Int32 := Nat.rec (motive := fun _ => Int64 → Int64 → Int64 → Int64 → Int32 → Int32 → sh_H → Option Int32) (fun _ _ _ _ _ _ _ => none) (fun _ k33 => f_Ledger_isLessLuck_c33 N k76 k152 k33) n
theorem x_Ledger_isLessLuck_l33 (N : Nat) {d : Nat} (hd : 4 ≤ d) (h : sh_H) {Q : ai_Q} {R : Int32 → Prop} (hR : ∀ r, R r → Q (some (aI r)) (sh_E h))  (k76 : Int32 → Int64 → Int64 → sh_H → Option Int32) (hk76 : ∀ (l11 : Int32) (l13 : Int64) (l15 : Int64) {d0 d1 d2 d3 d4 d5 d6 d7 d8 d9 d10 d12 d14 d16 d17 d18 d19 d20 : Option ai_V}, sh_ok (k76 l11 l13 l15 h) R → wq_57 d Q 76 [d0, d1, d2, d3, d4, d5, d6, d7, d8, d9, d10, oI l11, d12, oL l13, d14, oL l15, d16, d17, d18, d19, d20] [] (sh_E h)) (k152 : Int64 → Int64 → Int32 → sh_H → Option Int32) (hk152 : ∀ (l5 : Int64) (l9 : Int64) (l11 : Int32) {d0 d1 d2 d3 d4 d6 d7 d8 d10 d12 d13 d14 d15 d16 d17 d18 d19 d20 : Option ai_V}, sh_ok (k152 l5 l9 l11 h) R → wq_57 d Q 152 [d0, d1, d2, d3, d4, oL l5, d6, d7, d8, oL l9, d10, oI l11, d12, d13, d14, d15, d16, d17, d18, d19, d20] [] (sh_E h)) (n : Nat) : ∀ (l3 : Int64) (l5 : Int64) (l7 : Int64) (l9 : Int64) (l11 : Int32) (l12 : Int32) {d0 d1 d2 d4 d6 d8 d10 d13 d14 d15 d16 d17 d18 d19 d20 : Option ai_V}, sh_ok (f_Ledger_isLessLuck_l33 N k76 k152 n l3 l5 l7 l9 l11 l12 h) R → wq_57 d Q 33 [d0, d1, d2, oL l3, d4, oL l5, d6, oL l7, d8, oL l9, d10, oI l11, oI l12, d13, d14, d15, d16, d17, d18, d19, d20] [] (sh_E h) := by
  induction n with
  | zero => intro l3 l5 l7 l9 l11 l12 d0 d1 d2 d4 d6 d8 d10 d13 d14 d15 d16 d17 d18 d19 d20 H; exact H.elim
  | succ n ih =>
    intro l3 l5 l7 l9 l11 l12 d0 d1 d2 d4 d6 d8 d10 d13 d14 d15 d16 d17 d18 d19 d20 H
    have hk33 := @ih
    replace H : sh_ok (f_Ledger_isLessLuck_c33 N k76 k152 (f_Ledger_isLessLuck_l33 N k76 k152 n) l3 l5 l7 l9 l11 l12 h) R := H
    revert hk33 H
    generalize f_Ledger_isLessLuck_l33 N k76 k152 n = k33
    intro hk33 H
    refine ai_WP_steps mc_57 (sh_CM d) 3 (And.intro (fun c => ?_) (fun c => ?_))
    · replace H := sh_okT c H
      show wq_57 d Q 41 [_, _, _, oL l3, _, oL l5, _, oL l7, _, oL l9, _, oI l11, oI l12, _, _, _, _, _, _, _, _] [] (sh_E h)
      refine ai_WP_steps mc_57 (sh_CM d) 4 (And.intro (fun c => ?_) (fun c => ?_))
      · replace H := sh_okT c H
        show wq_57 d Q 48 [_, _, _, oL l3, _, oL l5, _, oL l7, _, oL l9, _, oI l11, oI l12, _, _, _, _, _, _, _, _] [] (sh_E h)
        refine ai_WP_steps mc_57 (sh_CM d) 4 (And.intro (fun c => ?_) (fun c => ?_))
        · replace H := sh_okT c H
          show wq_57 d Q 55 [_, _, _, oL l3, _, oL l5, _, oL l7, _, oL l9, _, oI l11, oI l12, _, _, _, _, _, _, _, _] [] (sh_E h)
          have c := sh_okG H
          replace H := sh_okH H
          refine ai_WP_steps mc_57 (sh_CM d) 3 (And.intro c ?_)
          show wq_57 d Q 59 [_, _, _, oL l3, _, oL l5, _, oL l7, _, oL l9, _, oI l11, oI l12, _, _, _, _, _, _, _, _] [aL (l3 / l5)] (sh_E h)
          have c := sh_okG H
          replace H := sh_okH H
          refine ai_WP_steps mc_57 (sh_CM d) 4 (And.intro c ?_)
          show wq_57 d Q 66 [_, _, _, oL l3, _, oL l5, _, oL l7, _, oL l9, _, oI l11, oI l12, oL (l3 / l5), _, _, _, _, _, _, _] [aL (l7 / l9)] (sh_E h)
          refine ai_WP_steps mc_57 (sh_CM d) 5 (And.intro (fun c => ?_) (fun c => ?_))
          · replace H := sh_okT c H
            show wq_57 d Q 100 [_, _, _, oL l3, _, oL l5, _, oL l7, _, oL l9, _, oI l11, oI l12, oL (l3 / l5), _, oL (l7 / l9), _, _, _, _, _] [] (sh_E h)
            refine ai_WP_steps mc_57 (sh_CM d) 22 (And.intro (fun c => ?_) (fun c => ?_))
            · replace H := sh_okT c H
              show wq_57 d Q 139 [_, _, _, oL l5, _, oL (l3 - ((l3 / l5) * l5)), _, oL l9, _, oL (l7 - ((l7 / l9) * l9)), _, oI l11, oI l12, oL (l3 / l5), _, oL (l7 / l9), _, oL (l3 - ((l3 / l5) * l5)), _, oL (l7 - ((l7 / l9) * l9)), _] [] (sh_E h)
              refine ai_WP_steps mc_57 (sh_CM d) 2 ?_
              exact x_Ledger_isLessLuck_b144 N hd h hR k33 hk33 l5 (l3 - ((l3 / l5) * l5)) l9 (l7 - ((l7 / l9) * l9)) l12 (1 : Int32) H
            · replace H := sh_okF c H
              show wq_57 d Q 143 [_, _, _, oL l5, _, oL (l3 - ((l3 / l5) * l5)), _, oL l9, _, oL (l7 - ((l7 / l9) * l9)), _, oI l11, oI l12, oL (l3 / l5), _, oL (l7 / l9), _, oL (l3 - ((l3 / l5) * l5)), _, oL (l7 - ((l7 / l9) * l9)), _] [] (sh_E h)
              refine ai_WP_steps mc_57 (sh_CM d) 1 ?_
              exact x_Ledger_isLessLuck_b144 N hd h hR k33 hk33 l5 (l3 - ((l3 / l5) * l5)) l9 (l7 - ((l7 / l9) * l9)) l12 (0 : Int32) H
          · replace H := sh_okF c H
            exact hk76 l11 (l3 / l5) (l7 / l9) H
        · replace H := sh_okF c H
          exact hk152 l5 l9 l11 H
      · replace H := sh_okF c H
        exact hk152 l5 l9 l11 H
    · replace H := sh_okF c H
      exact hk152 l5 l9 l11 H
def f_Ledger_isLessLuck_b91 (N : Nat)   (s0 : Int32) (s1 : Int32) (h : sh_H) : Option Int32 := (if s0 = s1 then (some (ai_nar 1 (1 : Int32))) else (some (ai_nar 1 (0 : Int32))))
theorem x_Ledger_isLessLuck_b91 (N : Nat) {d : Nat} (hd : 4 ≤ d) (h : sh_H) {Q : ai_Q} {R : Int32 → Prop} (hR : ∀ r, R r → Q (some (aI r)) (sh_E h))   (s0 : Int32) (s1 : Int32) {d0 d1 d2 d3 d4 d5 d6 d7 d8 d9 d10 d11 d12 d13 d14 d15 d16 d17 d18 d19 d20 : Option ai_V} (H : sh_ok (f_Ledger_isLessLuck_b91 N s0 s1 h) R) : wq_57 d Q 91 [d0, d1, d2, d3, d4, d5, d6, d7, d8, d9, d10, d11, d12, d13, d14, d15, d16, d17, d18, d19, d20] [aI s1, aI s0] (sh_E h) := by
  refine ai_WP_steps mc_57 (sh_CM d) 1 (And.intro (fun c => ?_) (fun c => ?_))
  · replace H := sh_okT c H
    show wq_57 d Q 94 [_, _, _, _, _, _, _, _, _, _, _, _, _, _, _, _, _, _, _, _, _] [] (sh_E h)
    exact ai_WP_steps mc_57 (sh_CM d) 3 (hR (ai_nar 1 (1 : Int32)) H)
  · replace H := sh_okF c H
    show wq_57 d Q 98 [_, _, _, _, _, _, _, _, _, _, _, _, _, _, _, _, _, _, _, _, _] [] (sh_E h)
    exact ai_WP_steps mc_57 (sh_CM d) 2 (hR (ai_nar 1 (0 : Int32)) H)
def f_Ledger_isLessLuck_b76 (N : Nat)   (l11 : Int32) (l13 : Int64) (l15 : Int64) (h : sh_H) : Option Int32 := (if (lg_cmp l13 l15) < 0 then f_Ledger_isLessLuck_b91 N l11 (1 : Int32) h else f_Ledger_isLessLuck_b91 N l11 (0 : Int32) h)
theorem x_Ledger_isLessLuck_b76 (N : Nat) {d : Nat} (hd : 4 ≤ d) (h : sh_H) {Q : ai_Q} {R : Int32 → Prop} (hR : ∀ r, R r → Q (some (aI r)) (sh_E h))   (l11 : Int32) (l13 : Int64) (l15 : Int64) {d0 d1 d2 d3 d4 d5 d6 d7 d8 d9 d10 d12 d14 d16 d17 d18 d19 d20 : Option ai_V} (H : sh_ok (f_Ledger_isLessLuck_b76 N l11 l13 l15 h) R) : wq_57 d Q 76 [d0, d1, d2, d3, d4, d5, d6, d7, d8, d9, d10, oI l11, d12, oL l13, d14, oL l15, d16, d17, d18, d19, d20] [] (sh_E h) := by
  refine ai_WP_steps mc_57 (sh_CM d) 5 (And.intro (fun c => ?_) (fun c => ?_))
  · replace H := sh_okT c H
    show wq_57 d Q 86 [_, _, _, _, _, _, _, _, _, _, _, oI l11, _, oL l13, _, oL l15, _, _, _, _, _] [aI l11] (sh_E h)
    refine ai_WP_steps mc_57 (sh_CM d) 2 ?_
    exact x_Ledger_isLessLuck_b91 N hd h hR l11 (1 : Int32) H
  · replace H := sh_okF c H
    show wq_57 d Q 90 [_, _, _, _, _, _, _, _, _, _, _, oI l11, _, oL l13, _, oL l15, _, _, _, _, _] [aI l11] (sh_E h)
    refine ai_WP_steps mc_57 (sh_CM d) 1 ?_
    exact x_Ledger_isLessLuck_b91 N hd h hR l11 (0 : Int32) H
def f_Ledger_isLessLuck_b182 (N : Nat)   (s0 : Int32) (s1 : Int32) (h : sh_H) : Option Int32 := (if s0 = s1 then (some (ai_nar 1 (1 : Int32))) else (some (ai_nar 1 (0 : Int32))))
theorem x_Ledger_isLessLuck_b182 (N : Nat) {d : Nat} (hd : 4 ≤ d) (h : sh_H) {Q : ai_Q} {R : Int32 → Prop} (hR : ∀ r, R r → Q (some (aI r)) (sh_E h))   (s0 : Int32) (s1 : Int32) {d0 d1 d2 d3 d4 d5 d6 d7 d8 d9 d10 d11 d12 d13 d14 d15 d16 d17 d18 d19 d20 : Option ai_V} (H : sh_ok (f_Ledger_isLessLuck_b182 N s0 s1 h) R) : wq_57 d Q 182 [d0, d1, d2, d3, d4, d5, d6, d7, d8, d9, d10, d11, d12, d13, d14, d15, d16, d17, d18, d19, d20] [aI s1, aI s0] (sh_E h) := by
  refine ai_WP_steps mc_57 (sh_CM d) 1 (And.intro (fun c => ?_) (fun c => ?_))
  · replace H := sh_okT c H
    show wq_57 d Q 185 [_, _, _, _, _, _, _, _, _, _, _, _, _, _, _, _, _, _, _, _, _] [] (sh_E h)
    exact ai_WP_steps mc_57 (sh_CM d) 3 (hR (ai_nar 1 (1 : Int32)) H)
  · replace H := sh_okF c H
    show wq_57 d Q 189 [_, _, _, _, _, _, _, _, _, _, _, _, _, _, _, _, _, _, _, _, _] [] (sh_E h)
    exact ai_WP_steps mc_57 (sh_CM d) 2 (hR (ai_nar 1 (0 : Int32)) H)
def f_Ledger_isLessLuck_b168 (N : Nat)   (l9 : Int64) (l11 : Int32) (h : sh_H) : Option Int32 := (if 0 < (lg_cmp l9 (0 : Int64)) then f_Ledger_isLessLuck_b182 N l11 (0 : Int32) h else f_Ledger_isLessLuck_b182 N l11 (1 : Int32) h)
theorem x_Ledger_isLessLuck_b168 (N : Nat) {d : Nat} (hd : 4 ≤ d) (h : sh_H) {Q : ai_Q} {R : Int32 → Prop} (hR : ∀ r, R r → Q (some (aI r)) (sh_E h))   (l9 : Int64) (l11 : Int32) {d0 d1 d2 d3 d4 d5 d6 d7 d8 d10 d12 d13 d14 d15 d16 d17 d18 d19 d20 : Option ai_V} (H : sh_ok (f_Ledger_isLessLuck_b168 N l9 l11 h) R) : wq_57 d Q 168 [d0, d1, d2, d3, d4, d5, d6, d7, d8, oL l9, d10, oI l11, d12, d13, d14, d15, d16, d17, d18, d19, d20] [] (sh_E h) := by
  refine ai_WP_steps mc_57 (sh_CM d) 5 (And.intro (fun c => ?_) (fun c => ?_))
  · replace H := sh_okT c H
    show wq_57 d Q 181 [_, _, _, _, _, _, _, _, _, oL l9, _, oI l11, _, _, _, _, _, _, _, _, _] [aI l11] (sh_E h)
    refine ai_WP_steps mc_57 (sh_CM d) 1 ?_
    exact x_Ledger_isLessLuck_b182 N hd h hR l11 (0 : Int32) H
  · replace H := sh_okF c H
    show wq_57 d Q 177 [_, _, _, _, _, _, _, _, _, oL l9, _, oI l11, _, _, _, _, _, _, _, _, _] [aI l11] (sh_E h)
    refine ai_WP_steps mc_57 (sh_CM d) 2 ?_
    exact x_Ledger_isLessLuck_b182 N hd h hR l11 (1 : Int32) H
def f_Ledger_isLessLuck_b152 (N : Nat)   (l5 : Int64) (l9 : Int64) (l11 : Int32) (h : sh_H) : Option Int32 := (if 0 < (lg_cmp l5 (0 : Int64)) then f_Ledger_isLessLuck_b168 N l9 l11 h else (if 0 < (lg_cmp l9 (0 : Int64)) then f_Ledger_isLessLuck_b168 N l9 l11 h else (some (ai_nar 1 (0 : Int32)))))
theorem x_Ledger_isLessLuck_b152 (N : Nat) {d : Nat} (hd : 4 ≤ d) (h : sh_H) {Q : ai_Q} {R : Int32 → Prop} (hR : ∀ r, R r → Q (some (aI r)) (sh_E h))   (l5 : Int64) (l9 : Int64) (l11 : Int32) {d0 d1 d2 d3 d4 d6 d7 d8 d10 d12 d13 d14 d15 d16 d17 d18 d19 d20 : Option ai_V} (H : sh_ok (f_Ledger_isLessLuck_b152 N l5 l9 l11 h) R) : wq_57 d Q 152 [d0, d1, d2, d3, d4, oL l5, d6, d7, d8, oL l9, d10, oI l11, d12, d13, d14, d15, d16, d17, d18, d19, d20] [] (sh_E h) := by
  refine ai_WP_steps mc_57 (sh_CM d) 4 (And.intro (fun c => ?_) (fun c => ?_))
  · replace H := sh_okT c H
    exact x_Ledger_isLessLuck_b168 N hd h hR l9 l11 H
  · replace H := sh_okF c H
    show wq_57 d Q 159 [_, _, _, _, _, oL l5, _, _, _, oL l9, _, oI l11, _, _, _, _, _, _, _, _, _] [] (sh_E h)
    refine ai_WP_steps mc_57 (sh_CM d) 4 (And.intro (fun c => ?_) (fun c => ?_))
    · replace H := sh_okT c H
      exact x_Ledger_isLessLuck_b168 N hd h hR l9 l11 H
    · replace H := sh_okF c H
      show wq_57 d Q 166 [_, _, _, _, _, oL l5, _, _, _, oL l9, _, oI l11, _, _, _, _, _, _, _, _, _] [] (sh_E h)
      exact ai_WP_steps mc_57 (sh_CM d) 2 (hR (ai_nar 1 (0 : Int32)) H)
def f_Ledger_isLessLuck (N : Nat)  (l1 : Int32) (l2 : Int32) (h : sh_H) : Option Int32 := (Option.bind (f_Ledger_waysOfMore N l1 h) (fun v1 => (Option.bind (f_Ledger_waysOfAll N l1 h) (fun v2 => (Option.bind (f_Ledger_waysOfMore N l2 h) (fun v3 => (Option.bind (f_Ledger_waysOfAll N l2 h) (fun v4 => f_Ledger_isLessLuck_l33 N (f_Ledger_isLessLuck_b76 N) (f_Ledger_isLessLuck_b152 N) N v1 v2 v3 v4 (1 : Int32) (0 : Int32) h))))))))
theorem x_Ledger_isLessLuck (N : Nat) {d : Nat} (hd : 5 ≤ d) (l1 : Int32) (l2 : Int32) (h : sh_H) {Q : ai_Q} {R : Int32 → Prop} (H : sh_ok (f_Ledger_isLessLuck N l1 l2 h) R) (hR : ∀ r, R r → Q (some (aI r)) (sh_E h)) : ai_Ex sh_T d 57 [aR 3 0, aI l1, aI l2] (sh_E h) Q := by
  obtain ⟨d, rfl⟩ : ∃ e, d = e + 1 := ⟨d - 1, by omega⟩
  replace hd : 4 ≤ d := by omega
  refine And.intro (Nat.le_of_ble_eq_true rfl) ?_
  show wq_57 d Q 0 [oR 3 0, oI l1, oI l2, none, none, none, none, none, none, none, none, none, none, none, none, none, none, none, none, none, none] [] (sh_E h)
  refine ai_WP_steps mc_57 (sh_CM d) 3 (And.intro (Nat.le_of_ble_eq_true rfl) (x_Ledger_waysOfMore N (Nat.le_trans (Nat.le_of_ble_eq_true rfl) hd) l1 h (sh_okB H) (fun v1 H => ?_)))
  show wq_57 d Q 5 [oR 3 0, oI l1, oI l2, _, _, _, _, _, _, _, _, _, _, _, _, _, _, _, _, _, _] [aL v1] (sh_E h)
  refine ai_WP_steps mc_57 (sh_CM d) 4 (And.intro (Nat.le_of_ble_eq_true rfl) (x_Ledger_waysOfAll N (Nat.le_trans (Nat.le_of_ble_eq_true rfl) hd) l1 h (sh_okB H) (fun v2 H => ?_)))
  show wq_57 d Q 11 [oR 3 0, oI l1, oI l2, oL v1, _, _, _, _, _, _, _, _, _, _, _, _, _, _, _, _, _] [aL v2] (sh_E h)
  refine ai_WP_steps mc_57 (sh_CM d) 4 (And.intro (Nat.le_of_ble_eq_true rfl) (x_Ledger_waysOfMore N (Nat.le_trans (Nat.le_of_ble_eq_true rfl) hd) l2 h (sh_okB H) (fun v3 H => ?_)))
  show wq_57 d Q 18 [oR 3 0, oI l1, oI l2, oL v1, _, oL v2, _, _, _, _, _, _, _, _, _, _, _, _, _, _, _] [aL v3] (sh_E h)
  refine ai_WP_steps mc_57 (sh_CM d) 4 (And.intro (Nat.le_of_ble_eq_true rfl) (x_Ledger_waysOfAll N (Nat.le_trans (Nat.le_of_ble_eq_true rfl) hd) l2 h (sh_okB H) (fun v4 H => ?_)))
  show wq_57 d Q 25 [oR 3 0, oI l1, oI l2, oL v1, _, oL v2, _, oL v3, _, _, _, _, _, _, _, _, _, _, _, _, _] [aL v4] (sh_E h)
  refine ai_WP_steps mc_57 (sh_CM d) 5 ?_
  exact x_Ledger_isLessLuck_l33 N hd h hR (f_Ledger_isLessLuck_b76 N) (fun z0 z1 z2 {e0} {e1} {e2} {e3} {e4} {e5} {e6} {e7} {e8} {e9} {e10} {e12} {e14} {e16} {e17} {e18} {e19} {e20} H => x_Ledger_isLessLuck_b76 N hd h hR z0 z1 z2 H) (f_Ledger_isLessLuck_b152 N) (fun z0 z1 z2 {e0} {e1} {e2} {e3} {e4} {e6} {e7} {e8} {e10} {e12} {e13} {e14} {e15} {e16} {e17} {e18} {e19} {e20} H => x_Ledger_isLessLuck_b152 N hd h hR z0 z1 z2 H) N v1 v2 v3 v4 (1 : Int32) (0 : Int32) H
def f_Ledger_beyondLuck_b42 (N : Nat)  (k5 : Int32 → Int32 → Int32 → sh_H → Option Int32) (l1 : Int32) (l2 : Int32) (l3 : Int32) (h : sh_H) : Option Int32 := k5 l1 l2 (l3 + (1 : Int32)) h
theorem x_Ledger_beyondLuck_b42 (N : Nat) {d : Nat} (hd : 5 ≤ d) (h : sh_H) {Q : ai_Q} {R : Int32 → Prop} (hR : ∀ r, R r → Q (some (aI r)) (sh_E h))  (k5 : Int32 → Int32 → Int32 → sh_H → Option Int32) (hk5 : ∀ (l1 : Int32) (l2 : Int32) (l3 : Int32), sh_ok (k5 l1 l2 l3 h) R → wq_56 d Q 5 [oR 3 0, oI l1, oI l2, oI l3] [] (sh_E h)) (l1 : Int32) (l2 : Int32) (l3 : Int32) (H : sh_ok (f_Ledger_beyondLuck_b42 N k5 l1 l2 l3 h) R) : wq_56 d Q 42 [oR 3 0, oI l1, oI l2, oI l3] [] (sh_E h) := by
  refine ai_WP_steps mc_56 (sh_CM d) 2 ?_
  exact hk5 l1 l2 (l3 + (1 : Int32)) H
def f_Ledger_beyondLuck_b40 (N : Nat)  (k5 : Int32 → Int32 → Int32 → sh_H → Option Int32) (l1 : Int32) (l3 : Int32) (h : sh_H) : Option Int32 := f_Ledger_beyondLuck_b42 N k5 l1 l3 l3 h
theorem x_Ledger_beyondLuck_b40 (N : Nat) {d : Nat} (hd : 5 ≤ d) (h : sh_H) {Q : ai_Q} {R : Int32 → Prop} (hR : ∀ r, R r → Q (some (aI r)) (sh_E h))  (k5 : Int32 → Int32 → Int32 → sh_H → Option Int32) (hk5 : ∀ (l1 : Int32) (l2 : Int32) (l3 : Int32), sh_ok (k5 l1 l2 l3 h) R → wq_56 d Q 5 [oR 3 0, oI l1, oI l2, oI l3] [] (sh_E h)) (l1 : Int32) (l3 : Int32) {d2 : Option ai_V} (H : sh_ok (f_Ledger_beyondLuck_b40 N k5 l1 l3 h) R) : wq_56 d Q 40 [oR 3 0, oI l1, d2, oI l3] [] (sh_E h) := by
  refine ai_WP_steps mc_56 (sh_CM d) 2 ?_
  exact x_Ledger_beyondLuck_b42 N hd h hR k5 hk5 l1 l3 l3 H
def f_Ledger_beyondLuck_c5 (N : Nat)   (k5 : Int32 → Int32 → Int32 → sh_H → Option Int32) (l1 : Int32) (l2 : Int32) (l3 : Int32) (h : sh_H) : Option Int32 := (if l1 < l3 then (some l2) else (Option.bind (f_Ledger_isCountable h) (fun v1 => (if v1 = 0 then (some l2) else (Option.bind (f_Ledger_seen l3 h) (fun v2 => (if 0 < v2 then (if l2 = (-2 : Int32) then f_Ledger_beyondLuck_b40 N k5 l1 l3 h else (Option.bind (f_Ledger_isLessLuck N l3 l2 h) (fun v3 => (if v3 = 0 then f_Ledger_beyondLuck_b42 N k5 l1 l2 l3 h else f_Ledger_beyondLuck_b40 N k5 l1 l3 h)))) else f_Ledger_beyondLuck_b42 N k5 l1 l2 l3 h)))))))
def f_Ledger_beyondLuck_l5 (N : Nat)   (n : Nat) : Int32 → Int32 → Int32 → sh_H → Option Int32 := Nat.rec (motive := fun _ => Int32 → Int32 → Int32 → sh_H → Option Int32) (fun _ _ _ _ => none) (fun _ k5 => f_Ledger_beyondLuck_c5 N k5) n
theorem x_Ledger_beyondLuck_l5 (N : Nat) {d : Nat} (hd : 5 ≤ d) (h : sh_H) {Q : ai_Q} {R : Int32 → Prop} (hR : ∀ r, R r → Q (some (aI r)) (sh_E h))   (n : Nat) : ∀ (l1 : Int32) (l2 : Int32) (l3 : Int32), sh_ok (f_Ledger_beyondLuck_l5 N n l1 l2 l3 h) R → wq_56 d Q 5 [oR 3 0, oI l1, oI l2, oI l3] [] (sh_E h) := by
  induction n with
  | zero => intro l1 l2 l3 H; exact H.elim
  | succ n ih =>
    intro l1 l2 l3 H
    have hk5 := @ih
    replace H : sh_ok (f_Ledger_beyondLuck_c5 N (f_Ledger_beyondLuck_l5 N n) l1 l2 l3 h) R := H
    revert hk5 H
    generalize f_Ledger_beyondLuck_l5 N n = k5
    intro hk5 H
    refine ai_WP_steps mc_56 (sh_CM d) 3 (And.intro (fun c => ?_) (fun c => ?_))
    · replace H := sh_okT c H
      show wq_56 d Q 48 [oR 3 0, oI l1, oI l2, oI l3] [] (sh_E h)
      exact ai_WP_steps mc_56 (sh_CM d) 2 (hR l2 H)
    · replace H := sh_okF c H
      show wq_56 d Q 10 [oR 3 0, oI l1, oI l2, oI l3] [] (sh_E h)
      refine ai_WP_steps mc_56 (sh_CM d) 2 (And.intro (Nat.le_of_ble_eq_true rfl) (x_Ledger_isCountable (Nat.le_trans (Nat.le_of_ble_eq_true rfl) hd) h (sh_okB H) (fun v1 H => ?_)))
      show wq_56 d Q 14 [oR 3 0, oI l1, oI l2, oI l3] [aI v1] (sh_E h)
      refine ai_WP_steps mc_56 (sh_CM d) 1 (And.intro (fun c => ?_) (fun c => ?_))
      · replace H := sh_okT c H
        show wq_56 d Q 48 [oR 3 0, oI l1, oI l2, oI l3] [] (sh_E h)
        exact ai_WP_steps mc_56 (sh_CM d) 2 (hR l2 H)
      · replace H := sh_okF c H
        show wq_56 d Q 17 [oR 3 0, oI l1, oI l2, oI l3] [] (sh_E h)
        refine ai_WP_steps mc_56 (sh_CM d) 3 (And.intro (Nat.le_of_ble_eq_true rfl) (x_Ledger_seen (Nat.le_trans (Nat.le_of_ble_eq_true rfl) hd) l3 h (sh_okB H) (fun v2 H => ?_)))
        show wq_56 d Q 22 [oR 3 0, oI l1, oI l2, oI l3] [aI v2] (sh_E h)
        refine ai_WP_steps mc_56 (sh_CM d) 1 (And.intro (fun c => ?_) (fun c => ?_))
        · replace H := sh_okT c H
          show wq_56 d Q 25 [oR 3 0, oI l1, oI l2, oI l3] [] (sh_E h)
          refine ai_WP_steps mc_56 (sh_CM d) 3 (And.intro (fun c => ?_) (fun c => ?_))
          · replace H := sh_okT c H
            exact x_Ledger_beyondLuck_b40 N hd h hR k5 hk5 l1 l3 H
          · replace H := sh_okF c H
            show wq_56 d Q 31 [oR 3 0, oI l1, oI l2, oI l3] [] (sh_E h)
            refine ai_WP_steps mc_56 (sh_CM d) 4 (And.intro (Nat.le_of_ble_eq_true rfl) (x_Ledger_isLessLuck N (Nat.le_trans (Nat.le_of_ble_eq_true rfl) hd) l3 l2 h (sh_okB H) (fun v3 H => ?_)))
            show wq_56 d Q 37 [oR 3 0, oI l1, oI l2, oI l3] [aI v3] (sh_E h)
            refine ai_WP_steps mc_56 (sh_CM d) 1 (And.intro (fun c => ?_) (fun c => ?_))
            · replace H := sh_okT c H
              exact x_Ledger_beyondLuck_b42 N hd h hR k5 hk5 l1 l2 l3 H
            · replace H := sh_okF c H
              exact x_Ledger_beyondLuck_b40 N hd h hR k5 hk5 l1 l3 H
        · replace H := sh_okF c H
          exact x_Ledger_beyondLuck_b42 N hd h hR k5 hk5 l1 l2 l3 H
def f_Ledger_beyondLuck (N : Nat)  (l1 : Int32) (h : sh_H) : Option Int32 := f_Ledger_beyondLuck_l5 N N l1 (-2 : Int32) (1 : Int32) h
theorem x_Ledger_beyondLuck (N : Nat) {d : Nat} (hd : 6 ≤ d) (l1 : Int32) (h : sh_H) {Q : ai_Q} {R : Int32 → Prop} (H : sh_ok (f_Ledger_beyondLuck N l1 h) R) (hR : ∀ r, R r → Q (some (aI r)) (sh_E h)) : ai_Ex sh_T d 56 [aR 3 0, aI l1] (sh_E h) Q := by
  obtain ⟨d, rfl⟩ : ∃ e, d = e + 1 := ⟨d - 1, by omega⟩
  replace hd : 5 ≤ d := by omega
  refine And.intro (Nat.le_of_ble_eq_true rfl) ?_
  show wq_56 d Q 0 [oR 3 0, oI l1, none, none] [] (sh_E h)
  refine ai_WP_steps mc_56 (sh_CM d) 4 ?_
  exact x_Ledger_beyondLuck_l5 N hd h hR N l1 (-2 : Int32) (1 : Int32) H
def f_Pieces_clear (N : Nat)  (l0 : Nat) (h : sh_H) : Option sh_H := (Option.bind (f_Rows_zero N (sh_pr l0) h) (fun h1 => (some h1)))
theorem x_Pieces_clear (N : Nat) {d : Nat} (hd : 2 ≤ d) (l0 : Nat) (h : sh_H) {Q : ai_Q} {R : sh_H → Prop} (H : sh_ok (f_Pieces_clear N l0 h) R) (hR : ∀ h, R h → Q none (sh_E h)) : ai_Ex sh_T d 67 [aR 4 l0] (sh_E h) Q := by
  obtain ⟨d, rfl⟩ : ∃ e, d = e + 1 := ⟨d - 1, by omega⟩
  replace hd : 1 ≤ d := by omega
  refine And.intro (Nat.le_of_ble_eq_true rfl) ?_
  show wq_67 d Q 0 [oR 4 l0] [] (sh_E h)
  refine ai_WP_steps mc_67 (sh_CM d) 3 (And.intro (Nat.le_of_ble_eq_true rfl) (x_Rows_zero N (Nat.le_trans (Nat.le_of_ble_eq_true rfl) hd) (sh_pr l0) h (sh_okB H) (fun h1 H => ?_)))
  show wq_67 d Q 7 [oR 4 l0] [] (sh_E h1)
  exact ai_WP_steps mc_67 (sh_CM d) 1 (hR h1 H)
def f_Reader_clearNames_c2 (N : Nat)   (k2 : Nat → Int32 → sh_H → Option sh_H) (l0 : Nat) (l1 : Int32) (h : sh_H) : Option sh_H := (if l1 < (Int32.ofNat (sh_l14 l0)) then (if ai_in l1 (sh_l14 l0) then (sh_let (sh_pJ h 14 l0 l1.toNatClampNeg (0 : Int64)) (fun h1 => k2 l0 (l1 + (1 : Int32)) h1)) else none) else (some h))
def f_Reader_clearNames_l2 (N : Nat)   (n : Nat) : Nat → Int32 → sh_H → Option sh_H := Nat.rec (motive := fun _ => Nat → Int32 → sh_H → Option sh_H) (fun _ _ _ => none) (fun _ k2 => f_Reader_clearNames_c2 N k2) n
theorem x_Reader_clearNames_l2 (N : Nat) {d : Nat} (hd : 0 ≤ d) {Q : ai_Q} {R : sh_H → Prop} (hR : ∀ h, R h → Q none (sh_E h))   (n : Nat) : ∀ (l0 : Nat) (l1 : Int32) (h : sh_H), sh_ok (f_Reader_clearNames_l2 N n l0 l1 h) R → wq_72 d Q 2 [oR 14 l0, oI l1] [] (sh_E h) := by
  induction n with
  | zero => intro l0 l1 h H; exact H.elim
  | succ n ih =>
    intro l0 l1 h H
    have hk2 := @ih
    replace H : sh_ok (f_Reader_clearNames_c2 N (f_Reader_clearNames_l2 N n) l0 l1 h) R := H
    revert hk2 H
    generalize f_Reader_clearNames_l2 N n = k2
    intro hk2 H
    refine ai_WP_steps mc_72 (sh_CM d) 4 (And.intro (fun c => ?_) (fun c => ?_))
    · replace H := sh_okT c H
      show wq_72 d Q 8 [oR 14 l0, oI l1] [] (sh_E h)
      have c := sh_okG H
      replace H := sh_okH H
      refine ai_WP_steps mc_72 (sh_CM d) 4 (And.intro c ?_)
      show wq_72 d Q 12 [oR 14 l0, oI l1] [] (sh_E (sh_pJ h 14 l0 l1.toNatClampNeg (0 : Int64)))
      replace H := sh_okL H
      generalize sh_pJ h 14 l0 l1.toNatClampNeg (0 : Int64) = h1 at H ⊢
      refine ai_WP_steps mc_72 (sh_CM d) 2 ?_
      exact hk2 l0 (l1 + (1 : Int32)) h1 H
    · replace H := sh_okF c H
      show wq_72 d Q 18 [oR 14 l0, oI l1] [] (sh_E h)
      exact ai_WP_steps mc_72 (sh_CM d) 1 (hR h H)
def f_Reader_clearNames (N : Nat)  (l0 : Nat) (h : sh_H) : Option sh_H := f_Reader_clearNames_l2 N N l0 (0 : Int32) h
theorem x_Reader_clearNames (N : Nat) {d : Nat} (hd : 1 ≤ d) (l0 : Nat) (h : sh_H) {Q : ai_Q} {R : sh_H → Prop} (H : sh_ok (f_Reader_clearNames N l0 h) R) (hR : ∀ h, R h → Q none (sh_E h)) : ai_Ex sh_T d 72 [aR 14 l0] (sh_E h) Q := by
  obtain ⟨d, rfl⟩ : ∃ e, d = e + 1 := ⟨d - 1, by omega⟩
  replace hd : 0 ≤ d := by omega
  refine And.intro (Nat.le_of_ble_eq_true rfl) ?_
  show wq_72 d Q 0 [oR 14 l0, none] [] (sh_E h)
  refine ai_WP_steps mc_72 (sh_CM d) 2 ?_
  exact x_Reader_clearNames_l2 N hd hR N l0 (0 : Int32) h H
def f_Reader_accept_b30    (h : sh_H) : Option sh_H := (if (h.1 5 0 4) = 0 then (sh_let (sh_pI h 5 0 3 ((h.1 5 0 3) + (1 : Int32))) (fun h1 => (some h1))) else (some h))
theorem x_Reader_accept_b30 {d : Nat} (hd : 0 ≤ d) {Q : ai_Q} {R : sh_H → Prop} (hR : ∀ h, R h → Q none (sh_E h))    (h : sh_H) (H : sh_ok (f_Reader_accept_b30 h) R) : wq_94 d Q 30 [oR 5 0] [] (sh_E h) := by
  refine ai_WP_steps mc_94 (sh_CM d) 3 (And.intro (fun c => ?_) (fun c => ?_))
  · replace H := sh_okT c H
    show wq_94 d Q 37 [oR 5 0] [] (sh_E h)
    refine ai_WP_steps mc_94 (sh_CM d) 6 (And.intro trivial ?_)
    show wq_94 d Q 47 [oR 5 0] [] (sh_E (sh_pI h 5 0 3 ((h.1 5 0 3) + (1 : Int32))))
    replace H := sh_okL H
    generalize sh_pI h 5 0 3 ((h.1 5 0 3) + (1 : Int32)) = h1 at H ⊢
    exact ai_WP_steps mc_94 (sh_CM d) 1 (hR h1 H)
  · replace H := sh_okF c H
    show wq_94 d Q 47 [oR 5 0] [] (sh_E h)
    exact ai_WP_steps mc_94 (sh_CM d) 1 (hR h H)
def f_Reader_accept   (h : sh_H) : Option sh_H := (if (h.1 5 0 4) = 0 then (if (h.1 5 0 3) < (400 : Int32) then f_Reader_accept_b30 h else (sh_let (sh_pI h 5 0 4 (2 : Int32)) (fun h2 => (sh_let (sh_pI h2 5 0 5 (h2.1 5 0 3)) (fun h3 => f_Reader_accept_b30 h3))))) else f_Reader_accept_b30 h)
theorem x_Reader_accept {d : Nat} (hd : 1 ≤ d)  (h : sh_H) {Q : ai_Q} {R : sh_H → Prop} (H : sh_ok (f_Reader_accept h) R) (hR : ∀ h, R h → Q none (sh_E h)) : ai_Ex sh_T d 94 [aR 5 0] (sh_E h) Q := by
  obtain ⟨d, rfl⟩ : ∃ e, d = e + 1 := ⟨d - 1, by omega⟩
  replace hd : 0 ≤ d := by omega
  refine And.intro (Nat.le_of_ble_eq_true rfl) ?_
  show wq_94 d Q 0 [oR 5 0] [] (sh_E h)
  refine ai_WP_steps mc_94 (sh_CM d) 3 (And.intro (fun c => ?_) (fun c => ?_))
  · replace H := sh_okT c H
    show wq_94 d Q 7 [oR 5 0] [] (sh_E h)
    refine ai_WP_steps mc_94 (sh_CM d) 4 (And.intro (fun c => ?_) (fun c => ?_))
    · replace H := sh_okT c H
      exact x_Reader_accept_b30 hd hR h H
    · replace H := sh_okF c H
      show wq_94 d Q 17 [oR 5 0] [] (sh_E h)
      refine ai_WP_steps mc_94 (sh_CM d) 3 (And.intro trivial ?_)
      show wq_94 d Q 22 [oR 5 0] [] (sh_E (sh_pI h 5 0 4 (2 : Int32)))
      replace H := sh_okL H
      generalize sh_pI h 5 0 4 (2 : Int32) = h2 at H ⊢
      refine ai_WP_steps mc_94 (sh_CM d) 4 (And.intro trivial ?_)
      show wq_94 d Q 30 [oR 5 0] [] (sh_E (sh_pI h2 5 0 5 (h2.1 5 0 3)))
      replace H := sh_okL H
      generalize sh_pI h2 5 0 5 (h2.1 5 0 3) = h3 at H ⊢
      exact x_Reader_accept_b30 hd hR h3 H
  · replace H := sh_okF c H
    exact x_Reader_accept_b30 hd hR h H
def f_Reader_fail  (l1 : Int32) (h : sh_H) : Option sh_H := (if (h.1 5 0 4) = 0 then (sh_let (sh_pI h 5 0 4 l1) (fun h1 => (sh_let (sh_pI h1 5 0 5 (h1.1 5 0 3)) (fun h2 => (some h2))))) else (some h))
theorem x_Reader_fail {d : Nat} (hd : 1 ≤ d) (l1 : Int32) (h : sh_H) {Q : ai_Q} {R : sh_H → Prop} (H : sh_ok (f_Reader_fail l1 h) R) (hR : ∀ h, R h → Q none (sh_E h)) : ai_Ex sh_T d 95 [aR 5 0, aI l1] (sh_E h) Q := by
  obtain ⟨d, rfl⟩ : ∃ e, d = e + 1 := ⟨d - 1, by omega⟩
  replace hd : 0 ≤ d := by omega
  refine And.intro (Nat.le_of_ble_eq_true rfl) ?_
  show wq_95 d Q 0 [oR 5 0, oI l1] [] (sh_E h)
  refine ai_WP_steps mc_95 (sh_CM d) 3 (And.intro (fun c => ?_) (fun c => ?_))
  · replace H := sh_okT c H
    show wq_95 d Q 7 [oR 5 0, oI l1] [] (sh_E h)
    refine ai_WP_steps mc_95 (sh_CM d) 3 (And.intro trivial ?_)
    show wq_95 d Q 12 [oR 5 0, oI l1] [] (sh_E (sh_pI h 5 0 4 l1))
    replace H := sh_okL H
    generalize sh_pI h 5 0 4 l1 = h1 at H ⊢
    refine ai_WP_steps mc_95 (sh_CM d) 4 (And.intro trivial ?_)
    show wq_95 d Q 20 [oR 5 0, oI l1] [] (sh_E (sh_pI h1 5 0 5 (h1.1 5 0 3)))
    replace H := sh_okL H
    generalize sh_pI h1 5 0 5 (h1.1 5 0 3) = h2 at H ⊢
    exact ai_WP_steps mc_95 (sh_CM d) 1 (hR h2 H)
  · replace H := sh_okF c H
    show wq_95 d Q 20 [oR 5 0, oI l1] [] (sh_E h)
    exact ai_WP_steps mc_95 (sh_CM d) 1 (hR h H)
def f_Tokens_sortOf_b26   (l1 : Int32) (s0 : Int32) (h : sh_H) : Option Int32 := (if s0 = 0 then (some (23 : Int32)) else (if ai_in l1 401 then (some (h.1 13 18 l1.toNatClampNeg)) else none))
theorem x_Tokens_sortOf_b26 {d : Nat} (hd : 0 ≤ d) (h : sh_H) {Q : ai_Q} {R : Int32 → Prop} (hR : ∀ r, R r → Q (some (aI r)) (sh_E h))   (l1 : Int32) (s0 : Int32) {d2 : Option ai_V} (H : sh_ok (f_Tokens_sortOf_b26 l1 s0 h) R) : wq_134 d Q 26 [oR 10 0, oI l1, d2] [aI s0] (sh_E h) := by
  refine ai_WP_steps mc_134 (sh_CM d) 3 (And.intro (fun c => ?_) (fun c => ?_))
  · replace H := sh_okT c H
    show wq_134 d Q 40 [oR 10 0, oI l1, oI s0] [] (sh_E h)
    exact ai_WP_steps mc_134 (sh_CM d) 2 (hR (23 : Int32) H)
  · replace H := sh_okF c H
    show wq_134 d Q 31 [oR 10 0, oI l1, oI s0] [] (sh_E h)
    have c := sh_okG H
    replace H := sh_okH H
    refine ai_WP_steps mc_134 (sh_CM d) 4 (And.intro c ?_)
    show wq_134 d Q 37 [oR 10 0, oI l1, oI s0] [aI (h.1 13 18 l1.toNatClampNeg)] (sh_E h)
    exact ai_WP_steps mc_134 (sh_CM d) 2 (hR (h.1 13 18 l1.toNatClampNeg) H)
def f_Tokens_sortOf_b25   (l1 : Int32) (h : sh_H) : Option Int32 := f_Tokens_sortOf_b26 l1 (0 : Int32) h
theorem x_Tokens_sortOf_b25 {d : Nat} (hd : 0 ≤ d) (h : sh_H) {Q : ai_Q} {R : Int32 → Prop} (hR : ∀ r, R r → Q (some (aI r)) (sh_E h))   (l1 : Int32) {d2 : Option ai_V} (H : sh_ok (f_Tokens_sortOf_b25 l1 h) R) : wq_134 d Q 25 [oR 10 0, oI l1, d2] [] (sh_E h) := by
  refine ai_WP_steps mc_134 (sh_CM d) 1 ?_
  exact x_Tokens_sortOf_b26 hd h hR l1 (0 : Int32) H
def f_Tokens_sortOf  (l1 : Int32) (h : sh_H) : Option Int32 := (if l1 < 0 then f_Tokens_sortOf_b25 l1 h else (if l1 < (h.1 10 0 3) then (if l1 < (Int32.ofNat 401) then f_Tokens_sortOf_b26 l1 (1 : Int32) h else f_Tokens_sortOf_b25 l1 h) else f_Tokens_sortOf_b25 l1 h))
theorem x_Tokens_sortOf {d : Nat} (hd : 1 ≤ d) (l1 : Int32) (h : sh_H) {Q : ai_Q} {R : Int32 → Prop} (H : sh_ok (f_Tokens_sortOf l1 h) R) (hR : ∀ r, R r → Q (some (aI r)) (sh_E h)) : ai_Ex sh_T d 134 [aR 10 0, aI l1] (sh_E h) Q := by
  obtain ⟨d, rfl⟩ : ∃ e, d = e + 1 := ⟨d - 1, by omega⟩
  replace hd : 0 ≤ d := by omega
  refine And.intro (Nat.le_of_ble_eq_true rfl) ?_
  show wq_134 d Q 0 [oR 10 0, oI l1, none] [] (sh_E h)
  refine ai_WP_steps mc_134 (sh_CM d) 2 (And.intro (fun c => ?_) (fun c => ?_))
  · replace H := sh_okT c H
    exact x_Tokens_sortOf_b25 hd h hR l1 H
  · replace H := sh_okF c H
    show wq_134 d Q 4 [oR 10 0, oI l1, _] [] (sh_E h)
    refine ai_WP_steps mc_134 (sh_CM d) 4 (And.intro (fun c => ?_) (fun c => ?_))
    · replace H := sh_okT c H
      show wq_134 d Q 12 [oR 10 0, oI l1, _] [] (sh_E h)
      refine ai_WP_steps mc_134 (sh_CM d) 5 (And.intro (fun c => ?_) (fun c => ?_))
      · replace H := sh_okT c H
        show wq_134 d Q 21 [oR 10 0, oI l1, _] [] (sh_E h)
        refine ai_WP_steps mc_134 (sh_CM d) 2 ?_
        exact x_Tokens_sortOf_b26 hd h hR l1 (1 : Int32) H
      · replace H := sh_okF c H
        exact x_Tokens_sortOf_b25 hd h hR l1 H
    · replace H := sh_okF c H
      exact x_Tokens_sortOf_b25 hd h hR l1 H
def f_Reader_expect_b20    (h : sh_H) : Option sh_H := (Option.bind (f_Reader_accept h) (fun h1 => (some h1)))
theorem x_Reader_expect_b20 {d : Nat} (hd : 1 ≤ d) {Q : ai_Q} {R : sh_H → Prop} (hR : ∀ h, R h → Q none (sh_E h))    {d1 : Option ai_V} (h : sh_H) (H : sh_ok (f_Reader_expect_b20 h) R) : wq_93 d Q 20 [oR 5 0, d1] [] (sh_E h) := by
  refine ai_WP_steps mc_93 (sh_CM d) 2 (And.intro (Nat.le_of_ble_eq_true rfl) (x_Reader_accept (Nat.le_trans (Nat.le_of_ble_eq_true rfl) hd) h (sh_okB H) (fun h1 H => ?_)))
  show wq_93 d Q 24 [oR 5 0, _] [] (sh_E h1)
  exact ai_WP_steps mc_93 (sh_CM d) 1 (hR h1 H)
def f_Reader_expect  (l1 : Int32) (h : sh_H) : Option sh_H := (Option.bind (f_Tokens_sortOf (h.1 5 0 3) h) (fun v2 => (if v2 = l1 then f_Reader_expect_b20 h else (Option.bind (f_Reader_fail (1 : Int32) h) (fun h3 => f_Reader_expect_b20 h3)))))
theorem x_Reader_expect {d : Nat} (hd : 2 ≤ d) (l1 : Int32) (h : sh_H) {Q : ai_Q} {R : sh_H → Prop} (H : sh_ok (f_Reader_expect l1 h) R) (hR : ∀ h, R h → Q none (sh_E h)) : ai_Ex sh_T d 93 [aR 5 0, aI l1] (sh_E h) Q := by
  obtain ⟨d, rfl⟩ : ∃ e, d = e + 1 := ⟨d - 1, by omega⟩
  replace hd : 1 ≤ d := by omega
  refine And.intro (Nat.le_of_ble_eq_true rfl) ?_
  show wq_93 d Q 0 [oR 5 0, oI l1] [] (sh_E h)
  refine ai_WP_steps mc_93 (sh_CM d) 5 (And.intro (Nat.le_of_ble_eq_true rfl) (x_Tokens_sortOf (Nat.le_trans (Nat.le_of_ble_eq_true rfl) hd) (h.1 5 0 3) h (sh_okB H) (fun v2 H => ?_)))
  show wq_93 d Q 11 [oR 5 0, oI l1] [aI v2] (sh_E h)
  refine ai_WP_steps mc_93 (sh_CM d) 2 (And.intro (fun c => ?_) (fun c => ?_))
  · replace H := sh_okT c H
    exact x_Reader_expect_b20 hd hR h H
  · replace H := sh_okF c H
    show wq_93 d Q 15 [oR 5 0, oI l1] [] (sh_E h)
    refine ai_WP_steps mc_93 (sh_CM d) 3 (And.intro (Nat.le_of_ble_eq_true rfl) (x_Reader_fail (Nat.le_trans (Nat.le_of_ble_eq_true rfl) hd) (1 : Int32) h (sh_okB H) (fun h3 H => ?_)))
    show wq_93 d Q 20 [oR 5 0, oI l1] [] (sh_E h3)
    exact x_Reader_expect_b20 hd hR h3 H
def f_Reader_upcoming   (h : sh_H) : Option Int32 := (Option.bind (f_Tokens_sortOf (h.1 5 0 3) h) (fun v1 => (some v1)))
theorem x_Reader_upcoming {d : Nat} (hd : 2 ≤ d)  (h : sh_H) {Q : ai_Q} {R : Int32 → Prop} (H : sh_ok (f_Reader_upcoming h) R) (hR : ∀ r, R r → Q (some (aI r)) (sh_E h)) : ai_Ex sh_T d 92 [aR 5 0] (sh_E h) Q := by
  obtain ⟨d, rfl⟩ : ∃ e, d = e + 1 := ⟨d - 1, by omega⟩
  replace hd : 1 ≤ d := by omega
  refine And.intro (Nat.le_of_ble_eq_true rfl) ?_
  show wq_92 d Q 0 [oR 5 0] [] (sh_E h)
  refine ai_WP_steps mc_92 (sh_CM d) 5 (And.intro (Nat.le_of_ble_eq_true rfl) (x_Tokens_sortOf (Nat.le_trans (Nat.le_of_ble_eq_true rfl) hd) (h.1 5 0 3) h (sh_okB H) (fun v1 H => ?_)))
  show wq_92 d Q 11 [oR 5 0] [aI v1] (sh_E h)
  exact ai_WP_steps mc_92 (sh_CM d) 1 (hR v1 H)
def f_Tokens_valueOf_b26   (l1 : Int32) (s0 : Int32) (h : sh_H) : Option Int64 := (if s0 = 0 then (some (0 : Int64)) else (if ai_in l1 401 then (some (h.2.1 14 0 l1.toNatClampNeg)) else none))
theorem x_Tokens_valueOf_b26 {d : Nat} (hd : 0 ≤ d) (h : sh_H) {Q : ai_Q} {R : Int64 → Prop} (hR : ∀ r, R r → Q (some (aL r)) (sh_E h))   (l1 : Int32) (s0 : Int32) {d2 : Option ai_V} (H : sh_ok (f_Tokens_valueOf_b26 l1 s0 h) R) : wq_136 d Q 26 [oR 10 0, oI l1, d2] [aI s0] (sh_E h) := by
  refine ai_WP_steps mc_136 (sh_CM d) 3 (And.intro (fun c => ?_) (fun c => ?_))
  · replace H := sh_okT c H
    show wq_136 d Q 40 [oR 10 0, oI l1, oI s0] [] (sh_E h)
    exact ai_WP_steps mc_136 (sh_CM d) 2 (hR (0 : Int64) H)
  · replace H := sh_okF c H
    show wq_136 d Q 31 [oR 10 0, oI l1, oI s0] [] (sh_E h)
    have c := sh_okG H
    replace H := sh_okH H
    refine ai_WP_steps mc_136 (sh_CM d) 4 (And.intro c ?_)
    show wq_136 d Q 37 [oR 10 0, oI l1, oI s0] [aL (h.2.1 14 0 l1.toNatClampNeg)] (sh_E h)
    exact ai_WP_steps mc_136 (sh_CM d) 2 (hR (h.2.1 14 0 l1.toNatClampNeg) H)
def f_Tokens_valueOf_b25   (l1 : Int32) (h : sh_H) : Option Int64 := f_Tokens_valueOf_b26 l1 (0 : Int32) h
theorem x_Tokens_valueOf_b25 {d : Nat} (hd : 0 ≤ d) (h : sh_H) {Q : ai_Q} {R : Int64 → Prop} (hR : ∀ r, R r → Q (some (aL r)) (sh_E h))   (l1 : Int32) {d2 : Option ai_V} (H : sh_ok (f_Tokens_valueOf_b25 l1 h) R) : wq_136 d Q 25 [oR 10 0, oI l1, d2] [] (sh_E h) := by
  refine ai_WP_steps mc_136 (sh_CM d) 1 ?_
  exact x_Tokens_valueOf_b26 hd h hR l1 (0 : Int32) H
def f_Tokens_valueOf  (l1 : Int32) (h : sh_H) : Option Int64 := (if l1 < 0 then f_Tokens_valueOf_b25 l1 h else (if l1 < (h.1 10 0 3) then (if l1 < (Int32.ofNat 401) then f_Tokens_valueOf_b26 l1 (1 : Int32) h else f_Tokens_valueOf_b25 l1 h) else f_Tokens_valueOf_b25 l1 h))
theorem x_Tokens_valueOf {d : Nat} (hd : 1 ≤ d) (l1 : Int32) (h : sh_H) {Q : ai_Q} {R : Int64 → Prop} (H : sh_ok (f_Tokens_valueOf l1 h) R) (hR : ∀ r, R r → Q (some (aL r)) (sh_E h)) : ai_Ex sh_T d 136 [aR 10 0, aI l1] (sh_E h) Q := by
  obtain ⟨d, rfl⟩ : ∃ e, d = e + 1 := ⟨d - 1, by omega⟩
  replace hd : 0 ≤ d := by omega
  refine And.intro (Nat.le_of_ble_eq_true rfl) ?_
  show wq_136 d Q 0 [oR 10 0, oI l1, none] [] (sh_E h)
  refine ai_WP_steps mc_136 (sh_CM d) 2 (And.intro (fun c => ?_) (fun c => ?_))
  · replace H := sh_okT c H
    exact x_Tokens_valueOf_b25 hd h hR l1 H
  · replace H := sh_okF c H
    show wq_136 d Q 4 [oR 10 0, oI l1, _] [] (sh_E h)
    refine ai_WP_steps mc_136 (sh_CM d) 4 (And.intro (fun c => ?_) (fun c => ?_))
    · replace H := sh_okT c H
      show wq_136 d Q 12 [oR 10 0, oI l1, _] [] (sh_E h)
      refine ai_WP_steps mc_136 (sh_CM d) 5 (And.intro (fun c => ?_) (fun c => ?_))
      · replace H := sh_okT c H
        show wq_136 d Q 21 [oR 10 0, oI l1, _] [] (sh_E h)
        refine ai_WP_steps mc_136 (sh_CM d) 2 ?_
        exact x_Tokens_valueOf_b26 hd h hR l1 (1 : Int32) H
      · replace H := sh_okF c H
        exact x_Tokens_valueOf_b25 hd h hR l1 H
    · replace H := sh_okF c H
      exact x_Tokens_valueOf_b25 hd h hR l1 H
def f_Reader_sum_b33 (N : Nat) (g1 : Nat → Int32 → sh_H → Option sh_H) (k8 : Nat → Int32 → Int32 → sh_H → Option sh_H) (l1 : Nat) (l2 : Int32) (l3 : Int32) (h : sh_H) : Option sh_H := (if (h.1 5 0 4) = 0 then (Option.bind (f_Reader_upcoming h) (fun v1 => (Option.bind (f_Reader_accept h) (fun h2 => (Option.bind (g1 l1 l2 h2) (fun h3 => (Option.bind (f_Formulas_add l1 v1 (0 : Int32) h3) (fun h4 => k8 l1 l2 (l3 + (1 : Int32)) h4)))))))) else (some h))
theorem x_Reader_sum_b33 (N : Nat) {d : Nat} (hd : 2 ≤ d) {Q : ai_Q} {R : sh_H → Prop} (hR : ∀ h, R h → Q none (sh_E h)) (g1 : Nat → Int32 → sh_H → Option sh_H) (hg1 : ∀ (a : Nat) (b : Int32) (h : sh_H) {Q2 : ai_Q} {R2 : sh_H → Prop}, sh_ok (g1 a b h) R2 → (∀ h', R2 h' → Q2 none (sh_E h')) → ai_Ex sh_T d 89 [aR 5 0, aR 2 a, aI b] (sh_E h) Q2) (k8 : Nat → Int32 → Int32 → sh_H → Option sh_H) (hk8 : ∀ (l1 : Nat) (l2 : Int32) (l3 : Int32) {d4 : Option ai_V} (h : sh_H), sh_ok (k8 l1 l2 l3 h) R → wq_88 d Q 8 [oR 5 0, oR 2 l1, oI l2, oI l3, d4] [] (sh_E h)) (l1 : Nat) (l2 : Int32) (l3 : Int32) {d4 : Option ai_V} (h : sh_H) (H : sh_ok (f_Reader_sum_b33 N g1 k8 l1 l2 l3 h) R) : wq_88 d Q 33 [oR 5 0, oR 2 l1, oI l2, oI l3, d4] [] (sh_E h) := by
  refine ai_WP_steps mc_88 (sh_CM d) 3 (And.intro (fun c => ?_) (fun c => ?_))
  · replace H := sh_okT c H
    show wq_88 d Q 40 [oR 5 0, oR 2 l1, oI l2, oI l3, _] [] (sh_E h)
    refine ai_WP_steps mc_88 (sh_CM d) 2 (And.intro (Nat.le_of_ble_eq_true rfl) (x_Reader_upcoming (Nat.le_trans (Nat.le_of_ble_eq_true rfl) hd) h (sh_okB H) (fun v1 H => ?_)))
    show wq_88 d Q 44 [oR 5 0, oR 2 l1, oI l2, oI l3, _] [aI v1] (sh_E h)
    refine ai_WP_steps mc_88 (sh_CM d) 3 (And.intro (Nat.le_of_ble_eq_true rfl) (x_Reader_accept (Nat.le_trans (Nat.le_of_ble_eq_true rfl) hd) h (sh_okB H) (fun h2 H => ?_)))
    show wq_88 d Q 50 [oR 5 0, oR 2 l1, oI l2, oI l3, oI v1] [] (sh_E h2)
    refine ai_WP_steps mc_88 (sh_CM d) 4 (And.intro (Nat.le_of_ble_eq_true rfl) (hg1 l1 l2 h2 (sh_okB H) (fun h3 H => ?_)))
    show wq_88 d Q 56 [oR 5 0, oR 2 l1, oI l2, oI l3, oI v1] [] (sh_E h3)
    refine ai_WP_steps mc_88 (sh_CM d) 4 (And.intro (Nat.le_of_ble_eq_true rfl) (x_Formulas_add (Nat.le_trans (Nat.le_of_ble_eq_true rfl) hd) l1 v1 (0 : Int32) h3 (sh_okB H) (fun h4 H => ?_)))
    show wq_88 d Q 63 [oR 5 0, oR 2 l1, oI l2, oI l3, oI v1] [] (sh_E h4)
    refine ai_WP_steps mc_88 (sh_CM d) 2 ?_
    exact hk8 l1 l2 (l3 + (1 : Int32)) h4 H
  · replace H := sh_okF c H
    show wq_88 d Q 69 [oR 5 0, oR 2 l1, oI l2, oI l3, _] [] (sh_E h)
    exact ai_WP_steps mc_88 (sh_CM d) 1 (hR h H)
def f_Reader_sum_c8 (N : Nat) (g1 : Nat → Int32 → sh_H → Option sh_H)  (k8 : Nat → Int32 → Int32 → sh_H → Option sh_H) (l1 : Nat) (l2 : Int32) (l3 : Int32) (h : sh_H) : Option sh_H := (if l3 < (400 : Int32) then (Option.bind (f_Reader_upcoming h) (fun v5 => (if v5 = (43 : Int32) then f_Reader_sum_b33 N g1 k8 l1 l2 l3 h else (Option.bind (f_Reader_upcoming h) (fun v6 => (if v6 = (45 : Int32) then f_Reader_sum_b33 N g1 k8 l1 l2 l3 h else (some h))))))) else (some h))
def f_Reader_sum_l8 (N : Nat) (g1 : Nat → Int32 → sh_H → Option sh_H)  (n : Nat) : Nat → Int32 → Int32 → sh_H → Option sh_H := Nat.rec (motive := fun _ => Nat → Int32 → Int32 → sh_H → Option sh_H) (fun _ _ _ _ => none) (fun _ k8 => f_Reader_sum_c8 N g1 k8) n
theorem x_Reader_sum_l8 (N : Nat) {d : Nat} (hd : 2 ≤ d) {Q : ai_Q} {R : sh_H → Prop} (hR : ∀ h, R h → Q none (sh_E h)) (g1 : Nat → Int32 → sh_H → Option sh_H) (hg1 : ∀ (a : Nat) (b : Int32) (h : sh_H) {Q2 : ai_Q} {R2 : sh_H → Prop}, sh_ok (g1 a b h) R2 → (∀ h', R2 h' → Q2 none (sh_E h')) → ai_Ex sh_T d 89 [aR 5 0, aR 2 a, aI b] (sh_E h) Q2)  (n : Nat) : ∀ (l1 : Nat) (l2 : Int32) (l3 : Int32) {d4 : Option ai_V} (h : sh_H), sh_ok (f_Reader_sum_l8 N g1 n l1 l2 l3 h) R → wq_88 d Q 8 [oR 5 0, oR 2 l1, oI l2, oI l3, d4] [] (sh_E h) := by
  induction n with
  | zero => intro l1 l2 l3 d4 h H; exact H.elim
  | succ n ih =>
    intro l1 l2 l3 d4 h H
    have hk8 := @ih
    replace H : sh_ok (f_Reader_sum_c8 N g1 (f_Reader_sum_l8 N g1 n) l1 l2 l3 h) R := H
    revert hk8 H
    generalize f_Reader_sum_l8 N g1 n = k8
    intro hk8 H
    refine ai_WP_steps mc_88 (sh_CM d) 3 (And.intro (fun c => ?_) (fun c => ?_))
    · replace H := sh_okT c H
      show wq_88 d Q 15 [oR 5 0, oR 2 l1, oI l2, oI l3, _] [] (sh_E h)
      refine ai_WP_steps mc_88 (sh_CM d) 2 (And.intro (Nat.le_of_ble_eq_true rfl) (x_Reader_upcoming (Nat.le_trans (Nat.le_of_ble_eq_true rfl) hd) h (sh_okB H) (fun v5 H => ?_)))
      show wq_88 d Q 19 [oR 5 0, oR 2 l1, oI l2, oI l3, _] [aI v5] (sh_E h)
      refine ai_WP_steps mc_88 (sh_CM d) 2 (And.intro (fun c => ?_) (fun c => ?_))
      · replace H := sh_okT c H
        exact x_Reader_sum_b33 N hd hR g1 hg1 k8 hk8 l1 l2 l3 h H
      · replace H := sh_okF c H
        show wq_88 d Q 24 [oR 5 0, oR 2 l1, oI l2, oI l3, _] [] (sh_E h)
        refine ai_WP_steps mc_88 (sh_CM d) 2 (And.intro (Nat.le_of_ble_eq_true rfl) (x_Reader_upcoming (Nat.le_trans (Nat.le_of_ble_eq_true rfl) hd) h (sh_okB H) (fun v6 H => ?_)))
        show wq_88 d Q 28 [oR 5 0, oR 2 l1, oI l2, oI l3, _] [aI v6] (sh_E h)
        refine ai_WP_steps mc_88 (sh_CM d) 2 (And.intro (fun c => ?_) (fun c => ?_))
        · replace H := sh_okT c H
          exact x_Reader_sum_b33 N hd hR g1 hg1 k8 hk8 l1 l2 l3 h H
        · replace H := sh_okF c H
          show wq_88 d Q 69 [oR 5 0, oR 2 l1, oI l2, oI l3, _] [] (sh_E h)
          exact ai_WP_steps mc_88 (sh_CM d) 1 (hR h H)
    · replace H := sh_okF c H
      show wq_88 d Q 69 [oR 5 0, oR 2 l1, oI l2, oI l3, _] [] (sh_E h)
      exact ai_WP_steps mc_88 (sh_CM d) 1 (hR h H)
def F_Reader_sum (N : Nat) (g1 : Nat → Int32 → sh_H → Option sh_H) (l1 : Nat) (l2 : Int32) (h : sh_H) : Option sh_H := (Option.bind (g1 l1 l2 h) (fun h7 => f_Reader_sum_l8 N g1 N l1 l2 (0 : Int32) h7))
theorem X_Reader_sum (N : Nat) {d : Nat} (hd : 2 ≤ d) (g1 : Nat → Int32 → sh_H → Option sh_H) (hg1 : ∀ (a : Nat) (b : Int32) (h : sh_H) {Q2 : ai_Q} {R2 : sh_H → Prop}, sh_ok (g1 a b h) R2 → (∀ h', R2 h' → Q2 none (sh_E h')) → ai_Ex sh_T d 89 [aR 5 0, aR 2 a, aI b] (sh_E h) Q2) (l1 : Nat) (l2 : Int32) (h : sh_H) {Q : ai_Q} {R : sh_H → Prop} (H : sh_ok (F_Reader_sum N g1 l1 l2 h) R) (hR : ∀ h, R h → Q none (sh_E h)) : ai_Ex sh_T (d + 1) 88 [aR 5 0, aR 2 l1, aI l2] (sh_E h) Q := by
  refine And.intro (Nat.le_of_ble_eq_true rfl) ?_
  show wq_88 d Q 0 [oR 5 0, oR 2 l1, oI l2, none, none] [] (sh_E h)
  refine ai_WP_steps mc_88 (sh_CM d) 4 (And.intro (Nat.le_of_ble_eq_true rfl) (hg1 l1 l2 h (sh_okB H) (fun h7 H => ?_)))
  show wq_88 d Q 6 [oR 5 0, oR 2 l1, oI l2, _, _] [] (sh_E h7)
  refine ai_WP_steps mc_88 (sh_CM d) 2 ?_
  exact x_Reader_sum_l8 N hd hR g1 hg1 N l1 l2 (0 : Int32) h7 H
def f_Reader_product_b33 (N : Nat) (g2 : Nat → Int32 → sh_H → Option sh_H) (k8 : Nat → Int32 → Int32 → sh_H → Option sh_H) (l1 : Nat) (l2 : Int32) (l3 : Int32) (h : sh_H) : Option sh_H := (if (h.1 5 0 4) = 0 then (Option.bind (f_Reader_upcoming h) (fun v1 => (Option.bind (f_Reader_accept h) (fun h2 => (Option.bind (g2 l1 l2 h2) (fun h3 => (Option.bind (f_Formulas_add l1 v1 (0 : Int32) h3) (fun h4 => k8 l1 l2 (l3 + (1 : Int32)) h4)))))))) else (some h))
theorem x_Reader_product_b33 (N : Nat) {d : Nat} (hd : 2 ≤ d) {Q : ai_Q} {R : sh_H → Prop} (hR : ∀ h, R h → Q none (sh_E h)) (g2 : Nat → Int32 → sh_H → Option sh_H) (hg2 : ∀ (a : Nat) (b : Int32) (h : sh_H) {Q2 : ai_Q} {R2 : sh_H → Prop}, sh_ok (g2 a b h) R2 → (∀ h', R2 h' → Q2 none (sh_E h')) → ai_Ex sh_T d 90 [aR 5 0, aR 2 a, aI b] (sh_E h) Q2) (k8 : Nat → Int32 → Int32 → sh_H → Option sh_H) (hk8 : ∀ (l1 : Nat) (l2 : Int32) (l3 : Int32) {d4 : Option ai_V} (h : sh_H), sh_ok (k8 l1 l2 l3 h) R → wq_89 d Q 8 [oR 5 0, oR 2 l1, oI l2, oI l3, d4] [] (sh_E h)) (l1 : Nat) (l2 : Int32) (l3 : Int32) {d4 : Option ai_V} (h : sh_H) (H : sh_ok (f_Reader_product_b33 N g2 k8 l1 l2 l3 h) R) : wq_89 d Q 33 [oR 5 0, oR 2 l1, oI l2, oI l3, d4] [] (sh_E h) := by
  refine ai_WP_steps mc_89 (sh_CM d) 3 (And.intro (fun c => ?_) (fun c => ?_))
  · replace H := sh_okT c H
    show wq_89 d Q 40 [oR 5 0, oR 2 l1, oI l2, oI l3, _] [] (sh_E h)
    refine ai_WP_steps mc_89 (sh_CM d) 2 (And.intro (Nat.le_of_ble_eq_true rfl) (x_Reader_upcoming (Nat.le_trans (Nat.le_of_ble_eq_true rfl) hd) h (sh_okB H) (fun v1 H => ?_)))
    show wq_89 d Q 44 [oR 5 0, oR 2 l1, oI l2, oI l3, _] [aI v1] (sh_E h)
    refine ai_WP_steps mc_89 (sh_CM d) 3 (And.intro (Nat.le_of_ble_eq_true rfl) (x_Reader_accept (Nat.le_trans (Nat.le_of_ble_eq_true rfl) hd) h (sh_okB H) (fun h2 H => ?_)))
    show wq_89 d Q 50 [oR 5 0, oR 2 l1, oI l2, oI l3, oI v1] [] (sh_E h2)
    refine ai_WP_steps mc_89 (sh_CM d) 4 (And.intro (Nat.le_of_ble_eq_true rfl) (hg2 l1 l2 h2 (sh_okB H) (fun h3 H => ?_)))
    show wq_89 d Q 56 [oR 5 0, oR 2 l1, oI l2, oI l3, oI v1] [] (sh_E h3)
    refine ai_WP_steps mc_89 (sh_CM d) 4 (And.intro (Nat.le_of_ble_eq_true rfl) (x_Formulas_add (Nat.le_trans (Nat.le_of_ble_eq_true rfl) hd) l1 v1 (0 : Int32) h3 (sh_okB H) (fun h4 H => ?_)))
    show wq_89 d Q 63 [oR 5 0, oR 2 l1, oI l2, oI l3, oI v1] [] (sh_E h4)
    refine ai_WP_steps mc_89 (sh_CM d) 2 ?_
    exact hk8 l1 l2 (l3 + (1 : Int32)) h4 H
  · replace H := sh_okF c H
    show wq_89 d Q 69 [oR 5 0, oR 2 l1, oI l2, oI l3, _] [] (sh_E h)
    exact ai_WP_steps mc_89 (sh_CM d) 1 (hR h H)
def f_Reader_product_c8 (N : Nat) (g2 : Nat → Int32 → sh_H → Option sh_H)  (k8 : Nat → Int32 → Int32 → sh_H → Option sh_H) (l1 : Nat) (l2 : Int32) (l3 : Int32) (h : sh_H) : Option sh_H := (if l3 < (400 : Int32) then (Option.bind (f_Reader_upcoming h) (fun v5 => (if v5 = (42 : Int32) then f_Reader_product_b33 N g2 k8 l1 l2 l3 h else (Option.bind (f_Reader_upcoming h) (fun v6 => (if v6 = (47 : Int32) then f_Reader_product_b33 N g2 k8 l1 l2 l3 h else (some h))))))) else (some h))
def f_Reader_product_l8 (N : Nat) (g2 : Nat → Int32 → sh_H → Option sh_H)  (n : Nat) : Nat → Int32 → Int32 → sh_H → Option sh_H := Nat.rec (motive := fun _ => Nat → Int32 → Int32 → sh_H → Option sh_H) (fun _ _ _ _ => none) (fun _ k8 => f_Reader_product_c8 N g2 k8) n
theorem x_Reader_product_l8 (N : Nat) {d : Nat} (hd : 2 ≤ d) {Q : ai_Q} {R : sh_H → Prop} (hR : ∀ h, R h → Q none (sh_E h)) (g2 : Nat → Int32 → sh_H → Option sh_H) (hg2 : ∀ (a : Nat) (b : Int32) (h : sh_H) {Q2 : ai_Q} {R2 : sh_H → Prop}, sh_ok (g2 a b h) R2 → (∀ h', R2 h' → Q2 none (sh_E h')) → ai_Ex sh_T d 90 [aR 5 0, aR 2 a, aI b] (sh_E h) Q2)  (n : Nat) : ∀ (l1 : Nat) (l2 : Int32) (l3 : Int32) {d4 : Option ai_V} (h : sh_H), sh_ok (f_Reader_product_l8 N g2 n l1 l2 l3 h) R → wq_89 d Q 8 [oR 5 0, oR 2 l1, oI l2, oI l3, d4] [] (sh_E h) := by
  induction n with
  | zero => intro l1 l2 l3 d4 h H; exact H.elim
  | succ n ih =>
    intro l1 l2 l3 d4 h H
    have hk8 := @ih
    replace H : sh_ok (f_Reader_product_c8 N g2 (f_Reader_product_l8 N g2 n) l1 l2 l3 h) R := H
    revert hk8 H
    generalize f_Reader_product_l8 N g2 n = k8
    intro hk8 H
    refine ai_WP_steps mc_89 (sh_CM d) 3 (And.intro (fun c => ?_) (fun c => ?_))
    · replace H := sh_okT c H
      show wq_89 d Q 15 [oR 5 0, oR 2 l1, oI l2, oI l3, _] [] (sh_E h)
      refine ai_WP_steps mc_89 (sh_CM d) 2 (And.intro (Nat.le_of_ble_eq_true rfl) (x_Reader_upcoming (Nat.le_trans (Nat.le_of_ble_eq_true rfl) hd) h (sh_okB H) (fun v5 H => ?_)))
      show wq_89 d Q 19 [oR 5 0, oR 2 l1, oI l2, oI l3, _] [aI v5] (sh_E h)
      refine ai_WP_steps mc_89 (sh_CM d) 2 (And.intro (fun c => ?_) (fun c => ?_))
      · replace H := sh_okT c H
        exact x_Reader_product_b33 N hd hR g2 hg2 k8 hk8 l1 l2 l3 h H
      · replace H := sh_okF c H
        show wq_89 d Q 24 [oR 5 0, oR 2 l1, oI l2, oI l3, _] [] (sh_E h)
        refine ai_WP_steps mc_89 (sh_CM d) 2 (And.intro (Nat.le_of_ble_eq_true rfl) (x_Reader_upcoming (Nat.le_trans (Nat.le_of_ble_eq_true rfl) hd) h (sh_okB H) (fun v6 H => ?_)))
        show wq_89 d Q 28 [oR 5 0, oR 2 l1, oI l2, oI l3, _] [aI v6] (sh_E h)
        refine ai_WP_steps mc_89 (sh_CM d) 2 (And.intro (fun c => ?_) (fun c => ?_))
        · replace H := sh_okT c H
          exact x_Reader_product_b33 N hd hR g2 hg2 k8 hk8 l1 l2 l3 h H
        · replace H := sh_okF c H
          show wq_89 d Q 69 [oR 5 0, oR 2 l1, oI l2, oI l3, _] [] (sh_E h)
          exact ai_WP_steps mc_89 (sh_CM d) 1 (hR h H)
    · replace H := sh_okF c H
      show wq_89 d Q 69 [oR 5 0, oR 2 l1, oI l2, oI l3, _] [] (sh_E h)
      exact ai_WP_steps mc_89 (sh_CM d) 1 (hR h H)
def F_Reader_product (N : Nat) (g2 : Nat → Int32 → sh_H → Option sh_H) (l1 : Nat) (l2 : Int32) (h : sh_H) : Option sh_H := (Option.bind (g2 l1 l2 h) (fun h7 => f_Reader_product_l8 N g2 N l1 l2 (0 : Int32) h7))
theorem X_Reader_product (N : Nat) {d : Nat} (hd : 2 ≤ d) (g2 : Nat → Int32 → sh_H → Option sh_H) (hg2 : ∀ (a : Nat) (b : Int32) (h : sh_H) {Q2 : ai_Q} {R2 : sh_H → Prop}, sh_ok (g2 a b h) R2 → (∀ h', R2 h' → Q2 none (sh_E h')) → ai_Ex sh_T d 90 [aR 5 0, aR 2 a, aI b] (sh_E h) Q2) (l1 : Nat) (l2 : Int32) (h : sh_H) {Q : ai_Q} {R : sh_H → Prop} (H : sh_ok (F_Reader_product N g2 l1 l2 h) R) (hR : ∀ h, R h → Q none (sh_E h)) : ai_Ex sh_T (d + 1) 89 [aR 5 0, aR 2 l1, aI l2] (sh_E h) Q := by
  refine And.intro (Nat.le_of_ble_eq_true rfl) ?_
  show wq_89 d Q 0 [oR 5 0, oR 2 l1, oI l2, none, none] [] (sh_E h)
  refine ai_WP_steps mc_89 (sh_CM d) 4 (And.intro (Nat.le_of_ble_eq_true rfl) (hg2 l1 l2 h (sh_okB H) (fun h7 H => ?_)))
  show wq_89 d Q 6 [oR 5 0, oR 2 l1, oI l2, _, _] [] (sh_E h7)
  refine ai_WP_steps mc_89 (sh_CM d) 2 ?_
  exact x_Reader_product_l8 N hd hR g2 hg2 N l1 l2 (0 : Int32) h7 H
def f_Reader_unit_b148 (N : Nat) (g3 : Nat → Int32 → sh_H → Option sh_H)  (l1 : Nat) (l2 : Int32) (h : sh_H) : Option sh_H := (Option.bind (g3 l1 l2 h) (fun h1 => (some h1)))
theorem x_Reader_unit_b148 (N : Nat) {d : Nat} (hd : 2 ≤ d) {Q : ai_Q} {R : sh_H → Prop} (hR : ∀ h, R h → Q none (sh_E h)) (g3 : Nat → Int32 → sh_H → Option sh_H) (hg3 : ∀ (a : Nat) (b : Int32) (h : sh_H) {Q2 : ai_Q} {R2 : sh_H → Prop}, sh_ok (g3 a b h) R2 → (∀ h', R2 h' → Q2 none (sh_E h')) → ai_Ex sh_T d 91 [aR 5 0, aR 2 a, aI b] (sh_E h) Q2)  (l1 : Nat) (l2 : Int32) (h : sh_H) (H : sh_ok (f_Reader_unit_b148 N g3 l1 l2 h) R) : wq_90 d Q 148 [oR 5 0, oR 2 l1, oI l2] [] (sh_E h) := by
  refine ai_WP_steps mc_90 (sh_CM d) 4 (And.intro (Nat.le_of_ble_eq_true rfl) (hg3 l1 l2 h (sh_okB H) (fun h1 H => ?_)))
  show wq_90 d Q 154 [oR 5 0, oR 2 l1, oI l2] [] (sh_E h1)
  exact ai_WP_steps mc_90 (sh_CM d) 2 (hR h1 H)
def F_Reader_unit (N : Nat) (g3 : Nat → Int32 → sh_H → Option sh_H) (l1 : Nat) (l2 : Int32) (h : sh_H) : Option sh_H := (Option.bind (f_Reader_upcoming h) (fun v2 => (if v2 = (9 : Int32) then (Option.bind (f_Formulas_add l1 (1 : Int32) (0 : Int32) h) (fun h3 => (Option.bind (f_Reader_accept h3) (fun h4 => (some h4))))) else (if v2 = (10 : Int32) then (Option.bind (f_Formulas_add l1 (2 : Int32) (0 : Int32) h) (fun h5 => (Option.bind (f_Reader_accept h5) (fun h6 => (some h6))))) else (if v2 = (11 : Int32) then (Option.bind (f_Formulas_add l1 (3 : Int32) (0 : Int32) h) (fun h7 => (Option.bind (f_Reader_accept h7) (fun h8 => (some h8))))) else (if v2 = (12 : Int32) then (Option.bind (f_Formulas_add l1 (4 : Int32) (0 : Int32) h) (fun h9 => (Option.bind (f_Reader_accept h9) (fun h10 => (some h10))))) else (if v2 = (21 : Int32) then (Option.bind (f_Tokens_valueOf (h.1 5 0 3) h) (fun v11 => (Option.bind (f_Formulas_add l1 (0 : Int32) v11.toInt32 h) (fun h12 => (Option.bind (f_Reader_accept h12) (fun h13 => (some h13))))))) else (if v2 = (40 : Int32) then f_Reader_unit_b148 N g3 l1 l2 h else (if v2 = (91 : Int32) then f_Reader_unit_b148 N g3 l1 l2 h else (Option.bind (f_Reader_fail (1 : Int32) h) (fun h14 => (some h14))))))))))))
theorem X_Reader_unit (N : Nat) {d : Nat} (hd : 2 ≤ d) (g3 : Nat → Int32 → sh_H → Option sh_H) (hg3 : ∀ (a : Nat) (b : Int32) (h : sh_H) {Q2 : ai_Q} {R2 : sh_H → Prop}, sh_ok (g3 a b h) R2 → (∀ h', R2 h' → Q2 none (sh_E h')) → ai_Ex sh_T d 91 [aR 5 0, aR 2 a, aI b] (sh_E h) Q2) (l1 : Nat) (l2 : Int32) (h : sh_H) {Q : ai_Q} {R : sh_H → Prop} (H : sh_ok (F_Reader_unit N g3 l1 l2 h) R) (hR : ∀ h, R h → Q none (sh_E h)) : ai_Ex sh_T (d + 1) 90 [aR 5 0, aR 2 l1, aI l2] (sh_E h) Q := by
  refine And.intro (Nat.le_of_ble_eq_true rfl) ?_
  show wq_90 d Q 0 [oR 5 0, oR 2 l1, oI l2] [] (sh_E h)
  refine ai_WP_steps mc_90 (sh_CM d) 2 (And.intro (Nat.le_of_ble_eq_true rfl) (x_Reader_upcoming (Nat.le_trans (Nat.le_of_ble_eq_true rfl) hd) h (sh_okB H) (fun v2 H => ?_)))
  show wq_90 d Q 4 [oR 5 0, oR 2 l1, oI l2] [aI v2] (sh_E h)
  refine ai_WP_steps mc_90 (sh_CM d) 1 (And.intro (fun c => ?_) (fun c => ?_))
  · replace H := sh_okT c H
    show wq_90 d Q 96 [oR 5 0, oR 2 l1, oI l2] [] (sh_E h)
    refine ai_WP_steps mc_90 (sh_CM d) 4 (And.intro (Nat.le_of_ble_eq_true rfl) (x_Formulas_add (Nat.le_trans (Nat.le_of_ble_eq_true rfl) hd) l1 (1 : Int32) (0 : Int32) h (sh_okB H) (fun h3 H => ?_)))
    show wq_90 d Q 102 [oR 5 0, oR 2 l1, oI l2] [] (sh_E h3)
    refine ai_WP_steps mc_90 (sh_CM d) 2 (And.intro (Nat.le_of_ble_eq_true rfl) (x_Reader_accept (Nat.le_trans (Nat.le_of_ble_eq_true rfl) hd) h3 (sh_okB H) (fun h4 H => ?_)))
    show wq_90 d Q 106 [oR 5 0, oR 2 l1, oI l2] [] (sh_E h4)
    exact ai_WP_steps mc_90 (sh_CM d) 2 (hR h4 H)
  replace H := sh_okF c H
  refine And.intro (fun c => ?_) (fun c => ?_)
  · replace H := sh_okT c H
    show wq_90 d Q 109 [oR 5 0, oR 2 l1, oI l2] [] (sh_E h)
    refine ai_WP_steps mc_90 (sh_CM d) 4 (And.intro (Nat.le_of_ble_eq_true rfl) (x_Formulas_add (Nat.le_trans (Nat.le_of_ble_eq_true rfl) hd) l1 (2 : Int32) (0 : Int32) h (sh_okB H) (fun h5 H => ?_)))
    show wq_90 d Q 115 [oR 5 0, oR 2 l1, oI l2] [] (sh_E h5)
    refine ai_WP_steps mc_90 (sh_CM d) 2 (And.intro (Nat.le_of_ble_eq_true rfl) (x_Reader_accept (Nat.le_trans (Nat.le_of_ble_eq_true rfl) hd) h5 (sh_okB H) (fun h6 H => ?_)))
    show wq_90 d Q 119 [oR 5 0, oR 2 l1, oI l2] [] (sh_E h6)
    exact ai_WP_steps mc_90 (sh_CM d) 2 (hR h6 H)
  replace H := sh_okF c H
  refine And.intro (fun c => ?_) (fun c => ?_)
  · replace H := sh_okT c H
    show wq_90 d Q 122 [oR 5 0, oR 2 l1, oI l2] [] (sh_E h)
    refine ai_WP_steps mc_90 (sh_CM d) 4 (And.intro (Nat.le_of_ble_eq_true rfl) (x_Formulas_add (Nat.le_trans (Nat.le_of_ble_eq_true rfl) hd) l1 (3 : Int32) (0 : Int32) h (sh_okB H) (fun h7 H => ?_)))
    show wq_90 d Q 128 [oR 5 0, oR 2 l1, oI l2] [] (sh_E h7)
    refine ai_WP_steps mc_90 (sh_CM d) 2 (And.intro (Nat.le_of_ble_eq_true rfl) (x_Reader_accept (Nat.le_trans (Nat.le_of_ble_eq_true rfl) hd) h7 (sh_okB H) (fun h8 H => ?_)))
    show wq_90 d Q 132 [oR 5 0, oR 2 l1, oI l2] [] (sh_E h8)
    exact ai_WP_steps mc_90 (sh_CM d) 2 (hR h8 H)
  replace H := sh_okF c H
  refine And.intro (fun c => ?_) (fun c => ?_)
  · replace H := sh_okT c H
    show wq_90 d Q 135 [oR 5 0, oR 2 l1, oI l2] [] (sh_E h)
    refine ai_WP_steps mc_90 (sh_CM d) 4 (And.intro (Nat.le_of_ble_eq_true rfl) (x_Formulas_add (Nat.le_trans (Nat.le_of_ble_eq_true rfl) hd) l1 (4 : Int32) (0 : Int32) h (sh_okB H) (fun h9 H => ?_)))
    show wq_90 d Q 141 [oR 5 0, oR 2 l1, oI l2] [] (sh_E h9)
    refine ai_WP_steps mc_90 (sh_CM d) 2 (And.intro (Nat.le_of_ble_eq_true rfl) (x_Reader_accept (Nat.le_trans (Nat.le_of_ble_eq_true rfl) hd) h9 (sh_okB H) (fun h10 H => ?_)))
    show wq_90 d Q 145 [oR 5 0, oR 2 l1, oI l2] [] (sh_E h10)
    exact ai_WP_steps mc_90 (sh_CM d) 2 (hR h10 H)
  replace H := sh_okF c H
  refine And.intro (fun c => ?_) (fun c => ?_)
  · replace H := sh_okT c H
    show wq_90 d Q 72 [oR 5 0, oR 2 l1, oI l2] [] (sh_E h)
    refine ai_WP_steps mc_90 (sh_CM d) 7 (And.intro (Nat.le_of_ble_eq_true rfl) (x_Tokens_valueOf (Nat.le_trans (Nat.le_of_ble_eq_true rfl) hd) (h.1 5 0 3) h (sh_okB H) (fun v11 H => ?_)))
    show wq_90 d Q 85 [oR 5 0, oR 2 l1, oI l2] [aL v11, aI (0 : Int32), aR 2 l1] (sh_E h)
    refine ai_WP_steps mc_90 (sh_CM d) 2 (And.intro (Nat.le_of_ble_eq_true rfl) (x_Formulas_add (Nat.le_trans (Nat.le_of_ble_eq_true rfl) hd) l1 (0 : Int32) v11.toInt32 h (sh_okB H) (fun h12 H => ?_)))
    show wq_90 d Q 89 [oR 5 0, oR 2 l1, oI l2] [] (sh_E h12)
    refine ai_WP_steps mc_90 (sh_CM d) 2 (And.intro (Nat.le_of_ble_eq_true rfl) (x_Reader_accept (Nat.le_trans (Nat.le_of_ble_eq_true rfl) hd) h12 (sh_okB H) (fun h13 H => ?_)))
    show wq_90 d Q 93 [oR 5 0, oR 2 l1, oI l2] [] (sh_E h13)
    exact ai_WP_steps mc_90 (sh_CM d) 2 (hR h13 H)
  replace H := sh_okF c H
  refine And.intro (fun c => ?_) (fun c => ?_)
  · replace H := sh_okT c H
    exact x_Reader_unit_b148 N hd hR g3 hg3 l1 l2 h H
  replace H := sh_okF c H
  refine And.intro (fun c => ?_) (fun c => ?_)
  · replace H := sh_okT c H
    exact x_Reader_unit_b148 N hd hR g3 hg3 l1 l2 h H
  replace H := sh_okF c H
  show wq_90 d Q 157 [oR 5 0, oR 2 l1, oI l2] [] (sh_E h)
  refine ai_WP_steps mc_90 (sh_CM d) 3 (And.intro (Nat.le_of_ble_eq_true rfl) (x_Reader_fail (Nat.le_trans (Nat.le_of_ble_eq_true rfl) hd) (1 : Int32) h (sh_okB H) (fun h14 H => ?_)))
  show wq_90 d Q 162 [oR 5 0, oR 2 l1, oI l2] [] (sh_E h14)
  exact ai_WP_steps mc_90 (sh_CM d) 1 (hR h14 H)
