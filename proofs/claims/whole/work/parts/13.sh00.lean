/-! shallow functions, written by program -/
def f_Math_max  (l0 : Int32) (l1 : Int32) (h : sh_H) : Option Int32 := (if l0 < l1 then (some l1) else (some l0))
theorem x_Math_max {d : Nat} (hd : 1 ≤ d) (l0 : Int32) (l1 : Int32) (h : sh_H) {Q : ai_Q} {R : Int32 → Prop} (H : sh_ok (f_Math_max l0 l1 h) R) (hR : ∀ r, R r → Q (some (aI r)) (sh_E h)) : ai_Ex sh_T d 345 [aI l0, aI l1] (sh_E h) Q := by
  obtain ⟨d, rfl⟩ : ∃ e, d = e + 1 := ⟨d - 1, by omega⟩
  replace hd : 0 ≤ d := by omega
  refine And.intro (Nat.le_of_ble_eq_true rfl) ?_
  show wq_345 d Q 0 [oI l0, oI l1] [] (sh_E h)
  refine ai_WP_steps mc_345 (sh_CM d) 3 (And.intro (fun c => ?_) (fun c => ?_))
  · replace H := sh_okT c H
    show wq_345 d Q 9 [oI l0, oI l1] [] (sh_E h)
    exact ai_WP_steps mc_345 (sh_CM d) 2 (hR l1 H)
  · replace H := sh_okF c H
    show wq_345 d Q 5 [oI l0, oI l1] [] (sh_E h)
    exact ai_WP_steps mc_345 (sh_CM d) 3 (hR l0 H)
def f_Math_min  (l0 : Int32) (l1 : Int32) (h : sh_H) : Option Int32 := (if l1 < l0 then (some l1) else (some l0))
theorem x_Math_min {d : Nat} (hd : 1 ≤ d) (l0 : Int32) (l1 : Int32) (h : sh_H) {Q : ai_Q} {R : Int32 → Prop} (H : sh_ok (f_Math_min l0 l1 h) R) (hR : ∀ r, R r → Q (some (aI r)) (sh_E h)) : ai_Ex sh_T d 346 [aI l0, aI l1] (sh_E h) Q := by
  obtain ⟨d, rfl⟩ : ∃ e, d = e + 1 := ⟨d - 1, by omega⟩
  replace hd : 0 ≤ d := by omega
  refine And.intro (Nat.le_of_ble_eq_true rfl) ?_
  show wq_346 d Q 0 [oI l0, oI l1] [] (sh_E h)
  refine ai_WP_steps mc_346 (sh_CM d) 3 (And.intro (fun c => ?_) (fun c => ?_))
  · replace H := sh_okT c H
    show wq_346 d Q 9 [oI l0, oI l1] [] (sh_E h)
    exact ai_WP_steps mc_346 (sh_CM d) 2 (hR l1 H)
  · replace H := sh_okF c H
    show wq_346 d Q 5 [oI l0, oI l1] [] (sh_E h)
    exact ai_WP_steps mc_346 (sh_CM d) 3 (hR l0 H)
def f_CB_limit  (l0 : Int32) (l1 : Int32) (h : sh_H) : Option Int32 := (Option.bind (f_Math_min l0 l1 h) (fun v1 => (Option.bind (f_Math_max (0 : Int32) v1 h) (fun v2 => (some v2)))))
theorem x_CB_limit {d : Nat} (hd : 2 ≤ d) (l0 : Int32) (l1 : Int32) (h : sh_H) {Q : ai_Q} {R : Int32 → Prop} (H : sh_ok (f_CB_limit l0 l1 h) R) (hR : ∀ r, R r → Q (some (aI r)) (sh_E h)) : ai_Ex sh_T d 205 [aI l0, aI l1] (sh_E h) Q := by
  obtain ⟨d, rfl⟩ : ∃ e, d = e + 1 := ⟨d - 1, by omega⟩
  replace hd : 1 ≤ d := by omega
  refine And.intro (Nat.le_of_ble_eq_true rfl) ?_
  show wq_205 d Q 0 [oI l0, oI l1] [] (sh_E h)
  refine ai_WP_steps mc_205 (sh_CM d) 4 (And.intro (Nat.le_of_ble_eq_true rfl) (x_Math_min (Nat.le_trans (Nat.le_of_ble_eq_true rfl) hd) l0 l1 h (sh_okB H) (fun v1 H => ?_)))
  show wq_205 d Q 6 [oI l0, oI l1] [aI v1, aI (0 : Int32)] (sh_E h)
  refine ai_WP_steps mc_205 (sh_CM d) 1 (And.intro (Nat.le_of_ble_eq_true rfl) (x_Math_max (Nat.le_trans (Nat.le_of_ble_eq_true rfl) hd) (0 : Int32) v1 h (sh_okB H) (fun v2 H => ?_)))
  show wq_205 d Q 9 [oI l0, oI l1] [aI v2] (sh_E h)
  exact ai_WP_steps mc_205 (sh_CM d) 1 (hR v2 H)
def f_Calendar_mixed  (l0 : Int32) (l1 : Int32) (h : sh_H) : Option Int32 := (some ((((l0 ^^^ l1) * (1103515245 : Int32)) + (12345 : Int32)) ^^^ (sh_us (((l0 ^^^ l1) * (1103515245 : Int32)) + (12345 : Int32)) (15 : Int32))))
theorem x_Calendar_mixed {d : Nat} (hd : 1 ≤ d) (l0 : Int32) (l1 : Int32) (h : sh_H) {Q : ai_Q} {R : Int32 → Prop} (H : sh_ok (f_Calendar_mixed l0 l1 h) R) (hR : ∀ r, R r → Q (some (aI r)) (sh_E h)) : ai_Ex sh_T d 15 [aI l0, aI l1] (sh_E h) Q := by
  obtain ⟨d, rfl⟩ : ∃ e, d = e + 1 := ⟨d - 1, by omega⟩
  replace hd : 0 ≤ d := by omega
  refine And.intro (Nat.le_of_ble_eq_true rfl) ?_
  show wq_15 d Q 0 [oI l0, oI l1, none] [] (sh_E h)
  exact ai_WP_steps mc_15 (sh_CM d) 14 (hR ((((l0 ^^^ l1) * (1103515245 : Int32)) + (12345 : Int32)) ^^^ (sh_us (((l0 ^^^ l1) * (1103515245 : Int32)) + (12345 : Int32)) (15 : Int32))) H)
def f_Calendar_lot  (l0 : Int32) (l1 : Int32) (l2 : Int32) (h : sh_H) : Option Int32 := (Option.bind (f_Calendar_mixed l1 (15 : Int32) h) (fun v1 => (Option.bind (f_Calendar_mixed v1 l2 h) (fun v2 => (if 0 < l0 then (if ¬ l0 = 0 then (some ((sh_us v2 (1 : Int32)) - (sh_us v2 (1 : Int32)) / l0 * l0)) else none) else (some (0 : Int32)))))))
theorem x_Calendar_lot {d : Nat} (hd : 2 ≤ d) (l0 : Int32) (l1 : Int32) (l2 : Int32) (h : sh_H) {Q : ai_Q} {R : Int32 → Prop} (H : sh_ok (f_Calendar_lot l0 l1 l2 h) R) (hR : ∀ r, R r → Q (some (aI r)) (sh_E h)) : ai_Ex sh_T d 14 [aI l0, aI l1, aI l2] (sh_E h) Q := by
  obtain ⟨d, rfl⟩ : ∃ e, d = e + 1 := ⟨d - 1, by omega⟩
  replace hd : 1 ≤ d := by omega
  refine And.intro (Nat.le_of_ble_eq_true rfl) ?_
  show wq_14 d Q 0 [oI l0, oI l1, oI l2, none] [] (sh_E h)
  refine ai_WP_steps mc_14 (sh_CM d) 3 (And.intro (Nat.le_of_ble_eq_true rfl) (x_Calendar_mixed (Nat.le_trans (Nat.le_of_ble_eq_true rfl) hd) l1 (15 : Int32) h (sh_okB H) (fun v1 H => ?_)))
  show wq_14 d Q 6 [oI l0, oI l1, oI l2, _] [aI v1] (sh_E h)
  refine ai_WP_steps mc_14 (sh_CM d) 2 (And.intro (Nat.le_of_ble_eq_true rfl) (x_Calendar_mixed (Nat.le_trans (Nat.le_of_ble_eq_true rfl) hd) v1 l2 h (sh_okB H) (fun v2 H => ?_)))
  show wq_14 d Q 10 [oI l0, oI l1, oI l2, _] [aI v2] (sh_E h)
  refine ai_WP_steps mc_14 (sh_CM d) 5 (And.intro (fun c => ?_) (fun c => ?_))
  · replace H := sh_okT c H
    show wq_14 d Q 17 [oI l0, oI l1, _, oI (sh_us v2 (1 : Int32))] [] (sh_E h)
    have c := sh_okG H
    replace H := sh_okH H
    refine ai_WP_steps mc_14 (sh_CM d) 3 (And.intro c ?_)
    show wq_14 d Q 20 [oI l0, oI l1, _, oI (sh_us v2 (1 : Int32))] [aI ((sh_us v2 (1 : Int32)) - (sh_us v2 (1 : Int32)) / l0 * l0)] (sh_E h)
    exact ai_WP_steps mc_14 (sh_CM d) 2 (hR ((sh_us v2 (1 : Int32)) - (sh_us v2 (1 : Int32)) / l0 * l0) H)
  · replace H := sh_okF c H
    show wq_14 d Q 23 [oI l0, oI l1, _, oI (sh_us v2 (1 : Int32))] [] (sh_E h)
    exact ai_WP_steps mc_14 (sh_CM d) 2 (hR (0 : Int32) H)
def f_Pieces_row  (l0 : Int32) (l1 : Int32) (h : sh_H) : Option Int32 := (some ((l0 * (6 : Int32)) + l1))
theorem x_Pieces_row {d : Nat} (hd : 1 ≤ d) (l0 : Int32) (l1 : Int32) (h : sh_H) {Q : ai_Q} {R : Int32 → Prop} (H : sh_ok (f_Pieces_row l0 l1 h) R) (hR : ∀ r, R r → Q (some (aI r)) (sh_E h)) : ai_Ex sh_T d 62 [aI l0, aI l1] (sh_E h) Q := by
  obtain ⟨d, rfl⟩ : ∃ e, d = e + 1 := ⟨d - 1, by omega⟩
  replace hd : 0 ≤ d := by omega
  refine And.intro (Nat.le_of_ble_eq_true rfl) ?_
  show wq_62 d Q 0 [oI l0, oI l1] [] (sh_E h)
  exact ai_WP_steps mc_62 (sh_CM d) 6 (hR ((l0 * (6 : Int32)) + l1) H)
def f_Rows_cell_b29   (l0 : Nat) (l1 : Int32) (l2 : Int32) (s0 : Int32) (h : sh_H) : Option Int32 := (if s0 = 0 then (some (-1 : Int32)) else (some ((l1 * (h.1 6 l0 1)) + l2)))
theorem x_Rows_cell_b29 {d : Nat} (hd : 0 ≤ d) (h : sh_H) {Q : ai_Q} {R : Int32 → Prop} (hR : ∀ r, R r → Q (some (aI r)) (sh_E h))   (l0 : Nat) (l1 : Int32) (l2 : Int32) (s0 : Int32) {d3 : Option ai_V} (H : sh_ok (f_Rows_cell_b29 l0 l1 l2 s0 h) R) : wq_103 d Q 29 [oR 6 l0, oI l1, oI l2, d3] [aI s0] (sh_E h) := by
  refine ai_WP_steps mc_103 (sh_CM d) 3 (And.intro (fun c => ?_) (fun c => ?_))
  · replace H := sh_okT c H
    show wq_103 d Q 45 [oR 6 l0, oI l1, oI l2, oI s0] [] (sh_E h)
    exact ai_WP_steps mc_103 (sh_CM d) 2 (hR (-1 : Int32) H)
  · replace H := sh_okF c H
    show wq_103 d Q 34 [oR 6 l0, oI l1, oI l2, oI s0] [] (sh_E h)
    exact ai_WP_steps mc_103 (sh_CM d) 8 (hR ((l1 * (h.1 6 l0 1)) + l2) H)
def f_Rows_cell_b28   (l0 : Nat) (l1 : Int32) (l2 : Int32) (h : sh_H) : Option Int32 := f_Rows_cell_b29 l0 l1 l2 (0 : Int32) h
theorem x_Rows_cell_b28 {d : Nat} (hd : 0 ≤ d) (h : sh_H) {Q : ai_Q} {R : Int32 → Prop} (hR : ∀ r, R r → Q (some (aI r)) (sh_E h))   (l0 : Nat) (l1 : Int32) (l2 : Int32) {d3 : Option ai_V} (H : sh_ok (f_Rows_cell_b28 l0 l1 l2 h) R) : wq_103 d Q 28 [oR 6 l0, oI l1, oI l2, d3] [] (sh_E h) := by
  refine ai_WP_steps mc_103 (sh_CM d) 1 ?_
  exact x_Rows_cell_b29 hd h hR l0 l1 l2 (0 : Int32) H
def f_Rows_cell  (l0 : Nat) (l1 : Int32) (l2 : Int32) (h : sh_H) : Option Int32 := (if l1 < 0 then f_Rows_cell_b28 l0 l1 l2 h else (if l1 < (h.1 6 l0 3) then (if l2 < 0 then f_Rows_cell_b28 l0 l1 l2 h else (if l2 < (h.1 6 l0 1) then f_Rows_cell_b29 l0 l1 l2 (1 : Int32) h else f_Rows_cell_b28 l0 l1 l2 h)) else f_Rows_cell_b28 l0 l1 l2 h))
theorem x_Rows_cell {d : Nat} (hd : 1 ≤ d) (l0 : Nat) (l1 : Int32) (l2 : Int32) (h : sh_H) {Q : ai_Q} {R : Int32 → Prop} (H : sh_ok (f_Rows_cell l0 l1 l2 h) R) (hR : ∀ r, R r → Q (some (aI r)) (sh_E h)) : ai_Ex sh_T d 103 [aR 6 l0, aI l1, aI l2] (sh_E h) Q := by
  obtain ⟨d, rfl⟩ : ∃ e, d = e + 1 := ⟨d - 1, by omega⟩
  replace hd : 0 ≤ d := by omega
  refine And.intro (Nat.le_of_ble_eq_true rfl) ?_
  show wq_103 d Q 0 [oR 6 l0, oI l1, oI l2, none] [] (sh_E h)
  refine ai_WP_steps mc_103 (sh_CM d) 2 (And.intro (fun c => ?_) (fun c => ?_))
  · replace H := sh_okT c H
    exact x_Rows_cell_b28 hd h hR l0 l1 l2 H
  · replace H := sh_okF c H
    show wq_103 d Q 4 [oR 6 l0, oI l1, oI l2, _] [] (sh_E h)
    refine ai_WP_steps mc_103 (sh_CM d) 4 (And.intro (fun c => ?_) (fun c => ?_))
    · replace H := sh_okT c H
      show wq_103 d Q 12 [oR 6 l0, oI l1, oI l2, _] [] (sh_E h)
      refine ai_WP_steps mc_103 (sh_CM d) 2 (And.intro (fun c => ?_) (fun c => ?_))
      · replace H := sh_okT c H
        exact x_Rows_cell_b28 hd h hR l0 l1 l2 H
      · replace H := sh_okF c H
        show wq_103 d Q 16 [oR 6 l0, oI l1, oI l2, _] [] (sh_E h)
        refine ai_WP_steps mc_103 (sh_CM d) 4 (And.intro (fun c => ?_) (fun c => ?_))
        · replace H := sh_okT c H
          show wq_103 d Q 24 [oR 6 l0, oI l1, oI l2, _] [] (sh_E h)
          refine ai_WP_steps mc_103 (sh_CM d) 2 ?_
          exact x_Rows_cell_b29 hd h hR l0 l1 l2 (1 : Int32) H
        · replace H := sh_okF c H
          exact x_Rows_cell_b28 hd h hR l0 l1 l2 H
    · replace H := sh_okF c H
      exact x_Rows_cell_b28 hd h hR l0 l1 l2 H
def f_Rows_get_b29    (h : sh_H) : Option Int32 := (some (0 : Int32))
theorem x_Rows_get_b29 {d : Nat} (hd : 1 ≤ d) (h : sh_H) {Q : ai_Q} {R : Int32 → Prop} (hR : ∀ r, R r → Q (some (aI r)) (sh_E h))    {d0 d1 d2 d3 : Option ai_V} (H : sh_ok (f_Rows_get_b29 h) R) : wq_101 d Q 29 [d0, d1, d2, d3] [] (sh_E h) := by
  exact ai_WP_steps mc_101 (sh_CM d) 2 (hR (0 : Int32) H)
def f_Rows_get  (l0 : Nat) (l1 : Int32) (l2 : Int32) (h : sh_H) : Option Int32 := (Option.bind (f_Rows_cell l0 l1 l2 h) (fun v1 => (if v1 < 0 then f_Rows_get_b29 h else (if v1 < (Int32.ofNat (sh_l13 (sh_rc l0))) then (if ai_in v1 (sh_l13 (sh_rc l0)) then (some (h.1 13 (sh_rc l0) v1.toNatClampNeg)) else none) else f_Rows_get_b29 h))))
theorem x_Rows_get {d : Nat} (hd : 2 ≤ d) (l0 : Nat) (l1 : Int32) (l2 : Int32) (h : sh_H) {Q : ai_Q} {R : Int32 → Prop} (H : sh_ok (f_Rows_get l0 l1 l2 h) R) (hR : ∀ r, R r → Q (some (aI r)) (sh_E h)) : ai_Ex sh_T d 101 [aR 6 l0, aI l1, aI l2] (sh_E h) Q := by
  obtain ⟨d, rfl⟩ : ∃ e, d = e + 1 := ⟨d - 1, by omega⟩
  replace hd : 1 ≤ d := by omega
  refine And.intro (Nat.le_of_ble_eq_true rfl) ?_
  show wq_101 d Q 0 [oR 6 l0, oI l1, oI l2, none] [] (sh_E h)
  refine ai_WP_steps mc_101 (sh_CM d) 4 (And.intro (Nat.le_of_ble_eq_true rfl) (x_Rows_cell (Nat.le_trans (Nat.le_of_ble_eq_true rfl) hd) l0 l1 l2 h (sh_okB H) (fun v1 H => ?_)))
  show wq_101 d Q 6 [oR 6 l0, oI l1, oI l2, _] [aI v1] (sh_E h)
  refine ai_WP_steps mc_101 (sh_CM d) 3 (And.intro (fun c => ?_) (fun c => ?_))
  · replace H := sh_okT c H
    exact x_Rows_get_b29 hd h hR H
  · replace H := sh_okF c H
    show wq_101 d Q 11 [oR 6 l0, oI l1, _, oI v1] [] (sh_E h)
    refine ai_WP_steps mc_101 (sh_CM d) 5 (And.intro (fun c => ?_) (fun c => ?_))
    · replace H := sh_okT c H
      show wq_101 d Q 20 [oR 6 l0, oI l1, _, oI v1] [] (sh_E h)
      have c := sh_okG H
      replace H := sh_okH H
      refine ai_WP_steps mc_101 (sh_CM d) 4 (And.intro c ?_)
      show wq_101 d Q 26 [oR 6 l0, oI l1, _, oI v1] [aI (h.1 13 (sh_rc l0) v1.toNatClampNeg)] (sh_E h)
      exact ai_WP_steps mc_101 (sh_CM d) 2 (hR (h.1 13 (sh_rc l0) v1.toNatClampNeg) H)
    · replace H := sh_okF c H
      exact x_Rows_get_b29 hd h hR H
def f_Pieces_get  (l0 : Nat) (l1 : Int32) (l2 : Int32) (l3 : Int32) (h : sh_H) : Option Int32 := (Option.bind (f_Pieces_row l1 l2 h) (fun v1 => (Option.bind (f_Rows_get (sh_pr l0) v1 l3 h) (fun v2 => (some v2)))))
theorem x_Pieces_get {d : Nat} (hd : 3 ≤ d) (l0 : Nat) (l1 : Int32) (l2 : Int32) (l3 : Int32) (h : sh_H) {Q : ai_Q} {R : Int32 → Prop} (H : sh_ok (f_Pieces_get l0 l1 l2 l3 h) R) (hR : ∀ r, R r → Q (some (aI r)) (sh_E h)) : ai_Ex sh_T d 63 [aR 4 l0, aI l1, aI l2, aI l3] (sh_E h) Q := by
  obtain ⟨d, rfl⟩ : ∃ e, d = e + 1 := ⟨d - 1, by omega⟩
  replace hd : 2 ≤ d := by omega
  refine And.intro (Nat.le_of_ble_eq_true rfl) ?_
  show wq_63 d Q 0 [oR 4 l0, oI l1, oI l2, oI l3] [] (sh_E h)
  refine ai_WP_steps mc_63 (sh_CM d) 5 (And.intro (Nat.le_of_ble_eq_true rfl) (x_Pieces_row (Nat.le_trans (Nat.le_of_ble_eq_true rfl) hd) l1 l2 h (sh_okB H) (fun v1 H => ?_)))
  show wq_63 d Q 9 [oR 4 l0, oI l1, oI l2, oI l3] [aI v1, aR 6 (sh_pr l0)] (sh_E h)
  refine ai_WP_steps mc_63 (sh_CM d) 2 (And.intro (Nat.le_of_ble_eq_true rfl) (x_Rows_get (Nat.le_trans (Nat.le_of_ble_eq_true rfl) hd) (sh_pr l0) v1 l3 h (sh_okB H) (fun v2 H => ?_)))
  show wq_63 d Q 13 [oR 4 l0, oI l1, oI l2, oI l3] [aI v2] (sh_E h)
  exact ai_WP_steps mc_63 (sh_CM d) 1 (hR v2 H)
def f_Pieces_all_c5 (N : Nat)   (k5 : Nat → Int32 → Int32 → Int32 → Int32 → sh_H → Option Int32) (l0 : Nat) (l1 : Int32) (l2 : Int32) (l3 : Int32) (l4 : Int32) (h : sh_H) : Option Int32 := (if l4 < (4 : Int32) then (Option.bind (f_Pieces_get l0 l1 l2 l4 h) (fun v1 => k5 l0 l1 l2 (l3 + v1) (l4 + (1 : Int32)) h)) else (some l3))
def f_Pieces_all_l5 (N : Nat)   (n : Nat) : Nat → Int32 → Int32 → Int32 → Int32 → sh_H → Option Int32 := Nat.rec (motive := fun _ => Nat → Int32 → Int32 → Int32 → Int32 → sh_H → Option Int32) (fun _ _ _ _ _ _ => none) (fun _ k5 => f_Pieces_all_c5 N k5) n
theorem x_Pieces_all_l5 (N : Nat) {d : Nat} (hd : 3 ≤ d) (h : sh_H) {Q : ai_Q} {R : Int32 → Prop} (hR : ∀ r, R r → Q (some (aI r)) (sh_E h))   (n : Nat) : ∀ (l0 : Nat) (l1 : Int32) (l2 : Int32) (l3 : Int32) (l4 : Int32), sh_ok (f_Pieces_all_l5 N n l0 l1 l2 l3 l4 h) R → wq_64 d Q 5 [oR 4 l0, oI l1, oI l2, oI l3, oI l4] [] (sh_E h) := by
  induction n with
  | zero => intro l0 l1 l2 l3 l4 H; exact H.elim
  | succ n ih =>
    intro l0 l1 l2 l3 l4 H
    have hk5 := @ih
    replace H : sh_ok (f_Pieces_all_c5 N (f_Pieces_all_l5 N n) l0 l1 l2 l3 l4 h) R := H
    revert hk5 H
    generalize f_Pieces_all_l5 N n = k5
    intro hk5 H
    refine ai_WP_steps mc_64 (sh_CM d) 3 (And.intro (fun c => ?_) (fun c => ?_))
    · replace H := sh_okT c H
      show wq_64 d Q 11 [oR 4 l0, oI l1, oI l2, oI l3, oI l4] [] (sh_E h)
      refine ai_WP_steps mc_64 (sh_CM d) 6 (And.intro (Nat.le_of_ble_eq_true rfl) (x_Pieces_get (Nat.le_trans (Nat.le_of_ble_eq_true rfl) hd) l0 l1 l2 l4 h (sh_okB H) (fun v1 H => ?_)))
      show wq_64 d Q 20 [oR 4 l0, oI l1, oI l2, oI l3, oI l4] [aI v1, aI l3] (sh_E h)
      refine ai_WP_steps mc_64 (sh_CM d) 4 ?_
      exact hk5 l0 l1 l2 (l3 + v1) (l4 + (1 : Int32)) H
    · replace H := sh_okF c H
      show wq_64 d Q 28 [oR 4 l0, oI l1, oI l2, oI l3, oI l4] [] (sh_E h)
      exact ai_WP_steps mc_64 (sh_CM d) 2 (hR l3 H)
def f_Pieces_all (N : Nat)  (l0 : Nat) (l1 : Int32) (l2 : Int32) (h : sh_H) : Option Int32 := f_Pieces_all_l5 N N l0 l1 l2 (0 : Int32) (0 : Int32) h
theorem x_Pieces_all (N : Nat) {d : Nat} (hd : 4 ≤ d) (l0 : Nat) (l1 : Int32) (l2 : Int32) (h : sh_H) {Q : ai_Q} {R : Int32 → Prop} (H : sh_ok (f_Pieces_all N l0 l1 l2 h) R) (hR : ∀ r, R r → Q (some (aI r)) (sh_E h)) : ai_Ex sh_T d 64 [aR 4 l0, aI l1, aI l2] (sh_E h) Q := by
  obtain ⟨d, rfl⟩ : ∃ e, d = e + 1 := ⟨d - 1, by omega⟩
  replace hd : 3 ≤ d := by omega
  refine And.intro (Nat.le_of_ble_eq_true rfl) ?_
  show wq_64 d Q 0 [oR 4 l0, oI l1, oI l2, none, none] [] (sh_E h)
  refine ai_WP_steps mc_64 (sh_CM d) 4 ?_
  exact x_Pieces_all_l5 N hd h hR N l0 l1 l2 (0 : Int32) (0 : Int32) H
def f_Rows_put  (l0 : Nat) (l1 : Int32) (l2 : Int32) (l3 : Int32) (h : sh_H) : Option sh_H := (Option.bind (f_Rows_cell l0 l1 l2 h) (fun v1 => (if v1 < 0 then (some h) else (if v1 < (Int32.ofNat (sh_l13 (sh_rc l0))) then (if ai_in v1 (sh_l13 (sh_rc l0)) then (sh_let (sh_pI h 13 (sh_rc l0) v1.toNatClampNeg l3) (fun h2 => (some h2))) else none) else (some h)))))
theorem x_Rows_put {d : Nat} (hd : 2 ≤ d) (l0 : Nat) (l1 : Int32) (l2 : Int32) (l3 : Int32) (h : sh_H) {Q : ai_Q} {R : sh_H → Prop} (H : sh_ok (f_Rows_put l0 l1 l2 l3 h) R) (hR : ∀ h, R h → Q none (sh_E h)) : ai_Ex sh_T d 102 [aR 6 l0, aI l1, aI l2, aI l3] (sh_E h) Q := by
  obtain ⟨d, rfl⟩ : ∃ e, d = e + 1 := ⟨d - 1, by omega⟩
  replace hd : 1 ≤ d := by omega
  refine And.intro (Nat.le_of_ble_eq_true rfl) ?_
  show wq_102 d Q 0 [oR 6 l0, oI l1, oI l2, oI l3, none] [] (sh_E h)
  refine ai_WP_steps mc_102 (sh_CM d) 4 (And.intro (Nat.le_of_ble_eq_true rfl) (x_Rows_cell (Nat.le_trans (Nat.le_of_ble_eq_true rfl) hd) l0 l1 l2 h (sh_okB H) (fun v1 H => ?_)))
  show wq_102 d Q 6 [oR 6 l0, oI l1, oI l2, oI l3, _] [aI v1] (sh_E h)
  refine ai_WP_steps mc_102 (sh_CM d) 3 (And.intro (fun c => ?_) (fun c => ?_))
  · replace H := sh_okT c H
    show wq_102 d Q 31 [oR 6 l0, oI l1, oI l2, oI l3, oI v1] [] (sh_E h)
    exact ai_WP_steps mc_102 (sh_CM d) 1 (hR h H)
  · replace H := sh_okF c H
    show wq_102 d Q 13 [oR 6 l0, oI l1, oI l2, oI l3, oI v1] [] (sh_E h)
    refine ai_WP_steps mc_102 (sh_CM d) 5 (And.intro (fun c => ?_) (fun c => ?_))
    · replace H := sh_okT c H
      show wq_102 d Q 23 [oR 6 l0, oI l1, oI l2, oI l3, oI v1] [] (sh_E h)
      have c := sh_okG H
      replace H := sh_okH H
      refine ai_WP_steps mc_102 (sh_CM d) 5 (And.intro c ?_)
      show wq_102 d Q 31 [oR 6 l0, oI l1, oI l2, oI l3, oI v1] [] (sh_E (sh_pI h 13 (sh_rc l0) v1.toNatClampNeg l3))
      replace H := sh_okL H
      generalize sh_pI h 13 (sh_rc l0) v1.toNatClampNeg l3 = h2 at H ⊢
      exact ai_WP_steps mc_102 (sh_CM d) 1 (hR h2 H)
    · replace H := sh_okF c H
      show wq_102 d Q 31 [oR 6 l0, oI l1, oI l2, oI l3, oI v1] [] (sh_E h)
      exact ai_WP_steps mc_102 (sh_CM d) 1 (hR h H)
def f_Pieces_add  (l0 : Nat) (l1 : Int32) (l2 : Int32) (l3 : Int32) (l4 : Int32) (h : sh_H) : Option sh_H := (Option.bind (f_Pieces_row l1 l2 h) (fun v1 => (Option.bind (f_Rows_get (sh_pr l0) v1 l3 h) (fun v2 => (Option.bind (f_Rows_put (sh_pr l0) v1 l3 (v2 + l4) h) (fun h3 => (some h3)))))))
theorem x_Pieces_add {d : Nat} (hd : 3 ≤ d) (l0 : Nat) (l1 : Int32) (l2 : Int32) (l3 : Int32) (l4 : Int32) (h : sh_H) {Q : ai_Q} {R : sh_H → Prop} (H : sh_ok (f_Pieces_add l0 l1 l2 l3 l4 h) R) (hR : ∀ h, R h → Q none (sh_E h)) : ai_Ex sh_T d 65 [aR 4 l0, aI l1, aI l2, aI l3, aI l4] (sh_E h) Q := by
  obtain ⟨d, rfl⟩ : ∃ e, d = e + 1 := ⟨d - 1, by omega⟩
  replace hd : 2 ≤ d := by omega
  refine And.intro (Nat.le_of_ble_eq_true rfl) ?_
  show wq_65 d Q 0 [oR 4 l0, oI l1, oI l2, oI l3, oI l4, none] [] (sh_E h)
  refine ai_WP_steps mc_65 (sh_CM d) 3 (And.intro (Nat.le_of_ble_eq_true rfl) (x_Pieces_row (Nat.le_trans (Nat.le_of_ble_eq_true rfl) hd) l1 l2 h (sh_okB H) (fun v1 H => ?_)))
  show wq_65 d Q 5 [oR 4 l0, oI l1, oI l2, oI l3, oI l4, _] [aI v1] (sh_E h)
  refine ai_WP_steps mc_65 (sh_CM d) 10 (And.intro (Nat.le_of_ble_eq_true rfl) (x_Rows_get (Nat.le_trans (Nat.le_of_ble_eq_true rfl) hd) (sh_pr l0) v1 l3 h (sh_okB H) (fun v2 H => ?_)))
  show wq_65 d Q 24 [oR 4 l0, oI l1, oI l2, oI l3, oI l4, oI v1] [aI v2, aI l3, aI v1, aR 6 (sh_pr l0)] (sh_E h)
  refine ai_WP_steps mc_65 (sh_CM d) 3 (And.intro (Nat.le_of_ble_eq_true rfl) (x_Rows_put (Nat.le_trans (Nat.le_of_ble_eq_true rfl) hd) (sh_pr l0) v1 l3 (v2 + l4) h (sh_okB H) (fun h3 H => ?_)))
  show wq_65 d Q 30 [oR 4 l0, oI l1, oI l2, oI l3, oI l4, oI v1] [] (sh_E h3)
  exact ai_WP_steps mc_65 (sh_CM d) 1 (hR h3 H)
def f_Pieces_move_b70 (N : Nat)  (k7 : Nat → Int32 → Int32 → Int32 → Int32 → Int32 → Int32 → sh_H → Option sh_H) (l0 : Nat) (l1 : Int32) (l2 : Int32) (l3 : Int32) (l5 : Int32) (l6 : Int32) (l7 : Int32) (l9 : Int32) (h : sh_H) : Option sh_H := k7 l0 l1 l2 l3 l5 (l6 - l9) (l7 + (1 : Int32)) h
theorem x_Pieces_move_b70 (N : Nat) {d : Nat} (hd : 3 ≤ d) {Q : ai_Q} {R : sh_H → Prop} (hR : ∀ h, R h → Q none (sh_E h))  (k7 : Nat → Int32 → Int32 → Int32 → Int32 → Int32 → Int32 → sh_H → Option sh_H) (hk7 : ∀ (l0 : Nat) (l1 : Int32) (l2 : Int32) (l3 : Int32) (l5 : Int32) (l6 : Int32) (l7 : Int32) {d4 d8 d9 : Option ai_V} (h : sh_H), sh_ok (k7 l0 l1 l2 l3 l5 l6 l7 h) R → wq_66 d Q 7 [oR 4 l0, oI l1, oI l2, oI l3, d4, oI l5, oI l6, oI l7, d8, d9] [] (sh_E h)) (l0 : Nat) (l1 : Int32) (l2 : Int32) (l3 : Int32) (l5 : Int32) (l6 : Int32) (l7 : Int32) (l9 : Int32) {d4 d8 : Option ai_V} (h : sh_H) (H : sh_ok (f_Pieces_move_b70 N k7 l0 l1 l2 l3 l5 l6 l7 l9 h) R) : wq_66 d Q 70 [oR 4 l0, oI l1, oI l2, oI l3, d4, oI l5, oI l6, oI l7, d8, oI l9] [] (sh_E h) := by
  refine ai_WP_steps mc_66 (sh_CM d) 6 ?_
  exact hk7 l0 l1 l2 l3 l5 (l6 - l9) (l7 + (1 : Int32)) h H
def f_Pieces_move_b27 (N : Nat)  (k7 : Nat → Int32 → Int32 → Int32 → Int32 → Int32 → Int32 → sh_H → Option sh_H) (l0 : Nat) (l1 : Int32) (l2 : Int32) (l3 : Int32) (l5 : Int32) (l6 : Int32) (l7 : Int32) (s0 : Int32) (h : sh_H) : Option sh_H := (Option.bind (f_Pieces_get l0 l2 l1 s0 h) (fun v1 => (Option.bind (f_CB_limit l6 v1 h) (fun v2 => (Option.bind (f_Pieces_add l0 l2 l1 s0 (-v2) h) (fun h3 => (if l3 = (-1 : Int32) then f_Pieces_move_b70 N k7 l0 l1 l2 l3 l5 l6 l7 v2 h3 else (Option.bind (f_Pieces_add l0 l3 l1 s0 v2 h3) (fun h4 => f_Pieces_move_b70 N k7 l0 l1 l2 l3 l5 l6 l7 v2 h4)))))))))
theorem x_Pieces_move_b27 (N : Nat) {d : Nat} (hd : 3 ≤ d) {Q : ai_Q} {R : sh_H → Prop} (hR : ∀ h, R h → Q none (sh_E h))  (k7 : Nat → Int32 → Int32 → Int32 → Int32 → Int32 → Int32 → sh_H → Option sh_H) (hk7 : ∀ (l0 : Nat) (l1 : Int32) (l2 : Int32) (l3 : Int32) (l5 : Int32) (l6 : Int32) (l7 : Int32) {d4 d8 d9 : Option ai_V} (h : sh_H), sh_ok (k7 l0 l1 l2 l3 l5 l6 l7 h) R → wq_66 d Q 7 [oR 4 l0, oI l1, oI l2, oI l3, d4, oI l5, oI l6, oI l7, d8, d9] [] (sh_E h)) (l0 : Nat) (l1 : Int32) (l2 : Int32) (l3 : Int32) (l5 : Int32) (l6 : Int32) (l7 : Int32) (s0 : Int32) {d4 d8 d9 : Option ai_V} (h : sh_H) (H : sh_ok (f_Pieces_move_b27 N k7 l0 l1 l2 l3 l5 l6 l7 s0 h) R) : wq_66 d Q 27 [oR 4 l0, oI l1, oI l2, oI l3, d4, oI l5, oI l6, oI l7, d8, d9] [aI s0] (sh_E h) := by
  refine ai_WP_steps mc_66 (sh_CM d) 7 (And.intro (Nat.le_of_ble_eq_true rfl) (x_Pieces_get (Nat.le_trans (Nat.le_of_ble_eq_true rfl) hd) l0 l2 l1 s0 h (sh_okB H) (fun v1 H => ?_)))
  show wq_66 d Q 39 [oR 4 l0, oI l1, oI l2, oI l3, _, oI l5, oI l6, oI l7, oI s0, _] [aI v1, aI l6] (sh_E h)
  refine ai_WP_steps mc_66 (sh_CM d) 1 (And.intro (Nat.le_of_ble_eq_true rfl) (x_CB_limit (Nat.le_trans (Nat.le_of_ble_eq_true rfl) hd) l6 v1 h (sh_okB H) (fun v2 H => ?_)))
  show wq_66 d Q 42 [oR 4 l0, oI l1, oI l2, oI l3, _, oI l5, oI l6, oI l7, oI s0, _] [aI v2] (sh_E h)
  refine ai_WP_steps mc_66 (sh_CM d) 8 (And.intro (Nat.le_of_ble_eq_true rfl) (x_Pieces_add (Nat.le_trans (Nat.le_of_ble_eq_true rfl) hd) l0 l2 l1 s0 (-v2) h (sh_okB H) (fun h3 H => ?_)))
  show wq_66 d Q 55 [oR 4 l0, oI l1, oI l2, oI l3, _, oI l5, oI l6, oI l7, oI s0, oI v2] [] (sh_E h3)
  refine ai_WP_steps mc_66 (sh_CM d) 3 (And.intro (fun c => ?_) (fun c => ?_))
  · replace H := sh_okT c H
    exact x_Pieces_move_b70 N hd hR k7 hk7 l0 l1 l2 l3 l5 l6 l7 v2 h3 H
  · replace H := sh_okF c H
    show wq_66 d Q 60 [oR 4 l0, oI l1, oI l2, oI l3, _, oI l5, oI l6, oI l7, oI s0, oI v2] [] (sh_E h3)
    refine ai_WP_steps mc_66 (sh_CM d) 6 (And.intro (Nat.le_of_ble_eq_true rfl) (x_Pieces_add (Nat.le_trans (Nat.le_of_ble_eq_true rfl) hd) l0 l3 l1 s0 v2 h3 (sh_okB H) (fun h4 H => ?_)))
    show wq_66 d Q 70 [oR 4 l0, oI l1, oI l2, oI l3, _, oI l5, oI l6, oI l7, oI s0, oI v2] [] (sh_E h4)
    exact x_Pieces_move_b70 N hd hR k7 hk7 l0 l1 l2 l3 l5 l6 l7 v2 h4 H
def f_Pieces_move_c7 (N : Nat)   (k7 : Nat → Int32 → Int32 → Int32 → Int32 → Int32 → Int32 → sh_H → Option sh_H) (l0 : Nat) (l1 : Int32) (l2 : Int32) (l3 : Int32) (l5 : Int32) (l6 : Int32) (l7 : Int32) (h : sh_H) : Option sh_H := (if l7 < (4 : Int32) then (if l5 = 0 then f_Pieces_move_b27 N k7 l0 l1 l2 l3 l5 l6 l7 l7 h else f_Pieces_move_b27 N k7 l0 l1 l2 l3 l5 l6 l7 ((3 : Int32) - l7) h) else (some h))
def f_Pieces_move_l7 (N : Nat)   (n : Nat) : Nat → Int32 → Int32 → Int32 → Int32 → Int32 → Int32 → sh_H → Option sh_H := Nat.rec (motive := fun _ => Nat → Int32 → Int32 → Int32 → Int32 → Int32 → Int32 → sh_H → Option sh_H) (fun _ _ _ _ _ _ _ _ => none) (fun _ k7 => f_Pieces_move_c7 N k7) n
theorem x_Pieces_move_l7 (N : Nat) {d : Nat} (hd : 3 ≤ d) {Q : ai_Q} {R : sh_H → Prop} (hR : ∀ h, R h → Q none (sh_E h))   (n : Nat) : ∀ (l0 : Nat) (l1 : Int32) (l2 : Int32) (l3 : Int32) (l5 : Int32) (l6 : Int32) (l7 : Int32) {d4 d8 d9 : Option ai_V} (h : sh_H), sh_ok (f_Pieces_move_l7 N n l0 l1 l2 l3 l5 l6 l7 h) R → wq_66 d Q 7 [oR 4 l0, oI l1, oI l2, oI l3, d4, oI l5, oI l6, oI l7, d8, d9] [] (sh_E h) := by
  induction n with
  | zero => intro l0 l1 l2 l3 l5 l6 l7 d4 d8 d9 h H; exact H.elim
  | succ n ih =>
    intro l0 l1 l2 l3 l5 l6 l7 d4 d8 d9 h H
    have hk7 := @ih
    replace H : sh_ok (f_Pieces_move_c7 N (f_Pieces_move_l7 N n) l0 l1 l2 l3 l5 l6 l7 h) R := H
    revert hk7 H
    generalize f_Pieces_move_l7 N n = k7
    intro hk7 H
    refine ai_WP_steps mc_66 (sh_CM d) 3 (And.intro (fun c => ?_) (fun c => ?_))
    · replace H := sh_okT c H
      show wq_66 d Q 13 [oR 4 l0, oI l1, oI l2, oI l3, _, oI l5, oI l6, oI l7, _, _] [] (sh_E h)
      refine ai_WP_steps mc_66 (sh_CM d) 2 (And.intro (fun c => ?_) (fun c => ?_))
      · replace H := sh_okT c H
        show wq_66 d Q 25 [oR 4 l0, oI l1, oI l2, oI l3, _, oI l5, oI l6, oI l7, _, _] [] (sh_E h)
        refine ai_WP_steps mc_66 (sh_CM d) 1 ?_
        exact x_Pieces_move_b27 N hd hR k7 hk7 l0 l1 l2 l3 l5 l6 l7 l7 h H
      · replace H := sh_okF c H
        show wq_66 d Q 18 [oR 4 l0, oI l1, oI l2, oI l3, _, oI l5, oI l6, oI l7, _, _] [] (sh_E h)
        refine ai_WP_steps mc_66 (sh_CM d) 4 ?_
        exact x_Pieces_move_b27 N hd hR k7 hk7 l0 l1 l2 l3 l5 l6 l7 ((3 : Int32) - l7) h H
    · replace H := sh_okF c H
      show wq_66 d Q 83 [oR 4 l0, oI l1, oI l2, oI l3, _, oI l5, oI l6, oI l7, _, _] [] (sh_E h)
      exact ai_WP_steps mc_66 (sh_CM d) 1 (hR h H)
def f_Pieces_move (N : Nat)  (l0 : Nat) (l1 : Int32) (l2 : Int32) (l3 : Int32) (l4 : Int32) (l5 : Int32) (h : sh_H) : Option sh_H := f_Pieces_move_l7 N N l0 l1 l2 l3 l5 l4 (0 : Int32) h
theorem x_Pieces_move (N : Nat) {d : Nat} (hd : 4 ≤ d) (l0 : Nat) (l1 : Int32) (l2 : Int32) (l3 : Int32) (l4 : Int32) (l5 : Int32) (h : sh_H) {Q : ai_Q} {R : sh_H → Prop} (H : sh_ok (f_Pieces_move N l0 l1 l2 l3 l4 l5 h) R) (hR : ∀ h, R h → Q none (sh_E h)) : ai_Ex sh_T d 66 [aR 4 l0, aI l1, aI l2, aI l3, aI l4, aI l5] (sh_E h) Q := by
  obtain ⟨d, rfl⟩ : ∃ e, d = e + 1 := ⟨d - 1, by omega⟩
  replace hd : 3 ≤ d := by omega
  refine And.intro (Nat.le_of_ble_eq_true rfl) ?_
  show wq_66 d Q 0 [oR 4 l0, oI l1, oI l2, oI l3, oI l4, oI l5, none, none, none, none] [] (sh_E h)
  refine ai_WP_steps mc_66 (sh_CM d) 4 ?_
  exact x_Pieces_move_l7 N hd hR N l0 l1 l2 l3 l5 l4 (0 : Int32) h H
def f_Rows_size  (l0 : Nat) (h : sh_H) : Option Int32 := (some (h.1 6 l0 3))
theorem x_Rows_size {d : Nat} (hd : 1 ≤ d) (l0 : Nat) (h : sh_H) {Q : ai_Q} {R : Int32 → Prop} (H : sh_ok (f_Rows_size l0 h) R) (hR : ∀ r, R r → Q (some (aI r)) (sh_E h)) : ai_Ex sh_T d 98 [aR 6 l0] (sh_E h) Q := by
  obtain ⟨d, rfl⟩ : ∃ e, d = e + 1 := ⟨d - 1, by omega⟩
  replace hd : 0 ≤ d := by omega
  refine And.intro (Nat.le_of_ble_eq_true rfl) ?_
  show wq_98 d Q 0 [oR 6 l0] [] (sh_E h)
  exact ai_WP_steps mc_98 (sh_CM d) 3 (hR (h.1 6 l0 3) H)
def f_Formulas_joined  (l0 : Nat) (l1 : Int32) (l2 : Int32) (l3 : Int32) (h : sh_H) : Option (Int32 × sh_H) := (if l1 = (42 : Int32) then (some ((l2 * l3), h)) else (if l1 = (43 : Int32) then (some ((l2 + l3), h)) else (if l1 = (45 : Int32) then (some ((l2 - l3), h)) else (if l1 = (47 : Int32) then (if l3 = 0 then (sh_let (sh_pI h 2 l0 4 (1 : Int32)) (fun h1 => (some ((0 : Int32), h1)))) else (if ¬ l3 = 0 then (some ((l2 / l3), h)) else none)) else (if l1 = (60 : Int32) then (if l2 < l3 then (some ((1 : Int32), h)) else (some ((0 : Int32), h))) else (if l2 = l3 then (some ((1 : Int32), h)) else (some ((0 : Int32), h))))))))
theorem x_Formulas_joined {d : Nat} (hd : 1 ≤ d) (l0 : Nat) (l1 : Int32) (l2 : Int32) (l3 : Int32) (h : sh_H) {Q : ai_Q} {R : Int32 × sh_H → Prop} (H : sh_ok (f_Formulas_joined l0 l1 l2 l3 h) R) (hR : ∀ r h, R (r, h) → Q (some (aI r)) (sh_E h)) : ai_Ex sh_T d 38 [aR 2 l0, aI l1, aI l2, aI l3] (sh_E h) Q := by
  obtain ⟨d, rfl⟩ : ∃ e, d = e + 1 := ⟨d - 1, by omega⟩
  replace hd : 0 ≤ d := by omega
  refine And.intro (Nat.le_of_ble_eq_true rfl) ?_
  show wq_38 d Q 0 [oR 2 l0, oI l1, oI l2, oI l3] [] (sh_E h)
  refine ai_WP_steps mc_38 (sh_CM d) 2 (And.intro (fun c => ?_) (fun c => ?_))
  · replace H := sh_okT c H
    show wq_38 d Q 60 [oR 2 l0, oI l1, oI l2, oI l3] [] (sh_E h)
    exact ai_WP_steps mc_38 (sh_CM d) 4 (hR (l2 * l3) h H)
  replace H := sh_okF c H
  refine And.intro (fun c => ?_) (fun c => ?_)
  · replace H := sh_okT c H
    show wq_38 d Q 52 [oR 2 l0, oI l1, oI l2, oI l3] [] (sh_E h)
    exact ai_WP_steps mc_38 (sh_CM d) 4 (hR (l2 + l3) h H)
  replace H := sh_okF c H
  refine And.intro (fun c => ?_) (fun c => ?_)
  · replace H := sh_okT c H
    show wq_38 d Q 56 [oR 2 l0, oI l1, oI l2, oI l3] [] (sh_E h)
    exact ai_WP_steps mc_38 (sh_CM d) 4 (hR (l2 - l3) h H)
  replace H := sh_okF c H
  refine And.intro (fun c => ?_) (fun c => ?_)
  · replace H := sh_okT c H
    show wq_38 d Q 64 [oR 2 l0, oI l1, oI l2, oI l3] [] (sh_E h)
    refine ai_WP_steps mc_38 (sh_CM d) 2 (And.intro (fun c => ?_) (fun c => ?_))
    · replace H := sh_okT c H
      show wq_38 d Q 68 [oR 2 l0, oI l1, oI l2, oI l3] [] (sh_E h)
      refine ai_WP_steps mc_38 (sh_CM d) 3 (And.intro (Or.inr rfl) ?_)
      show wq_38 d Q 73 [oR 2 l0, oI l1, oI l2, oI l3] [] (sh_E (sh_pI h 2 l0 4 (1 : Int32)))
      replace H := sh_okL H
      generalize sh_pI h 2 l0 4 (1 : Int32) = h1 at H ⊢
      exact ai_WP_steps mc_38 (sh_CM d) 2 (hR (0 : Int32) h1 H)
    · replace H := sh_okF c H
      show wq_38 d Q 75 [oR 2 l0, oI l1, oI l2, oI l3] [] (sh_E h)
      have c := sh_okG H
      replace H := sh_okH H
      refine ai_WP_steps mc_38 (sh_CM d) 3 (And.intro c ?_)
      show wq_38 d Q 78 [oR 2 l0, oI l1, oI l2, oI l3] [aI (l2 / l3)] (sh_E h)
      exact ai_WP_steps mc_38 (sh_CM d) 1 (hR (l2 / l3) h H)
  replace H := sh_okF c H
  refine And.intro (fun c => ?_) (fun c => ?_)
  · replace H := sh_okT c H
    show wq_38 d Q 79 [oR 2 l0, oI l1, oI l2, oI l3] [] (sh_E h)
    refine ai_WP_steps mc_38 (sh_CM d) 3 (And.intro (fun c => ?_) (fun c => ?_))
    · replace H := sh_okT c H
      show wq_38 d Q 84 [oR 2 l0, oI l1, oI l2, oI l3] [] (sh_E h)
      exact ai_WP_steps mc_38 (sh_CM d) 3 (hR (1 : Int32) h H)
    · replace H := sh_okF c H
      show wq_38 d Q 88 [oR 2 l0, oI l1, oI l2, oI l3] [] (sh_E h)
      exact ai_WP_steps mc_38 (sh_CM d) 2 (hR (0 : Int32) h H)
  replace H := sh_okF c H
  show wq_38 d Q 90 [oR 2 l0, oI l1, oI l2, oI l3] [] (sh_E h)
  refine ai_WP_steps mc_38 (sh_CM d) 3 (And.intro (fun c => ?_) (fun c => ?_))
  · replace H := sh_okT c H
    show wq_38 d Q 95 [oR 2 l0, oI l1, oI l2, oI l3] [] (sh_E h)
    exact ai_WP_steps mc_38 (sh_CM d) 3 (hR (1 : Int32) h H)
  · replace H := sh_okF c H
    show wq_38 d Q 99 [oR 2 l0, oI l1, oI l2, oI l3] [] (sh_E h)
    exact ai_WP_steps mc_38 (sh_CM d) 2 (hR (0 : Int32) h H)
def f_Formulas_pop  (l0 : Nat) (h : sh_H) : Option (Int32 × sh_H) := (if 0 < (h.1 2 l0 3) then (if (Int32.ofNat (sh_l13 (9 * l0 + 8))) < (h.1 2 l0 3) then (some ((0 : Int32), h)) else (sh_let (sh_pI h 2 l0 3 ((h.1 2 l0 3) - (1 : Int32))) (fun h1 => (if ai_in (h1.1 2 l0 3) (sh_l13 (9 * l0 + 8)) then (some ((h1.1 13 (9 * l0 + 8) (h1.1 2 l0 3).toNatClampNeg), h1)) else none)))) else (some ((0 : Int32), h)))
theorem x_Formulas_pop {d : Nat} (hd : 1 ≤ d) (l0 : Nat) (h : sh_H) {Q : ai_Q} {R : Int32 × sh_H → Prop} (H : sh_ok (f_Formulas_pop l0 h) R) (hR : ∀ r h, R (r, h) → Q (some (aI r)) (sh_E h)) : ai_Ex sh_T d 40 [aR 2 l0] (sh_E h) Q := by
  obtain ⟨d, rfl⟩ : ∃ e, d = e + 1 := ⟨d - 1, by omega⟩
  replace hd : 0 ≤ d := by omega
  refine And.intro (Nat.le_of_ble_eq_true rfl) ?_
  show wq_40 d Q 0 [oR 2 l0] [] (sh_E h)
  refine ai_WP_steps mc_40 (sh_CM d) 3 (And.intro (fun c => ?_) (fun c => ?_))
  · replace H := sh_okT c H
    show wq_40 d Q 7 [oR 2 l0] [] (sh_E h)
    refine ai_WP_steps mc_40 (sh_CM d) 6 (And.intro (fun c => ?_) (fun c => ?_))
    · replace H := sh_okT c H
      show wq_40 d Q 19 [oR 2 l0] [] (sh_E h)
      exact ai_WP_steps mc_40 (sh_CM d) 2 (hR (0 : Int32) h H)
    · replace H := sh_okF c H
      show wq_40 d Q 21 [oR 2 l0] [] (sh_E h)
      refine ai_WP_steps mc_40 (sh_CM d) 6 (And.intro trivial ?_)
      show wq_40 d Q 31 [oR 2 l0] [] (sh_E (sh_pI h 2 l0 3 ((h.1 2 l0 3) - (1 : Int32))))
      replace H := sh_okL H
      generalize sh_pI h 2 l0 3 ((h.1 2 l0 3) - (1 : Int32)) = h1 at H ⊢
      have c := sh_okG H
      replace H := sh_okH H
      refine ai_WP_steps mc_40 (sh_CM d) 5 (And.intro c ?_)
      show wq_40 d Q 40 [oR 2 l0] [aI (h1.1 13 (9 * l0 + 8) (h1.1 2 l0 3).toNatClampNeg)] (sh_E h1)
      exact ai_WP_steps mc_40 (sh_CM d) 1 (hR (h1.1 13 (9 * l0 + 8) (h1.1 2 l0 3).toNatClampNeg) h1 H)
  · replace H := sh_okF c H
    show wq_40 d Q 19 [oR 2 l0] [] (sh_E h)
    exact ai_WP_steps mc_40 (sh_CM d) 2 (hR (0 : Int32) h H)
def f_Formulas_push  (l0 : Nat) (l1 : Int32) (h : sh_H) : Option sh_H := (if (h.1 2 l0 3) < 0 then (some h) else (if (h.1 2 l0 3) < (Int32.ofNat (sh_l13 (9 * l0 + 8))) then (if ai_in (h.1 2 l0 3) (sh_l13 (9 * l0 + 8)) then (sh_let (sh_pI h 13 (9 * l0 + 8) (h.1 2 l0 3).toNatClampNeg l1) (fun h1 => (sh_let (sh_pI h1 2 l0 3 ((h1.1 2 l0 3) + (1 : Int32))) (fun h2 => (some h2))))) else none) else (some h)))
theorem x_Formulas_push {d : Nat} (hd : 1 ≤ d) (l0 : Nat) (l1 : Int32) (h : sh_H) {Q : ai_Q} {R : sh_H → Prop} (H : sh_ok (f_Formulas_push l0 l1 h) R) (hR : ∀ h, R h → Q none (sh_E h)) : ai_Ex sh_T d 39 [aR 2 l0, aI l1] (sh_E h) Q := by
  obtain ⟨d, rfl⟩ : ∃ e, d = e + 1 := ⟨d - 1, by omega⟩
  replace hd : 0 ≤ d := by omega
  refine And.intro (Nat.le_of_ble_eq_true rfl) ?_
  show wq_39 d Q 0 [oR 2 l0, oI l1] [] (sh_E h)
  refine ai_WP_steps mc_39 (sh_CM d) 3 (And.intro (fun c => ?_) (fun c => ?_))
  · replace H := sh_okT c H
    show wq_39 d Q 39 [oR 2 l0, oI l1] [] (sh_E h)
    exact ai_WP_steps mc_39 (sh_CM d) 1 (hR h H)
  · replace H := sh_okF c H
    show wq_39 d Q 7 [oR 2 l0, oI l1] [] (sh_E h)
    refine ai_WP_steps mc_39 (sh_CM d) 6 (And.intro (fun c => ?_) (fun c => ?_))
    · replace H := sh_okT c H
      show wq_39 d Q 19 [oR 2 l0, oI l1] [] (sh_E h)
      have c := sh_okG H
      replace H := sh_okH H
      refine ai_WP_steps mc_39 (sh_CM d) 6 (And.intro c ?_)
      show wq_39 d Q 29 [oR 2 l0, oI l1] [] (sh_E (sh_pI h 13 (9 * l0 + 8) (h.1 2 l0 3).toNatClampNeg l1))
      replace H := sh_okL H
      generalize sh_pI h 13 (9 * l0 + 8) (h.1 2 l0 3).toNatClampNeg l1 = h1 at H ⊢
      refine ai_WP_steps mc_39 (sh_CM d) 6 (And.intro trivial ?_)
      show wq_39 d Q 39 [oR 2 l0, oI l1] [] (sh_E (sh_pI h1 2 l0 3 ((h1.1 2 l0 3) + (1 : Int32))))
      replace H := sh_okL H
      generalize sh_pI h1 2 l0 3 ((h1.1 2 l0 3) + (1 : Int32)) = h2 at H ⊢
      exact ai_WP_steps mc_39 (sh_CM d) 1 (hR h2 H)
    · replace H := sh_okF c H
      show wq_39 d Q 39 [oR 2 l0, oI l1] [] (sh_E h)
      exact ai_WP_steps mc_39 (sh_CM d) 1 (hR h H)
def f_Formulas_value_b162 (N : Nat)  (k17 : Nat → Int32 → Int32 → Int32 → Int32 → Int32 → Int32 → sh_H → Option (Int32 × sh_H)) (l0 : Nat) (l2 : Int32) (l3 : Int32) (l4 : Int32) (l5 : Int32) (l6 : Int32) (l7 : Int32) (h : sh_H) : Option (Int32 × sh_H) := k17 l0 l2 l3 l4 l5 l6 (l7 + (1 : Int32)) h
theorem x_Formulas_value_b162 (N : Nat) {d : Nat} (hd : 1 ≤ d) {Q : ai_Q} {R : Int32 × sh_H → Prop} (hR : ∀ r h, R (r, h) → Q (some (aI r)) (sh_E h))  (k17 : Nat → Int32 → Int32 → Int32 → Int32 → Int32 → Int32 → sh_H → Option (Int32 × sh_H)) (hk17 : ∀ (l0 : Nat) (l2 : Int32) (l3 : Int32) (l4 : Int32) (l5 : Int32) (l6 : Int32) (l7 : Int32) {d1 d8 d9 : Option ai_V} (h : sh_H), sh_ok (k17 l0 l2 l3 l4 l5 l6 l7 h) R → wq_37 d Q 17 [oR 2 l0, d1, oI l2, oI l3, oI l4, oI l5, oI l6, oI l7, d8, d9] [] (sh_E h)) (l0 : Nat) (l2 : Int32) (l3 : Int32) (l4 : Int32) (l5 : Int32) (l6 : Int32) (l7 : Int32) {d1 d8 d9 : Option ai_V} (h : sh_H) (H : sh_ok (f_Formulas_value_b162 N k17 l0 l2 l3 l4 l5 l6 l7 h) R) : wq_37 d Q 162 [oR 2 l0, d1, oI l2, oI l3, oI l4, oI l5, oI l6, oI l7, d8, d9] [] (sh_E h) := by
  refine ai_WP_steps mc_37 (sh_CM d) 2 ?_
  exact hk17 l0 l2 l3 l4 l5 l6 (l7 + (1 : Int32)) h H
def f_Formulas_value_c17 (N : Nat)  (k168 : Nat → sh_H → Option (Int32 × sh_H)) (k17 : Nat → Int32 → Int32 → Int32 → Int32 → Int32 → Int32 → sh_H → Option (Int32 × sh_H)) (l0 : Nat) (l2 : Int32) (l3 : Int32) (l4 : Int32) (l5 : Int32) (l6 : Int32) (l7 : Int32) (h : sh_H) : Option (Int32 × sh_H) := (if l7 < l2 then (if l7 < (Int32.ofNat (sh_l13 (9 * l0 + 7))) then (if ai_in l7 (sh_l13 (9 * l0 + 7)) then (if ((h.1 13 (9 * l0 + 7) l7.toNatClampNeg) >>> ((16 : Int32) &&& 31)) = (0 : Int32) then (if ai_in l7 (sh_l13 (9 * l0 + 7)) then (Option.bind (f_Formulas_push l0 ((h.1 13 (9 * l0 + 7) l7.toNatClampNeg) &&& (65535 : Int32)) h) (fun h1 => f_Formulas_value_b162 N k17 l0 l2 l3 l4 l5 l6 l7 h1)) else none) else (if ((h.1 13 (9 * l0 + 7) l7.toNatClampNeg) >>> ((16 : Int32) &&& 31)) = (1 : Int32) then (Option.bind (f_Formulas_push l0 l3 h) (fun h2 => f_Formulas_value_b162 N k17 l0 l2 l3 l4 l5 l6 l7 h2)) else (if ((h.1 13 (9 * l0 + 7) l7.toNatClampNeg) >>> ((16 : Int32) &&& 31)) = (2 : Int32) then (Option.bind (f_Formulas_push l0 l4 h) (fun h3 => f_Formulas_value_b162 N k17 l0 l2 l3 l4 l5 l6 l7 h3)) else (if ((h.1 13 (9 * l0 + 7) l7.toNatClampNeg) >>> ((16 : Int32) &&& 31)) = (3 : Int32) then (Option.bind (f_Formulas_push l0 l5 h) (fun h4 => f_Formulas_value_b162 N k17 l0 l2 l3 l4 l5 l6 l7 h4)) else (if ((h.1 13 (9 * l0 + 7) l7.toNatClampNeg) >>> ((16 : Int32) &&& 31)) = (4 : Int32) then (Option.bind (f_Formulas_push l0 l6 h) (fun h5 => f_Formulas_value_b162 N k17 l0 l2 l3 l4 l5 l6 l7 h5)) else (sh_b2 (f_Formulas_pop l0 h) (fun v6 h7 => (sh_b2 (f_Formulas_pop l0 h7) (fun v8 h9 => (if ai_in l7 (sh_l13 (9 * l0 + 7)) then (sh_b2 (f_Formulas_joined l0 ((h9.1 13 (9 * l0 + 7) l7.toNatClampNeg) >>> ((16 : Int32) &&& 31)) v8 v6 h9) (fun v10 h11 => (Option.bind (f_Formulas_push l0 v10 h11) (fun h12 => f_Formulas_value_b162 N k17 l0 l2 l3 l4 l5 l6 l7 h12)))) else none)))))))))) else none) else k168 l0 h) else k168 l0 h)
def f_Formulas_value_l17 (N : Nat)  (k168 : Nat → sh_H → Option (Int32 × sh_H)) (n : Nat) : Nat → Int32 → Int32 → Int32 → Int32 → Int32 → Int32 → sh_H → Option (Int32 × sh_H) := Nat.rec (motive := fun _ => Nat → Int32 → Int32 → Int32 → Int32 → Int32 → Int32 → sh_H → Option (Int32 × sh_H)) (fun _ _ _ _ _ _ _ _ => none) (fun _ k17 => f_Formulas_value_c17 N k168 k17) n
theorem x_Formulas_value_l17 (N : Nat) {d : Nat} (hd : 1 ≤ d) {Q : ai_Q} {R : Int32 × sh_H → Prop} (hR : ∀ r h, R (r, h) → Q (some (aI r)) (sh_E h))  (k168 : Nat → sh_H → Option (Int32 × sh_H)) (hk168 : ∀ (l0 : Nat) {d1 d2 d3 d4 d5 d6 d7 d8 d9 : Option ai_V} (h : sh_H), sh_ok (k168 l0 h) R → wq_37 d Q 168 [oR 2 l0, d1, d2, d3, d4, d5, d6, d7, d8, d9] [] (sh_E h)) (n : Nat) : ∀ (l0 : Nat) (l2 : Int32) (l3 : Int32) (l4 : Int32) (l5 : Int32) (l6 : Int32) (l7 : Int32) {d1 d8 d9 : Option ai_V} (h : sh_H), sh_ok (f_Formulas_value_l17 N k168 n l0 l2 l3 l4 l5 l6 l7 h) R → wq_37 d Q 17 [oR 2 l0, d1, oI l2, oI l3, oI l4, oI l5, oI l6, oI l7, d8, d9] [] (sh_E h) := by
  induction n with
  | zero => intro l0 l2 l3 l4 l5 l6 l7 d1 d8 d9 h H; exact H.elim
  | succ n ih =>
    intro l0 l2 l3 l4 l5 l6 l7 d1 d8 d9 h H
    have hk17 := @ih
    replace H : sh_ok (f_Formulas_value_c17 N k168 (f_Formulas_value_l17 N k168 n) l0 l2 l3 l4 l5 l6 l7 h) R := H
    revert hk17 H
    generalize f_Formulas_value_l17 N k168 n = k17
    intro hk17 H
    refine ai_WP_steps mc_37 (sh_CM d) 3 (And.intro (fun c => ?_) (fun c => ?_))
    · replace H := sh_okT c H
      show wq_37 d Q 23 [oR 2 l0, _, oI l2, oI l3, oI l4, oI l5, oI l6, oI l7, _, _] [] (sh_E h)
      refine ai_WP_steps mc_37 (sh_CM d) 5 (And.intro (fun c => ?_) (fun c => ?_))
      · replace H := sh_okT c H
        show wq_37 d Q 33 [oR 2 l0, _, oI l2, oI l3, oI l4, oI l5, oI l6, oI l7, _, _] [] (sh_E h)
        have c := sh_okG H
        replace H := sh_okH H
        refine ai_WP_steps mc_37 (sh_CM d) 4 (And.intro c ?_)
        show wq_37 d Q 40 [oR 2 l0, _, oI l2, oI l3, oI l4, oI l5, oI l6, oI l7, _, _] [aI (h.1 13 (9 * l0 + 7) l7.toNatClampNeg)] (sh_E h)
        refine ai_WP_steps mc_37 (sh_CM d) 3 (And.intro (fun c => ?_) (fun c => ?_))
        · replace H := sh_okT c H
          show wq_37 d Q 76 [oR 2 l0, _, oI l2, oI l3, oI l4, oI l5, oI l6, oI l7, _, _] [] (sh_E h)
          have c := sh_okG H
          replace H := sh_okH H
          refine ai_WP_steps mc_37 (sh_CM d) 5 (And.intro c ?_)
          show wq_37 d Q 84 [oR 2 l0, _, oI l2, oI l3, oI l4, oI l5, oI l6, oI l7, _, _] [aI (h.1 13 (9 * l0 + 7) l7.toNatClampNeg), aR 2 l0] (sh_E h)
          refine ai_WP_steps mc_37 (sh_CM d) 3 (And.intro (Nat.le_of_ble_eq_true rfl) (x_Formulas_push (Nat.le_trans (Nat.le_of_ble_eq_true rfl) hd) l0 ((h.1 13 (9 * l0 + 7) l7.toNatClampNeg) &&& (65535 : Int32)) h (sh_okB H) (fun h1 H => ?_)))
          show wq_37 d Q 90 [oR 2 l0, _, oI l2, oI l3, oI l4, oI l5, oI l6, oI l7, _, _] [] (sh_E h1)
          refine ai_WP_steps mc_37 (sh_CM d) 1 ?_
          exact x_Formulas_value_b162 N hd hR k17 hk17 l0 l2 l3 l4 l5 l6 l7 h1 H
        replace H := sh_okF c H
        refine And.intro (fun c => ?_) (fun c => ?_)
        · replace H := sh_okT c H
          show wq_37 d Q 93 [oR 2 l0, _, oI l2, oI l3, oI l4, oI l5, oI l6, oI l7, _, _] [] (sh_E h)
          refine ai_WP_steps mc_37 (sh_CM d) 3 (And.intro (Nat.le_of_ble_eq_true rfl) (x_Formulas_push (Nat.le_trans (Nat.le_of_ble_eq_true rfl) hd) l0 l3 h (sh_okB H) (fun h2 H => ?_)))
          show wq_37 d Q 98 [oR 2 l0, _, oI l2, oI l3, oI l4, oI l5, oI l6, oI l7, _, _] [] (sh_E h2)
          refine ai_WP_steps mc_37 (sh_CM d) 1 ?_
          exact x_Formulas_value_b162 N hd hR k17 hk17 l0 l2 l3 l4 l5 l6 l7 h2 H
        replace H := sh_okF c H
        refine And.intro (fun c => ?_) (fun c => ?_)
        · replace H := sh_okT c H
          show wq_37 d Q 101 [oR 2 l0, _, oI l2, oI l3, oI l4, oI l5, oI l6, oI l7, _, _] [] (sh_E h)
          refine ai_WP_steps mc_37 (sh_CM d) 3 (And.intro (Nat.le_of_ble_eq_true rfl) (x_Formulas_push (Nat.le_trans (Nat.le_of_ble_eq_true rfl) hd) l0 l4 h (sh_okB H) (fun h3 H => ?_)))
          show wq_37 d Q 107 [oR 2 l0, _, oI l2, oI l3, oI l4, oI l5, oI l6, oI l7, _, _] [] (sh_E h3)
          refine ai_WP_steps mc_37 (sh_CM d) 1 ?_
          exact x_Formulas_value_b162 N hd hR k17 hk17 l0 l2 l3 l4 l5 l6 l7 h3 H
        replace H := sh_okF c H
        refine And.intro (fun c => ?_) (fun c => ?_)
        · replace H := sh_okT c H
          show wq_37 d Q 110 [oR 2 l0, _, oI l2, oI l3, oI l4, oI l5, oI l6, oI l7, _, _] [] (sh_E h)
          refine ai_WP_steps mc_37 (sh_CM d) 3 (And.intro (Nat.le_of_ble_eq_true rfl) (x_Formulas_push (Nat.le_trans (Nat.le_of_ble_eq_true rfl) hd) l0 l5 h (sh_okB H) (fun h4 H => ?_)))
          show wq_37 d Q 116 [oR 2 l0, _, oI l2, oI l3, oI l4, oI l5, oI l6, oI l7, _, _] [] (sh_E h4)
          refine ai_WP_steps mc_37 (sh_CM d) 1 ?_
          exact x_Formulas_value_b162 N hd hR k17 hk17 l0 l2 l3 l4 l5 l6 l7 h4 H
        replace H := sh_okF c H
        refine And.intro (fun c => ?_) (fun c => ?_)
        · replace H := sh_okT c H
          show wq_37 d Q 119 [oR 2 l0, _, oI l2, oI l3, oI l4, oI l5, oI l6, oI l7, _, _] [] (sh_E h)
          refine ai_WP_steps mc_37 (sh_CM d) 3 (And.intro (Nat.le_of_ble_eq_true rfl) (x_Formulas_push (Nat.le_trans (Nat.le_of_ble_eq_true rfl) hd) l0 l6 h (sh_okB H) (fun h5 H => ?_)))
          show wq_37 d Q 125 [oR 2 l0, _, oI l2, oI l3, oI l4, oI l5, oI l6, oI l7, _, _] [] (sh_E h5)
          refine ai_WP_steps mc_37 (sh_CM d) 1 ?_
          exact x_Formulas_value_b162 N hd hR k17 hk17 l0 l2 l3 l4 l5 l6 l7 h5 H
        replace H := sh_okF c H
        show wq_37 d Q 128 [oR 2 l0, _, oI l2, oI l3, oI l4, oI l5, oI l6, oI l7, _, _] [] (sh_E h)
        refine ai_WP_steps mc_37 (sh_CM d) 2 (And.intro (Nat.le_of_ble_eq_true rfl) (x_Formulas_pop (Nat.le_trans (Nat.le_of_ble_eq_true rfl) hd) l0 h (sh_okB H) (fun v6 h7 H => ?_)))
        show wq_37 d Q 132 [oR 2 l0, _, oI l2, oI l3, oI l4, oI l5, oI l6, oI l7, _, _] [aI v6] (sh_E h7)
        refine ai_WP_steps mc_37 (sh_CM d) 3 (And.intro (Nat.le_of_ble_eq_true rfl) (x_Formulas_pop (Nat.le_trans (Nat.le_of_ble_eq_true rfl) hd) l0 h7 (sh_okB H) (fun v8 h9 H => ?_)))
        show wq_37 d Q 138 [oR 2 l0, _, oI l2, oI l3, oI l4, oI l5, oI l6, oI l7, oI v6, _] [aI v8] (sh_E h9)
        have c := sh_okG H
        replace H := sh_okH H
        refine ai_WP_steps mc_37 (sh_CM d) 7 (And.intro c ?_)
        show wq_37 d Q 149 [oR 2 l0, _, oI l2, oI l3, oI l4, oI l5, oI l6, oI l7, oI v6, oI v8] [aI (h9.1 13 (9 * l0 + 7) l7.toNatClampNeg), aR 2 l0, aR 2 l0] (sh_E h9)
        refine ai_WP_steps mc_37 (sh_CM d) 5 (And.intro (Nat.le_of_ble_eq_true rfl) (x_Formulas_joined (Nat.le_trans (Nat.le_of_ble_eq_true rfl) hd) l0 ((h9.1 13 (9 * l0 + 7) l7.toNatClampNeg) >>> ((16 : Int32) &&& 31)) v8 v6 h9 (sh_okB H) (fun v10 h11 H => ?_)))
        show wq_37 d Q 159 [oR 2 l0, _, oI l2, oI l3, oI l4, oI l5, oI l6, oI l7, oI v6, oI v8] [aI v10, aR 2 l0] (sh_E h11)
        refine ai_WP_steps mc_37 (sh_CM d) 1 (And.intro (Nat.le_of_ble_eq_true rfl) (x_Formulas_push (Nat.le_trans (Nat.le_of_ble_eq_true rfl) hd) l0 v10 h11 (sh_okB H) (fun h12 H => ?_)))
        show wq_37 d Q 162 [oR 2 l0, _, oI l2, oI l3, oI l4, oI l5, oI l6, oI l7, oI v6, oI v8] [] (sh_E h12)
        exact x_Formulas_value_b162 N hd hR k17 hk17 l0 l2 l3 l4 l5 l6 l7 h12 H
      · replace H := sh_okF c H
        exact hk168 l0 h H
    · replace H := sh_okF c H
      exact hk168 l0 h H
def f_Formulas_value_b168 (N : Nat)   (l0 : Nat) (h : sh_H) : Option (Int32 × sh_H) := (sh_b2 (f_Formulas_pop l0 h) (fun v13 h14 => (if (h14.1 2 l0 4) = 0 then (some (v13, h14)) else (some ((0 : Int32), h14)))))
theorem x_Formulas_value_b168 (N : Nat) {d : Nat} (hd : 1 ≤ d) {Q : ai_Q} {R : Int32 × sh_H → Prop} (hR : ∀ r h, R (r, h) → Q (some (aI r)) (sh_E h))   (l0 : Nat) {d1 d2 d3 d4 d5 d6 d7 d8 d9 : Option ai_V} (h : sh_H) (H : sh_ok (f_Formulas_value_b168 N l0 h) R) : wq_37 d Q 168 [oR 2 l0, d1, d2, d3, d4, d5, d6, d7, d8, d9] [] (sh_E h) := by
  refine ai_WP_steps mc_37 (sh_CM d) 2 (And.intro (Nat.le_of_ble_eq_true rfl) (x_Formulas_pop (Nat.le_trans (Nat.le_of_ble_eq_true rfl) hd) l0 h (sh_okB H) (fun v13 h14 H => ?_)))
  show wq_37 d Q 172 [oR 2 l0, _, _, _, _, _, _, _, _, _] [aI v13] (sh_E h14)
  refine ai_WP_steps mc_37 (sh_CM d) 4 (And.intro (fun c => ?_) (fun c => ?_))
  · replace H := sh_okT c H
    show wq_37 d Q 185 [oR 2 l0, _, _, _, _, _, _, oI v13, _, _] [] (sh_E h14)
    exact ai_WP_steps mc_37 (sh_CM d) 2 (hR v13 h14 H)
  · replace H := sh_okF c H
    show wq_37 d Q 181 [oR 2 l0, _, _, _, _, _, _, oI v13, _, _] [] (sh_E h14)
    exact ai_WP_steps mc_37 (sh_CM d) 3 (hR (0 : Int32) h14 H)
def f_Formulas_value (N : Nat)  (l0 : Nat) (l1 : Int32) (l2 : Int32) (l3 : Int32) (l4 : Int32) (l5 : Int32) (l6 : Int32) (h : sh_H) : Option (Int32 × sh_H) := (sh_let (sh_pI h 2 l0 3 (0 : Int32)) (fun h15 => (sh_let (sh_pI h15 2 l0 4 (0 : Int32)) (fun h16 => (Option.bind (f_Math_max (0 : Int32) l1 h16) (fun v17 => f_Formulas_value_l17 N (f_Formulas_value_b168 N) N l0 l2 l3 l4 l5 l6 v17 h16))))))
theorem x_Formulas_value (N : Nat) {d : Nat} (hd : 2 ≤ d) (l0 : Nat) (l1 : Int32) (l2 : Int32) (l3 : Int32) (l4 : Int32) (l5 : Int32) (l6 : Int32) (h : sh_H) {Q : ai_Q} {R : Int32 × sh_H → Prop} (H : sh_ok (f_Formulas_value N l0 l1 l2 l3 l4 l5 l6 h) R) (hR : ∀ r h, R (r, h) → Q (some (aI r)) (sh_E h)) : ai_Ex sh_T d 37 [aR 2 l0, aI l1, aI l2, aI l3, aI l4, aI l5, aI l6] (sh_E h) Q := by
  obtain ⟨d, rfl⟩ : ∃ e, d = e + 1 := ⟨d - 1, by omega⟩
  replace hd : 1 ≤ d := by omega
  refine And.intro (Nat.le_of_ble_eq_true rfl) ?_
  show wq_37 d Q 0 [oR 2 l0, oI l1, oI l2, oI l3, oI l4, oI l5, oI l6, none, none, none] [] (sh_E h)
  refine ai_WP_steps mc_37 (sh_CM d) 3 (And.intro trivial ?_)
  show wq_37 d Q 5 [oR 2 l0, oI l1, oI l2, oI l3, oI l4, oI l5, oI l6, _, _, _] [] (sh_E (sh_pI h 2 l0 3 (0 : Int32)))
  replace H := sh_okL H
  generalize sh_pI h 2 l0 3 (0 : Int32) = h15 at H ⊢
  refine ai_WP_steps mc_37 (sh_CM d) 3 (And.intro (Or.inl rfl) ?_)
  show wq_37 d Q 10 [oR 2 l0, oI l1, oI l2, oI l3, oI l4, oI l5, oI l6, _, _, _] [] (sh_E (sh_pI h15 2 l0 4 (0 : Int32)))
  replace H := sh_okL H
  generalize sh_pI h15 2 l0 4 (0 : Int32) = h16 at H ⊢
  refine ai_WP_steps mc_37 (sh_CM d) 3 (And.intro (Nat.le_of_ble_eq_true rfl) (x_Math_max (Nat.le_trans (Nat.le_of_ble_eq_true rfl) hd) (0 : Int32) l1 h16 (sh_okB H) (fun v17 H => ?_)))
  show wq_37 d Q 15 [oR 2 l0, oI l1, oI l2, oI l3, oI l4, oI l5, oI l6, _, _, _] [aI v17] (sh_E h16)
  refine ai_WP_steps mc_37 (sh_CM d) 1 ?_
  exact x_Formulas_value_l17 N hd hR (f_Formulas_value_b168 N) (fun z0 {e1} {e2} {e3} {e4} {e5} {e6} {e7} {e8} {e9} h H => x_Formulas_value_b168 N hd hR z0 h H) N l0 l2 l3 l4 l5 l6 v17 h16 H
def f_Text_says (N : Nat)  (l0 : Nat) (l1 : Nat) (l2 : Int32) (l3 : Int32) (l4 : Int32) (l5 : Int32) (l6 : Int32) (h : sh_H) : Option (Int32 × sh_H) := (Option.bind (f_Rows_get l1 l2 (3 : Int32) h) (fun v1 => (Option.bind (f_Rows_get l1 l2 (4 : Int32) h) (fun v2 => (sh_b2 (f_Formulas_value N l0 v1 v2 l3 l4 l5 l6 h) (fun v3 h4 => (some (v3, h4))))))))
theorem x_Text_says (N : Nat) {d : Nat} (hd : 3 ≤ d) (l0 : Nat) (l1 : Nat) (l2 : Int32) (l3 : Int32) (l4 : Int32) (l5 : Int32) (l6 : Int32) (h : sh_H) {Q : ai_Q} {R : Int32 × sh_H → Prop} (H : sh_ok (f_Text_says N l0 l1 l2 l3 l4 l5 l6 h) R) (hR : ∀ r h, R (r, h) → Q (some (aI r)) (sh_E h)) : ai_Ex sh_T d 131 [aR 9 l0, aR 6 l1, aI l2, aI l3, aI l4, aI l5, aI l6] (sh_E h) Q := by
  obtain ⟨d, rfl⟩ : ∃ e, d = e + 1 := ⟨d - 1, by omega⟩
  replace hd : 2 ≤ d := by omega
  refine And.intro (Nat.le_of_ble_eq_true rfl) ?_
  show wq_131 d Q 0 [oR 9 l0, oR 6 l1, oI l2, oI l3, oI l4, oI l5, oI l6, none, none] [] (sh_E h)
  refine ai_WP_steps mc_131 (sh_CM d) 4 (And.intro (Nat.le_of_ble_eq_true rfl) (x_Rows_get (Nat.le_trans (Nat.le_of_ble_eq_true rfl) hd) l1 l2 (3 : Int32) h (sh_okB H) (fun v1 H => ?_)))
  show wq_131 d Q 6 [oR 9 l0, oR 6 l1, oI l2, oI l3, oI l4, oI l5, oI l6, _, _] [aI v1] (sh_E h)
  refine ai_WP_steps mc_131 (sh_CM d) 5 (And.intro (Nat.le_of_ble_eq_true rfl) (x_Rows_get (Nat.le_trans (Nat.le_of_ble_eq_true rfl) hd) l1 l2 (4 : Int32) h (sh_okB H) (fun v2 H => ?_)))
  show wq_131 d Q 14 [oR 9 l0, oR 6 l1, oI l2, oI l3, oI l4, oI l5, oI l6, oI v1, _] [aI v2] (sh_E h)
  refine ai_WP_steps mc_131 (sh_CM d) 10 (And.intro (Nat.le_of_ble_eq_true rfl) (x_Formulas_value N (Nat.le_trans (Nat.le_of_ble_eq_true rfl) hd) l0 v1 v2 l3 l4 l5 l6 h (sh_okB H) (fun v3 h4 H => ?_)))
  show wq_131 d Q 34 [oR 9 l0, oR 6 l1, oI l2, oI l3, oI l4, oI l5, oI l6, oI v1, oI v2] [aI v3] (sh_E h4)
  exact ai_WP_steps mc_131 (sh_CM d) 1 (hR v3 h4 H)
def f_Calendar_flow_c2 (N : Nat)   (k2 : Nat → Nat → Int32 → Int32 → sh_H → Option sh_H) (l0 : Nat) (l1 : Nat) (l2 : Int32) (l3 : Int32) (h : sh_H) : Option sh_H := (Option.bind (f_Rows_size (7 * l0 + 4) h) (fun v1 => (if l3 < v1 then (Option.bind (f_Rows_get (7 * l0 + 4) l3 (0 : Int32) h) (fun v2 => (Option.bind (f_Rows_get (7 * l0 + 4) l3 (1 : Int32) h) (fun v3 => (Option.bind (f_Pieces_all N l1 v2 v3 h) (fun v4 => (Option.bind (f_Calendar_lot (5 : Int32) l2 (((1000 : Int32) + ((40 : Int32) * (h.1 7 l1 4))) + l3) h) (fun v5 => (if ¬ (12 : Int32) = 0 then (sh_b2 (f_Text_says N l0 (7 * l0 + 4) l3 ((h.1 7 l1 4) - (h.1 7 l1 4) / (12 : Int32) * (12 : Int32)) v4 (0 : Int32) v5 h) (fun v6 h7 => (Option.bind (f_CB_limit v6 v4 h7) (fun v8 => (Option.bind (f_Rows_get (7 * l0 + 4) l3 (2 : Int32) h7) (fun v9 => (Option.bind (f_Pieces_move N l1 v3 v2 v9 v8 (1 : Int32) h7) (fun h10 => k2 l0 l1 l2 (l3 + (1 : Int32)) h10)))))))) else none))))))))) else (some h))))
def f_Calendar_flow_l2 (N : Nat)   (n : Nat) : Nat → Nat → Int32 → Int32 → sh_H → Option sh_H := Nat.rec (motive := fun _ => Nat → Nat → Int32 → Int32 → sh_H → Option sh_H) (fun _ _ _ _ _ => none) (fun _ k2 => f_Calendar_flow_c2 N k2) n
theorem x_Calendar_flow_l2 (N : Nat) {d : Nat} (hd : 4 ≤ d) {Q : ai_Q} {R : sh_H → Prop} (hR : ∀ h, R h → Q none (sh_E h))   (n : Nat) : ∀ (l0 : Nat) (l1 : Nat) (l2 : Int32) (l3 : Int32) {d4 d5 d6 d7 d8 : Option ai_V} (h : sh_H), sh_ok (f_Calendar_flow_l2 N n l0 l1 l2 l3 h) R → wq_7 d Q 2 [oR 9 l0, oR 7 l1, oI l2, oI l3, d4, d5, d6, d7, d8] [] (sh_E h) := by
  induction n with
  | zero => intro l0 l1 l2 l3 d4 d5 d6 d7 d8 h H; exact H.elim
  | succ n ih =>
    intro l0 l1 l2 l3 d4 d5 d6 d7 d8 h H
    have hk2 := @ih
    replace H : sh_ok (f_Calendar_flow_c2 N (f_Calendar_flow_l2 N n) l0 l1 l2 l3 h) R := H
    revert hk2 H
    generalize f_Calendar_flow_l2 N n = k2
    intro hk2 H
    refine ai_WP_steps mc_7 (sh_CM d) 4 (And.intro (Nat.le_of_ble_eq_true rfl) (x_Rows_size (Nat.le_trans (Nat.le_of_ble_eq_true rfl) hd) (7 * l0 + 4) h (sh_okB H) (fun v1 H => ?_)))
    show wq_7 d Q 10 [oR 9 l0, oR 7 l1, oI l2, oI l3, _, _, _, _, _] [aI v1, aI l3] (sh_E h)
    refine ai_WP_steps mc_7 (sh_CM d) 1 (And.intro (fun c => ?_) (fun c => ?_))
    · replace H := sh_okT c H
      show wq_7 d Q 13 [oR 9 l0, oR 7 l1, oI l2, oI l3, _, _, _, _, _] [] (sh_E h)
      refine ai_WP_steps mc_7 (sh_CM d) 5 (And.intro (Nat.le_of_ble_eq_true rfl) (x_Rows_get (Nat.le_trans (Nat.le_of_ble_eq_true rfl) hd) (7 * l0 + 4) l3 (0 : Int32) h (sh_okB H) (fun v2 H => ?_)))
      show wq_7 d Q 22 [oR 9 l0, oR 7 l1, oI l2, oI l3, _, _, _, _, _] [aI v2] (sh_E h)
      refine ai_WP_steps mc_7 (sh_CM d) 6 (And.intro (Nat.le_of_ble_eq_true rfl) (x_Rows_get (Nat.le_trans (Nat.le_of_ble_eq_true rfl) hd) (7 * l0 + 4) l3 (1 : Int32) h (sh_okB H) (fun v3 H => ?_)))
      show wq_7 d Q 33 [oR 9 l0, oR 7 l1, oI l2, oI l3, oI v2, _, _, _, _] [aI v3] (sh_E h)
      refine ai_WP_steps mc_7 (sh_CM d) 6 (And.intro (Nat.le_of_ble_eq_true rfl) (x_Pieces_all N (Nat.le_trans (Nat.le_of_ble_eq_true rfl) hd) l1 v2 v3 h (sh_okB H) (fun v4 H => ?_)))
      show wq_7 d Q 46 [oR 9 l0, oR 7 l1, oI l2, oI l3, oI v2, oI v3, _, _, _] [aI v4] (sh_E h)
      refine ai_WP_steps mc_7 (sh_CM d) 12 (And.intro (Nat.le_of_ble_eq_true rfl) (x_Calendar_lot (Nat.le_trans (Nat.le_of_ble_eq_true rfl) hd) (5 : Int32) l2 (((1000 : Int32) + ((40 : Int32) * (h.1 7 l1 4))) + l3) h (sh_okB H) (fun v5 H => ?_)))
      show wq_7 d Q 66 [oR 9 l0, oR 7 l1, oI l2, oI l3, oI v2, oI v3, oI v4, _, _] [aI v5] (sh_E h)
      have c := sh_okG H
      replace H := sh_okH H
      refine ai_WP_steps mc_7 (sh_CM d) 9 (And.intro c ?_)
      show wq_7 d Q 81 [oR 9 l0, oR 7 l1, oI l2, oI l3, oI v2, oI v3, oI v4, oI v5, _] [aI ((h.1 7 l1 4) - (h.1 7 l1 4) / (12 : Int32) * (12 : Int32)), aI l3, aR 6 (7 * l0 + 4), aR 9 l0] (sh_E h)
      refine ai_WP_steps mc_7 (sh_CM d) 4 (And.intro (Nat.le_of_ble_eq_true rfl) (x_Text_says N (Nat.le_trans (Nat.le_of_ble_eq_true rfl) hd) l0 (7 * l0 + 4) l3 ((h.1 7 l1 4) - (h.1 7 l1 4) / (12 : Int32) * (12 : Int32)) v4 (0 : Int32) v5 h (sh_okB H) (fun v6 h7 H => ?_)))
      show wq_7 d Q 89 [oR 9 l0, oR 7 l1, oI l2, oI l3, oI v2, oI v3, oI v4, oI v5, _] [aI v6] (sh_E h7)
      refine ai_WP_steps mc_7 (sh_CM d) 2 (And.intro (Nat.le_of_ble_eq_true rfl) (x_CB_limit (Nat.le_trans (Nat.le_of_ble_eq_true rfl) hd) v6 v4 h7 (sh_okB H) (fun v8 H => ?_)))
      show wq_7 d Q 94 [oR 9 l0, oR 7 l1, oI l2, oI l3, oI v2, oI v3, oI v4, oI v5, _] [aI v8] (sh_E h7)
      refine ai_WP_steps mc_7 (sh_CM d) 10 (And.intro (Nat.le_of_ble_eq_true rfl) (x_Rows_get (Nat.le_trans (Nat.le_of_ble_eq_true rfl) hd) (7 * l0 + 4) l3 (2 : Int32) h7 (sh_okB H) (fun v9 H => ?_)))
      show wq_7 d Q 113 [oR 9 l0, oR 7 l1, oI l2, oI l3, oI v2, oI v3, oI v4, _, oI v8] [aI v9, aI v2, aI v3, aR 4 l1] (sh_E h7)
      refine ai_WP_steps mc_7 (sh_CM d) 3 (And.intro (Nat.le_of_ble_eq_true rfl) (x_Pieces_move N (Nat.le_trans (Nat.le_of_ble_eq_true rfl) hd) l1 v3 v2 v9 v8 (1 : Int32) h7 (sh_okB H) (fun h10 H => ?_)))
      show wq_7 d Q 119 [oR 9 l0, oR 7 l1, oI l2, oI l3, oI v2, oI v3, oI v4, _, oI v8] [] (sh_E h10)
      refine ai_WP_steps mc_7 (sh_CM d) 2 ?_
      exact hk2 l0 l1 l2 (l3 + (1 : Int32)) h10 H
    · replace H := sh_okF c H
      show wq_7 d Q 125 [oR 9 l0, oR 7 l1, oI l2, oI l3, _, _, _, _, _] [] (sh_E h)
      exact ai_WP_steps mc_7 (sh_CM d) 1 (hR h H)
def f_Calendar_flow (N : Nat)  (l0 : Nat) (l1 : Nat) (l2 : Int32) (h : sh_H) : Option sh_H := f_Calendar_flow_l2 N N l0 l1 l2 (0 : Int32) h
theorem x_Calendar_flow (N : Nat) {d : Nat} (hd : 5 ≤ d) (l0 : Nat) (l1 : Nat) (l2 : Int32) (h : sh_H) {Q : ai_Q} {R : sh_H → Prop} (H : sh_ok (f_Calendar_flow N l0 l1 l2 h) R) (hR : ∀ h, R h → Q none (sh_E h)) : ai_Ex sh_T d 7 [aR 9 l0, aR 7 l1, aI l2] (sh_E h) Q := by
  obtain ⟨d, rfl⟩ : ∃ e, d = e + 1 := ⟨d - 1, by omega⟩
  replace hd : 4 ≤ d := by omega
  refine And.intro (Nat.le_of_ble_eq_true rfl) ?_
  show wq_7 d Q 0 [oR 9 l0, oR 7 l1, oI l2, none, none, none, none, none, none] [] (sh_E h)
  refine ai_WP_steps mc_7 (sh_CM d) 2 ?_
  exact x_Calendar_flow_l2 N hd hR N l0 l1 l2 (0 : Int32) h H
def f_Text_harmOf  (l0 : Nat) (l1 : Int32) (h : sh_H) : Option Int32 := (Option.bind (f_Rows_get (7 * l0 + 1) (l1 - (1 : Int32)) (1 : Int32) h) (fun v1 => (some v1)))
theorem x_Text_harmOf {d : Nat} (hd : 3 ≤ d) (l0 : Nat) (l1 : Int32) (h : sh_H) {Q : ai_Q} {R : Int32 → Prop} (H : sh_ok (f_Text_harmOf l0 l1 h) R) (hR : ∀ r, R r → Q (some (aI r)) (sh_E h)) : ai_Ex sh_T d 126 [aR 9 l0, aI l1] (sh_E h) Q := by
  obtain ⟨d, rfl⟩ : ∃ e, d = e + 1 := ⟨d - 1, by omega⟩
  replace hd : 2 ≤ d := by omega
  refine And.intro (Nat.le_of_ble_eq_true rfl) ?_
  show wq_126 d Q 0 [oR 9 l0, oI l1] [] (sh_E h)
  refine ai_WP_steps mc_126 (sh_CM d) 7 (And.intro (Nat.le_of_ble_eq_true rfl) (x_Rows_get (Nat.le_trans (Nat.le_of_ble_eq_true rfl) hd) (7 * l0 + 1) (l1 - (1 : Int32)) (1 : Int32) h (sh_okB H) (fun v1 H => ?_)))
  show wq_126 d Q 11 [oR 9 l0, oI l1] [aI v1] (sh_E h)
  exact ai_WP_steps mc_126 (sh_CM d) 1 (hR v1 H)
def f_Text_lastOf_b33 (N : Nat)  (k7 : Nat → Int32 → Int32 → Int32 → sh_H → Option Int32) (l0 : Nat) (l1 : Int32) (l2 : Int32) (l3 : Int32) (h : sh_H) : Option Int32 := k7 l0 l1 l2 (l3 + (-1 : Int32)) h
theorem x_Text_lastOf_b33 (N : Nat) {d : Nat} (hd : 2 ≤ d) (h : sh_H) {Q : ai_Q} {R : Int32 → Prop} (hR : ∀ r, R r → Q (some (aI r)) (sh_E h))  (k7 : Nat → Int32 → Int32 → Int32 → sh_H → Option Int32) (hk7 : ∀ (l0 : Nat) (l1 : Int32) (l2 : Int32) (l3 : Int32), sh_ok (k7 l0 l1 l2 l3 h) R → wq_130 d Q 7 [oR 6 l0, oI l1, oI l2, oI l3] [] (sh_E h)) (l0 : Nat) (l1 : Int32) (l2 : Int32) (l3 : Int32) (H : sh_ok (f_Text_lastOf_b33 N k7 l0 l1 l2 l3 h) R) : wq_130 d Q 33 [oR 6 l0, oI l1, oI l2, oI l3] [] (sh_E h) := by
  refine ai_WP_steps mc_130 (sh_CM d) 2 ?_
  exact hk7 l0 l1 l2 (l3 + (-1 : Int32)) H
def f_Text_lastOf_c7 (N : Nat)   (k7 : Nat → Int32 → Int32 → Int32 → sh_H → Option Int32) (l0 : Nat) (l1 : Int32) (l2 : Int32) (l3 : Int32) (h : sh_H) : Option Int32 := (if l3 < 0 then (some (-1 : Int32)) else (Option.bind (f_Rows_get l0 l3 (0 : Int32) h) (fun v1 => (if v1 = l1 then (Option.bind (f_Rows_get l0 l3 (1 : Int32) h) (fun v2 => (if v2 = l2 then (some l3) else f_Text_lastOf_b33 N k7 l0 l1 l2 l3 h))) else f_Text_lastOf_b33 N k7 l0 l1 l2 l3 h))))
def f_Text_lastOf_l7 (N : Nat)   (n : Nat) : Nat → Int32 → Int32 → Int32 → sh_H → Option Int32 := Nat.rec (motive := fun _ => Nat → Int32 → Int32 → Int32 → sh_H → Option Int32) (fun _ _ _ _ _ => none) (fun _ k7 => f_Text_lastOf_c7 N k7) n
theorem x_Text_lastOf_l7 (N : Nat) {d : Nat} (hd : 2 ≤ d) (h : sh_H) {Q : ai_Q} {R : Int32 → Prop} (hR : ∀ r, R r → Q (some (aI r)) (sh_E h))   (n : Nat) : ∀ (l0 : Nat) (l1 : Int32) (l2 : Int32) (l3 : Int32), sh_ok (f_Text_lastOf_l7 N n l0 l1 l2 l3 h) R → wq_130 d Q 7 [oR 6 l0, oI l1, oI l2, oI l3] [] (sh_E h) := by
  induction n with
  | zero => intro l0 l1 l2 l3 H; exact H.elim
  | succ n ih =>
    intro l0 l1 l2 l3 H
    have hk7 := @ih
    replace H : sh_ok (f_Text_lastOf_c7 N (f_Text_lastOf_l7 N n) l0 l1 l2 l3 h) R := H
    revert hk7 H
    generalize f_Text_lastOf_l7 N n = k7
    intro hk7 H
    refine ai_WP_steps mc_130 (sh_CM d) 2 (And.intro (fun c => ?_) (fun c => ?_))
    · replace H := sh_okT c H
      show wq_130 d Q 39 [oR 6 l0, oI l1, oI l2, oI l3] [] (sh_E h)
      exact ai_WP_steps mc_130 (sh_CM d) 2 (hR (-1 : Int32) H)
    · replace H := sh_okF c H
      show wq_130 d Q 11 [oR 6 l0, oI l1, oI l2, oI l3] [] (sh_E h)
      refine ai_WP_steps mc_130 (sh_CM d) 4 (And.intro (Nat.le_of_ble_eq_true rfl) (x_Rows_get (Nat.le_trans (Nat.le_of_ble_eq_true rfl) hd) l0 l3 (0 : Int32) h (sh_okB H) (fun v1 H => ?_)))
      show wq_130 d Q 17 [oR 6 l0, oI l1, oI l2, oI l3] [aI v1] (sh_E h)
      refine ai_WP_steps mc_130 (sh_CM d) 2 (And.intro (fun c => ?_) (fun c => ?_))
      · replace H := sh_okT c H
        show wq_130 d Q 21 [oR 6 l0, oI l1, oI l2, oI l3] [] (sh_E h)
        refine ai_WP_steps mc_130 (sh_CM d) 4 (And.intro (Nat.le_of_ble_eq_true rfl) (x_Rows_get (Nat.le_trans (Nat.le_of_ble_eq_true rfl) hd) l0 l3 (1 : Int32) h (sh_okB H) (fun v2 H => ?_)))
        show wq_130 d Q 27 [oR 6 l0, oI l1, oI l2, oI l3] [aI v2] (sh_E h)
        refine ai_WP_steps mc_130 (sh_CM d) 2 (And.intro (fun c => ?_) (fun c => ?_))
        · replace H := sh_okT c H
          show wq_130 d Q 31 [oR 6 l0, oI l1, oI l2, oI l3] [] (sh_E h)
          exact ai_WP_steps mc_130 (sh_CM d) 2 (hR l3 H)
        · replace H := sh_okF c H
          exact x_Text_lastOf_b33 N hd h hR k7 hk7 l0 l1 l2 l3 H
      · replace H := sh_okF c H
        exact x_Text_lastOf_b33 N hd h hR k7 hk7 l0 l1 l2 l3 H
def f_Text_lastOf (N : Nat)  (l0 : Nat) (l1 : Int32) (l2 : Int32) (h : sh_H) : Option Int32 := (Option.bind (f_Rows_size l0 h) (fun v3 => f_Text_lastOf_l7 N N l0 l1 l2 (v3 - (1 : Int32)) h))
theorem x_Text_lastOf (N : Nat) {d : Nat} (hd : 3 ≤ d) (l0 : Nat) (l1 : Int32) (l2 : Int32) (h : sh_H) {Q : ai_Q} {R : Int32 → Prop} (H : sh_ok (f_Text_lastOf N l0 l1 l2 h) R) (hR : ∀ r, R r → Q (some (aI r)) (sh_E h)) : ai_Ex sh_T d 130 [aR 6 l0, aI l1, aI l2] (sh_E h) Q := by
  obtain ⟨d, rfl⟩ : ∃ e, d = e + 1 := ⟨d - 1, by omega⟩
  replace hd : 2 ≤ d := by omega
  refine And.intro (Nat.le_of_ble_eq_true rfl) ?_
  show wq_130 d Q 0 [oR 6 l0, oI l1, oI l2, none] [] (sh_E h)
  refine ai_WP_steps mc_130 (sh_CM d) 2 (And.intro (Nat.le_of_ble_eq_true rfl) (x_Rows_size (Nat.le_trans (Nat.le_of_ble_eq_true rfl) hd) l0 h (sh_okB H) (fun v3 H => ?_)))
  show wq_130 d Q 4 [oR 6 l0, oI l1, oI l2, _] [aI v3] (sh_E h)
  refine ai_WP_steps mc_130 (sh_CM d) 3 ?_
  exact x_Text_lastOf_l7 N hd h hR N l0 l1 l2 (v3 - (1 : Int32)) H
def f_Text_wanted (N : Nat)  (l0 : Nat) (l1 : Int32) (l2 : Int32) (l3 : Int32) (h : sh_H) : Option (Int32 × sh_H) := (Option.bind (f_Text_lastOf N (7 * l0 + 2) l1 l2 h) (fun v1 => (if v1 = (-1 : Int32) then (some ((0 : Int32), h)) else (sh_b2 (f_Text_says N l0 (7 * l0 + 2) v1 l3 (0 : Int32) (0 : Int32) (0 : Int32) h) (fun v2 h3 => (Option.bind (f_CB_limit v2 (9999 : Int32) h3) (fun v4 => (some (v4, h3)))))))))
theorem x_Text_wanted (N : Nat) {d : Nat} (hd : 4 ≤ d) (l0 : Nat) (l1 : Int32) (l2 : Int32) (l3 : Int32) (h : sh_H) {Q : ai_Q} {R : Int32 × sh_H → Prop} (H : sh_ok (f_Text_wanted N l0 l1 l2 l3 h) R) (hR : ∀ r h, R (r, h) → Q (some (aI r)) (sh_E h)) : ai_Ex sh_T d 128 [aR 9 l0, aI l1, aI l2, aI l3] (sh_E h) Q := by
  obtain ⟨d, rfl⟩ : ∃ e, d = e + 1 := ⟨d - 1, by omega⟩
  replace hd : 3 ≤ d := by omega
  refine And.intro (Nat.le_of_ble_eq_true rfl) ?_
  show wq_128 d Q 0 [oR 9 l0, oI l1, oI l2, oI l3, none] [] (sh_E h)
  refine ai_WP_steps mc_128 (sh_CM d) 5 (And.intro (Nat.le_of_ble_eq_true rfl) (x_Text_lastOf N (Nat.le_trans (Nat.le_of_ble_eq_true rfl) hd) (7 * l0 + 2) l1 l2 h (sh_okB H) (fun v1 H => ?_)))
  show wq_128 d Q 9 [oR 9 l0, oI l1, oI l2, oI l3, _] [aI v1] (sh_E h)
  refine ai_WP_steps mc_128 (sh_CM d) 4 (And.intro (fun c => ?_) (fun c => ?_))
  · replace H := sh_okT c H
    show wq_128 d Q 17 [oR 9 l0, oI l1, oI l2, oI l3, oI v1] [] (sh_E h)
    exact ai_WP_steps mc_128 (sh_CM d) 3 (hR (0 : Int32) h H)
  · replace H := sh_okF c H
    show wq_128 d Q 21 [oR 9 l0, oI l1, oI l2, oI l3, oI v1] [] (sh_E h)
    refine ai_WP_steps mc_128 (sh_CM d) 9 (And.intro (Nat.le_of_ble_eq_true rfl) (x_Text_says N (Nat.le_trans (Nat.le_of_ble_eq_true rfl) hd) l0 (7 * l0 + 2) v1 l3 (0 : Int32) (0 : Int32) (0 : Int32) h (sh_okB H) (fun v2 h3 H => ?_)))
    show wq_128 d Q 35 [oR 9 l0, oI l1, oI l2, oI l3, oI v1] [aI v2] (sh_E h3)
    refine ai_WP_steps mc_128 (sh_CM d) 2 (And.intro (Nat.le_of_ble_eq_true rfl) (x_CB_limit (Nat.le_trans (Nat.le_of_ble_eq_true rfl) hd) v2 (9999 : Int32) h3 (sh_okB H) (fun v4 H => ?_)))
    show wq_128 d Q 41 [oR 9 l0, oI l1, oI l2, oI l3, oI v1] [aI v4] (sh_E h3)
    exact ai_WP_steps mc_128 (sh_CM d) 1 (hR v4 h3 H)
def f_Calendar_lack_c18 (N : Nat)  (k126 : Nat → Nat → Int32 → Int32 → sh_H → Option (Int32 × sh_H)) (k18 : Nat → Nat → Int32 → Int32 → Int32 → sh_H → Option (Int32 × sh_H)) (l0 : Nat) (l1 : Nat) (l2 : Int32) (l3 : Int32) (l4 : Int32) (h : sh_H) : Option (Int32 × sh_H) := (Option.bind (f_Rows_size (7 * l0 + 0) h) (fun v1 => (if l4 < v1 then (if ¬ (12 : Int32) = 0 then (sh_b2 (f_Text_wanted N l0 l3 l4 ((h.1 7 l1 4) - (h.1 7 l1 4) / (12 : Int32) * (12 : Int32)) h) (fun v2 h3 => (Option.bind (f_Pieces_all N l1 l3 l4 h3) (fun v4 => (Option.bind (f_Math_max (0 : Int32) (v2 - v4) h3) (fun v5 => (Option.bind (f_Rows_get (4 * l1 + 17) (l3 - (1 : Int32)) l4 h3) (fun v6 => (Option.bind (f_Rows_put (4 * l1 + 17) (l3 - (1 : Int32)) l4 (v6 + v5) h3) (fun h7 => (Option.bind (f_Text_harmOf l0 l3 h7) (fun v8 => (sh_let (sh_pJ h7 7 l1 5 ((h7.2.1 7 l1 5) + (v5.toInt64 * v8.toInt64))) (fun h9 => k18 l0 l1 (l2 + v5) l3 (l4 + (1 : Int32)) h9)))))))))))))) else none) else k126 l0 l1 l2 l3 h)))
def f_Calendar_lack_l18 (N : Nat)  (k126 : Nat → Nat → Int32 → Int32 → sh_H → Option (Int32 × sh_H)) (n : Nat) : Nat → Nat → Int32 → Int32 → Int32 → sh_H → Option (Int32 × sh_H) := Nat.rec (motive := fun _ => Nat → Nat → Int32 → Int32 → Int32 → sh_H → Option (Int32 × sh_H)) (fun _ _ _ _ _ _ => none) (fun _ k18 => f_Calendar_lack_c18 N k126 k18) n
theorem x_Calendar_lack_l18 (N : Nat) {d : Nat} (hd : 4 ≤ d) {Q : ai_Q} {R : Int32 × sh_H → Prop} (hR : ∀ r h, R (r, h) → Q (some (aI r)) (sh_E h))  (k126 : Nat → Nat → Int32 → Int32 → sh_H → Option (Int32 × sh_H)) (hk126 : ∀ (l0 : Nat) (l1 : Nat) (l2 : Int32) (l3 : Int32) {d4 d5 d6 d7 : Option ai_V} (h : sh_H), sh_ok (k126 l0 l1 l2 l3 h) R → wq_11 d Q 126 [oR 9 l0, oR 7 l1, oI l2, oI l3, d4, d5, d6, d7] [] (sh_E h)) (n : Nat) : ∀ (l0 : Nat) (l1 : Nat) (l2 : Int32) (l3 : Int32) (l4 : Int32) {d5 d6 d7 : Option ai_V} (h : sh_H), sh_ok (f_Calendar_lack_l18 N k126 n l0 l1 l2 l3 l4 h) R → wq_11 d Q 18 [oR 9 l0, oR 7 l1, oI l2, oI l3, oI l4, d5, d6, d7] [] (sh_E h) := by
  induction n with
  | zero => intro l0 l1 l2 l3 l4 d5 d6 d7 h H; exact H.elim
  | succ n ih =>
    intro l0 l1 l2 l3 l4 d5 d6 d7 h H
    have hk18 := @ih
    replace H : sh_ok (f_Calendar_lack_c18 N k126 (f_Calendar_lack_l18 N k126 n) l0 l1 l2 l3 l4 h) R := H
    revert hk18 H
    generalize f_Calendar_lack_l18 N k126 n = k18
    intro hk18 H
    refine ai_WP_steps mc_11 (sh_CM d) 4 (And.intro (Nat.le_of_ble_eq_true rfl) (x_Rows_size (Nat.le_trans (Nat.le_of_ble_eq_true rfl) hd) (7 * l0 + 0) h (sh_okB H) (fun v1 H => ?_)))
    show wq_11 d Q 27 [oR 9 l0, oR 7 l1, oI l2, oI l3, oI l4, _, _, _] [aI v1, aI l4] (sh_E h)
    refine ai_WP_steps mc_11 (sh_CM d) 1 (And.intro (fun c => ?_) (fun c => ?_))
    · replace H := sh_okT c H
      show wq_11 d Q 30 [oR 9 l0, oR 7 l1, oI l2, oI l3, oI l4, _, _, _] [] (sh_E h)
      have c := sh_okG H
      replace H := sh_okH H
      refine ai_WP_steps mc_11 (sh_CM d) 7 (And.intro c ?_)
      show wq_11 d Q 41 [oR 9 l0, oR 7 l1, oI l2, oI l3, oI l4, _, _, _] [aI ((h.1 7 l1 4) - (h.1 7 l1 4) / (12 : Int32) * (12 : Int32)), aI l4, aI l3, aR 9 l0] (sh_E h)
      refine ai_WP_steps mc_11 (sh_CM d) 1 (And.intro (Nat.le_of_ble_eq_true rfl) (x_Text_wanted N (Nat.le_trans (Nat.le_of_ble_eq_true rfl) hd) l0 l3 l4 ((h.1 7 l1 4) - (h.1 7 l1 4) / (12 : Int32) * (12 : Int32)) h (sh_okB H) (fun v2 h3 H => ?_)))
      show wq_11 d Q 44 [oR 9 l0, oR 7 l1, oI l2, oI l3, oI l4, _, _, _] [aI v2] (sh_E h3)
      refine ai_WP_steps mc_11 (sh_CM d) 8 (And.intro (Nat.le_of_ble_eq_true rfl) (x_Pieces_all N (Nat.le_trans (Nat.le_of_ble_eq_true rfl) hd) l1 l3 l4 h3 (sh_okB H) (fun v4 H => ?_)))
      show wq_11 d Q 59 [oR 9 l0, oR 7 l1, oI l2, oI l3, oI l4, oI v2, _, _] [aI v4, aI v2, aI (0 : Int32)] (sh_E h3)
      refine ai_WP_steps mc_11 (sh_CM d) 2 (And.intro (Nat.le_of_ble_eq_true rfl) (x_Math_max (Nat.le_trans (Nat.le_of_ble_eq_true rfl) hd) (0 : Int32) (v2 - v4) h3 (sh_okB H) (fun v5 H => ?_)))
      show wq_11 d Q 63 [oR 9 l0, oR 7 l1, oI l2, oI l3, oI l4, oI v2, _, _] [aI v5] (sh_E h3)
      refine ai_WP_steps mc_11 (sh_CM d) 8 (And.intro (Nat.le_of_ble_eq_true rfl) (x_Rows_get (Nat.le_trans (Nat.le_of_ble_eq_true rfl) hd) (4 * l1 + 17) (l3 - (1 : Int32)) l4 h3 (sh_okB H) (fun v6 H => ?_)))
      show wq_11 d Q 77 [oR 9 l0, oR 7 l1, oI l2, oI l3, oI l4, _, oI v5, _] [aI v6] (sh_E h3)
      refine ai_WP_steps mc_11 (sh_CM d) 11 (And.intro (Nat.le_of_ble_eq_true rfl) (x_Rows_put (Nat.le_trans (Nat.le_of_ble_eq_true rfl) hd) (4 * l1 + 17) (l3 - (1 : Int32)) l4 (v6 + v5) h3 (sh_okB H) (fun h7 H => ?_)))
      show wq_11 d Q 96 [oR 9 l0, oR 7 l1, oI l2, oI l3, oI l4, _, oI v5, oI v6] [] (sh_E h7)
      refine ai_WP_steps mc_11 (sh_CM d) 8 (And.intro (Nat.le_of_ble_eq_true rfl) (x_Text_harmOf (Nat.le_trans (Nat.le_of_ble_eq_true rfl) hd) l0 l3 h7 (sh_okB H) (fun v8 H => ?_)))
      show wq_11 d Q 109 [oR 9 l0, oR 7 l1, oI l2, oI l3, oI l4, _, oI v5, oI v6] [aI v8, aL v5.toInt64, aL (h7.2.1 7 l1 5), aR 7 l1] (sh_E h7)
      refine ai_WP_steps mc_11 (sh_CM d) 4 ?_
      show wq_11 d Q 115 [oR 9 l0, oR 7 l1, oI l2, oI l3, oI l4, _, oI v5, oI v6] [] (sh_E (sh_pJ h7 7 l1 5 ((h7.2.1 7 l1 5) + (v5.toInt64 * v8.toInt64))))
      replace H := sh_okL H
      generalize sh_pJ h7 7 l1 5 ((h7.2.1 7 l1 5) + (v5.toInt64 * v8.toInt64)) = h9 at H ⊢
      refine ai_WP_steps mc_11 (sh_CM d) 6 ?_
      exact hk18 l0 l1 (l2 + v5) l3 (l4 + (1 : Int32)) h9 H
    · replace H := sh_okF c H
      exact hk126 l0 l1 l2 l3 h H
def f_Calendar_lack_b126 (N : Nat)  (k4 : Nat → Nat → Int32 → Int32 → sh_H → Option (Int32 × sh_H)) (l0 : Nat) (l1 : Nat) (l2 : Int32) (l3 : Int32) (h : sh_H) : Option (Int32 × sh_H) := k4 l0 l1 l2 (l3 + (1 : Int32)) h
theorem x_Calendar_lack_b126 (N : Nat) {d : Nat} (hd : 4 ≤ d) {Q : ai_Q} {R : Int32 × sh_H → Prop} (hR : ∀ r h, R (r, h) → Q (some (aI r)) (sh_E h))  (k4 : Nat → Nat → Int32 → Int32 → sh_H → Option (Int32 × sh_H)) (hk4 : ∀ (l0 : Nat) (l1 : Nat) (l2 : Int32) (l3 : Int32) {d4 d5 d6 d7 : Option ai_V} (h : sh_H), sh_ok (k4 l0 l1 l2 l3 h) R → wq_11 d Q 4 [oR 9 l0, oR 7 l1, oI l2, oI l3, d4, d5, d6, d7] [] (sh_E h)) (l0 : Nat) (l1 : Nat) (l2 : Int32) (l3 : Int32) {d4 d5 d6 d7 : Option ai_V} (h : sh_H) (H : sh_ok (f_Calendar_lack_b126 N k4 l0 l1 l2 l3 h) R) : wq_11 d Q 126 [oR 9 l0, oR 7 l1, oI l2, oI l3, d4, d5, d6, d7] [] (sh_E h) := by
  refine ai_WP_steps mc_11 (sh_CM d) 2 ?_
  exact hk4 l0 l1 l2 (l3 + (1 : Int32)) h H
def f_Calendar_lack_c4 (N : Nat)   (k4 : Nat → Nat → Int32 → Int32 → sh_H → Option (Int32 × sh_H)) (l0 : Nat) (l1 : Nat) (l2 : Int32) (l3 : Int32) (h : sh_H) : Option (Int32 × sh_H) := (Option.bind (f_Rows_size (7 * l0 + 1) h) (fun v10 => (if v10 < l3 then (some (l2, h)) else f_Calendar_lack_l18 N (f_Calendar_lack_b126 N k4) N l0 l1 l2 l3 (0 : Int32) h)))
def f_Calendar_lack_l4 (N : Nat)   (n : Nat) : Nat → Nat → Int32 → Int32 → sh_H → Option (Int32 × sh_H) := Nat.rec (motive := fun _ => Nat → Nat → Int32 → Int32 → sh_H → Option (Int32 × sh_H)) (fun _ _ _ _ _ => none) (fun _ k4 => f_Calendar_lack_c4 N k4) n
theorem x_Calendar_lack_l4 (N : Nat) {d : Nat} (hd : 4 ≤ d) {Q : ai_Q} {R : Int32 × sh_H → Prop} (hR : ∀ r h, R (r, h) → Q (some (aI r)) (sh_E h))   (n : Nat) : ∀ (l0 : Nat) (l1 : Nat) (l2 : Int32) (l3 : Int32) {d4 d5 d6 d7 : Option ai_V} (h : sh_H), sh_ok (f_Calendar_lack_l4 N n l0 l1 l2 l3 h) R → wq_11 d Q 4 [oR 9 l0, oR 7 l1, oI l2, oI l3, d4, d5, d6, d7] [] (sh_E h) := by
  induction n with
  | zero => intro l0 l1 l2 l3 d4 d5 d6 d7 h H; exact H.elim
  | succ n ih =>
    intro l0 l1 l2 l3 d4 d5 d6 d7 h H
    have hk4 := @ih
    replace H : sh_ok (f_Calendar_lack_c4 N (f_Calendar_lack_l4 N n) l0 l1 l2 l3 h) R := H
    revert hk4 H
    generalize f_Calendar_lack_l4 N n = k4
    intro hk4 H
    refine ai_WP_steps mc_11 (sh_CM d) 4 (And.intro (Nat.le_of_ble_eq_true rfl) (x_Rows_size (Nat.le_trans (Nat.le_of_ble_eq_true rfl) hd) (7 * l0 + 1) h (sh_okB H) (fun v10 H => ?_)))
    show wq_11 d Q 12 [oR 9 l0, oR 7 l1, oI l2, oI l3, _, _, _, _] [aI v10, aI l3] (sh_E h)
    refine ai_WP_steps mc_11 (sh_CM d) 1 (And.intro (fun c => ?_) (fun c => ?_))
    · replace H := sh_okT c H
      show wq_11 d Q 132 [oR 9 l0, oR 7 l1, oI l2, oI l3, _, _, _, _] [] (sh_E h)
      exact ai_WP_steps mc_11 (sh_CM d) 2 (hR l2 h H)
    · replace H := sh_okF c H
      show wq_11 d Q 15 [oR 9 l0, oR 7 l1, oI l2, oI l3, _, _, _, _] [] (sh_E h)
      refine ai_WP_steps mc_11 (sh_CM d) 2 ?_
      exact x_Calendar_lack_l18 N hd hR (f_Calendar_lack_b126 N k4) (fun z0 z1 z2 z3 {e4} {e5} {e6} {e7} h H => x_Calendar_lack_b126 N hd hR k4 hk4 z0 z1 z2 z3 h H) N l0 l1 l2 l3 (0 : Int32) h H
def f_Calendar_lack (N : Nat)  (l0 : Nat) (l1 : Nat) (h : sh_H) : Option (Int32 × sh_H) := f_Calendar_lack_l4 N N l0 l1 (0 : Int32) (1 : Int32) h
theorem x_Calendar_lack (N : Nat) {d : Nat} (hd : 5 ≤ d) (l0 : Nat) (l1 : Nat) (h : sh_H) {Q : ai_Q} {R : Int32 × sh_H → Prop} (H : sh_ok (f_Calendar_lack N l0 l1 h) R) (hR : ∀ r h, R (r, h) → Q (some (aI r)) (sh_E h)) : ai_Ex sh_T d 11 [aR 9 l0, aR 7 l1] (sh_E h) Q := by
  obtain ⟨d, rfl⟩ : ∃ e, d = e + 1 := ⟨d - 1, by omega⟩
  replace hd : 4 ≤ d := by omega
  refine And.intro (Nat.le_of_ble_eq_true rfl) ?_
  show wq_11 d Q 0 [oR 9 l0, oR 7 l1, none, none, none, none, none, none] [] (sh_E h)
  refine ai_WP_steps mc_11 (sh_CM d) 4 ?_
  exact x_Calendar_lack_l4 N hd hR N l0 l1 (0 : Int32) (1 : Int32) h H
def f_Text_isInForce (N : Nat)  (l0 : Nat) (l1 : Nat) (l2 : Int32) (h : sh_H) : Option Int32 := (Option.bind (f_Rows_get l1 l2 (0 : Int32) h) (fun v1 => (Option.bind (f_Rows_get l1 l2 (1 : Int32) h) (fun v2 => (Option.bind (f_Text_lastOf N l1 v1 v2 h) (fun v3 => (if v3 = l2 then (some (ai_nar 1 (1 : Int32))) else (some (ai_nar 1 (0 : Int32))))))))))
theorem x_Text_isInForce (N : Nat) {d : Nat} (hd : 4 ≤ d) (l0 : Nat) (l1 : Nat) (l2 : Int32) (h : sh_H) {Q : ai_Q} {R : Int32 → Prop} (H : sh_ok (f_Text_isInForce N l0 l1 l2 h) R) (hR : ∀ r, R r → Q (some (aI r)) (sh_E h)) : ai_Ex sh_T d 129 [aR 9 l0, aR 6 l1, aI l2] (sh_E h) Q := by
  obtain ⟨d, rfl⟩ : ∃ e, d = e + 1 := ⟨d - 1, by omega⟩
  replace hd : 3 ≤ d := by omega
  refine And.intro (Nat.le_of_ble_eq_true rfl) ?_
  show wq_129 d Q 0 [oR 9 l0, oR 6 l1, oI l2] [] (sh_E h)
  refine ai_WP_steps mc_129 (sh_CM d) 5 (And.intro (Nat.le_of_ble_eq_true rfl) (x_Rows_get (Nat.le_trans (Nat.le_of_ble_eq_true rfl) hd) l1 l2 (0 : Int32) h (sh_okB H) (fun v1 H => ?_)))
  show wq_129 d Q 7 [oR 9 l0, oR 6 l1, oI l2] [aI v1, aR 6 l1] (sh_E h)
  refine ai_WP_steps mc_129 (sh_CM d) 4 (And.intro (Nat.le_of_ble_eq_true rfl) (x_Rows_get (Nat.le_trans (Nat.le_of_ble_eq_true rfl) hd) l1 l2 (1 : Int32) h (sh_okB H) (fun v2 H => ?_)))
  show wq_129 d Q 13 [oR 9 l0, oR 6 l1, oI l2] [aI v2, aI v1, aR 6 l1] (sh_E h)
  refine ai_WP_steps mc_129 (sh_CM d) 1 (And.intro (Nat.le_of_ble_eq_true rfl) (x_Text_lastOf N (Nat.le_trans (Nat.le_of_ble_eq_true rfl) hd) l1 v1 v2 h (sh_okB H) (fun v3 H => ?_)))
  show wq_129 d Q 16 [oR 9 l0, oR 6 l1, oI l2] [aI v3] (sh_E h)
  refine ai_WP_steps mc_129 (sh_CM d) 2 (And.intro (fun c => ?_) (fun c => ?_))
  · replace H := sh_okT c H
    show wq_129 d Q 20 [oR 9 l0, oR 6 l1, oI l2] [] (sh_E h)
    exact ai_WP_steps mc_129 (sh_CM d) 3 (hR (ai_nar 1 (1 : Int32)) H)
  · replace H := sh_okF c H
    show wq_129 d Q 24 [oR 9 l0, oR 6 l1, oI l2] [] (sh_E h)
    exact ai_WP_steps mc_129 (sh_CM d) 2 (hR (ai_nar 1 (0 : Int32)) H)
def f_Calendar_lose_b99 (N : Nat)  (k2 : Nat → Nat → Int32 → sh_H → Option sh_H) (l0 : Nat) (l1 : Nat) (l2 : Int32) (h : sh_H) : Option sh_H := k2 l0 l1 (l2 + (1 : Int32)) h
theorem x_Calendar_lose_b99 (N : Nat) {d : Nat} (hd : 4 ≤ d) {Q : ai_Q} {R : sh_H → Prop} (hR : ∀ h, R h → Q none (sh_E h))  (k2 : Nat → Nat → Int32 → sh_H → Option sh_H) (hk2 : ∀ (l0 : Nat) (l1 : Nat) (l2 : Int32) {d3 d4 d5 d6 : Option ai_V} (h : sh_H), sh_ok (k2 l0 l1 l2 h) R → wq_10 d Q 2 [oR 9 l0, oR 7 l1, oI l2, d3, d4, d5, d6] [] (sh_E h)) (l0 : Nat) (l1 : Nat) (l2 : Int32) {d3 d4 d5 d6 : Option ai_V} (h : sh_H) (H : sh_ok (f_Calendar_lose_b99 N k2 l0 l1 l2 h) R) : wq_10 d Q 99 [oR 9 l0, oR 7 l1, oI l2, d3, d4, d5, d6] [] (sh_E h) := by
  refine ai_WP_steps mc_10 (sh_CM d) 2 ?_
  exact hk2 l0 l1 (l2 + (1 : Int32)) h H
def f_Calendar_lose_c2 (N : Nat)   (k2 : Nat → Nat → Int32 → sh_H → Option sh_H) (l0 : Nat) (l1 : Nat) (l2 : Int32) (h : sh_H) : Option sh_H := (Option.bind (f_Rows_size (7 * l0 + 3) h) (fun v1 => (if l2 < v1 then (Option.bind (f_Text_isInForce N l0 (7 * l0 + 3) l2 h) (fun v2 => (if v2 = 0 then f_Calendar_lose_b99 N k2 l0 l1 l2 h else (Option.bind (f_Rows_get (7 * l0 + 3) l2 (0 : Int32) h) (fun v3 => (Option.bind (f_Rows_get (7 * l0 + 3) l2 (1 : Int32) h) (fun v4 => (Option.bind (f_Pieces_all N l1 v3 v4 h) (fun v5 => (if ¬ (12 : Int32) = 0 then (sh_b2 (f_Text_says N l0 (7 * l0 + 3) l2 ((h.1 7 l1 4) - (h.1 7 l1 4) / (12 : Int32) * (12 : Int32)) v5 (0 : Int32) (0 : Int32) h) (fun v6 h7 => (Option.bind (f_CB_limit v6 v5 h7) (fun v8 => (Option.bind (f_Pieces_move N l1 v4 v3 (-1 : Int32) v8 (1 : Int32) h7) (fun h9 => f_Calendar_lose_b99 N k2 l0 l1 l2 h9)))))) else none)))))))))) else (some h))))
def f_Calendar_lose_l2 (N : Nat)   (n : Nat) : Nat → Nat → Int32 → sh_H → Option sh_H := Nat.rec (motive := fun _ => Nat → Nat → Int32 → sh_H → Option sh_H) (fun _ _ _ _ => none) (fun _ k2 => f_Calendar_lose_c2 N k2) n
theorem x_Calendar_lose_l2 (N : Nat) {d : Nat} (hd : 4 ≤ d) {Q : ai_Q} {R : sh_H → Prop} (hR : ∀ h, R h → Q none (sh_E h))   (n : Nat) : ∀ (l0 : Nat) (l1 : Nat) (l2 : Int32) {d3 d4 d5 d6 : Option ai_V} (h : sh_H), sh_ok (f_Calendar_lose_l2 N n l0 l1 l2 h) R → wq_10 d Q 2 [oR 9 l0, oR 7 l1, oI l2, d3, d4, d5, d6] [] (sh_E h) := by
  induction n with
  | zero => intro l0 l1 l2 d3 d4 d5 d6 h H; exact H.elim
  | succ n ih =>
    intro l0 l1 l2 d3 d4 d5 d6 h H
    have hk2 := @ih
    replace H : sh_ok (f_Calendar_lose_c2 N (f_Calendar_lose_l2 N n) l0 l1 l2 h) R := H
    revert hk2 H
    generalize f_Calendar_lose_l2 N n = k2
    intro hk2 H
    refine ai_WP_steps mc_10 (sh_CM d) 4 (And.intro (Nat.le_of_ble_eq_true rfl) (x_Rows_size (Nat.le_trans (Nat.le_of_ble_eq_true rfl) hd) (7 * l0 + 3) h (sh_okB H) (fun v1 H => ?_)))
    show wq_10 d Q 10 [oR 9 l0, oR 7 l1, oI l2, _, _, _, _] [aI v1, aI l2] (sh_E h)
    refine ai_WP_steps mc_10 (sh_CM d) 1 (And.intro (fun c => ?_) (fun c => ?_))
    · replace H := sh_okT c H
      show wq_10 d Q 13 [oR 9 l0, oR 7 l1, oI l2, _, _, _, _] [] (sh_E h)
      refine ai_WP_steps mc_10 (sh_CM d) 5 (And.intro (Nat.le_of_ble_eq_true rfl) (x_Text_isInForce N (Nat.le_trans (Nat.le_of_ble_eq_true rfl) hd) l0 (7 * l0 + 3) l2 h (sh_okB H) (fun v2 H => ?_)))
      show wq_10 d Q 22 [oR 9 l0, oR 7 l1, oI l2, _, _, _, _] [aI v2] (sh_E h)
      refine ai_WP_steps mc_10 (sh_CM d) 1 (And.intro (fun c => ?_) (fun c => ?_))
      · replace H := sh_okT c H
        exact x_Calendar_lose_b99 N hd hR k2 hk2 l0 l1 l2 h H
      · replace H := sh_okF c H
        show wq_10 d Q 25 [oR 9 l0, oR 7 l1, oI l2, _, _, _, _] [] (sh_E h)
        refine ai_WP_steps mc_10 (sh_CM d) 5 (And.intro (Nat.le_of_ble_eq_true rfl) (x_Rows_get (Nat.le_trans (Nat.le_of_ble_eq_true rfl) hd) (7 * l0 + 3) l2 (0 : Int32) h (sh_okB H) (fun v3 H => ?_)))
        show wq_10 d Q 34 [oR 9 l0, oR 7 l1, oI l2, _, _, _, _] [aI v3] (sh_E h)
        refine ai_WP_steps mc_10 (sh_CM d) 6 (And.intro (Nat.le_of_ble_eq_true rfl) (x_Rows_get (Nat.le_trans (Nat.le_of_ble_eq_true rfl) hd) (7 * l0 + 3) l2 (1 : Int32) h (sh_okB H) (fun v4 H => ?_)))
        show wq_10 d Q 44 [oR 9 l0, oR 7 l1, oI l2, oI v3, _, _, _] [aI v4] (sh_E h)
        refine ai_WP_steps mc_10 (sh_CM d) 6 (And.intro (Nat.le_of_ble_eq_true rfl) (x_Pieces_all N (Nat.le_trans (Nat.le_of_ble_eq_true rfl) hd) l1 v3 v4 h (sh_okB H) (fun v5 H => ?_)))
        show wq_10 d Q 56 [oR 9 l0, oR 7 l1, oI l2, oI v3, oI v4, _, _] [aI v5] (sh_E h)
        have c := sh_okG H
        replace H := sh_okH H
        refine ai_WP_steps mc_10 (sh_CM d) 9 (And.intro c ?_)
        show wq_10 d Q 71 [oR 9 l0, oR 7 l1, oI l2, oI v3, oI v4, oI v5, _] [aI ((h.1 7 l1 4) - (h.1 7 l1 4) / (12 : Int32) * (12 : Int32)), aI l2, aR 6 (7 * l0 + 3), aR 9 l0] (sh_E h)
        refine ai_WP_steps mc_10 (sh_CM d) 4 (And.intro (Nat.le_of_ble_eq_true rfl) (x_Text_says N (Nat.le_trans (Nat.le_of_ble_eq_true rfl) hd) l0 (7 * l0 + 3) l2 ((h.1 7 l1 4) - (h.1 7 l1 4) / (12 : Int32) * (12 : Int32)) v5 (0 : Int32) (0 : Int32) h (sh_okB H) (fun v6 h7 H => ?_)))
        show wq_10 d Q 78 [oR 9 l0, oR 7 l1, oI l2, oI v3, oI v4, oI v5, _] [aI v6] (sh_E h7)
        refine ai_WP_steps mc_10 (sh_CM d) 2 (And.intro (Nat.le_of_ble_eq_true rfl) (x_CB_limit (Nat.le_trans (Nat.le_of_ble_eq_true rfl) hd) v6 v5 h7 (sh_okB H) (fun v8 H => ?_)))
        show wq_10 d Q 83 [oR 9 l0, oR 7 l1, oI l2, oI v3, oI v4, oI v5, _] [aI v8] (sh_E h7)
        refine ai_WP_steps mc_10 (sh_CM d) 9 (And.intro (Nat.le_of_ble_eq_true rfl) (x_Pieces_move N (Nat.le_trans (Nat.le_of_ble_eq_true rfl) hd) l1 v4 v3 (-1 : Int32) v8 (1 : Int32) h7 (sh_okB H) (fun h9 H => ?_)))
        show wq_10 d Q 99 [oR 9 l0, oR 7 l1, oI l2, oI v3, oI v4, _, oI v8] [] (sh_E h9)
        exact x_Calendar_lose_b99 N hd hR k2 hk2 l0 l1 l2 h9 H
    · replace H := sh_okF c H
      show wq_10 d Q 105 [oR 9 l0, oR 7 l1, oI l2, _, _, _, _] [] (sh_E h)
      exact ai_WP_steps mc_10 (sh_CM d) 1 (hR h H)
def f_Calendar_lose (N : Nat)  (l0 : Nat) (l1 : Nat) (h : sh_H) : Option sh_H := f_Calendar_lose_l2 N N l0 l1 (0 : Int32) h
theorem x_Calendar_lose (N : Nat) {d : Nat} (hd : 5 ≤ d) (l0 : Nat) (l1 : Nat) (h : sh_H) {Q : ai_Q} {R : sh_H → Prop} (H : sh_ok (f_Calendar_lose N l0 l1 h) R) (hR : ∀ h, R h → Q none (sh_E h)) : ai_Ex sh_T d 10 [aR 9 l0, aR 7 l1] (sh_E h) Q := by
  obtain ⟨d, rfl⟩ : ∃ e, d = e + 1 := ⟨d - 1, by omega⟩
  replace hd : 4 ≤ d := by omega
  refine And.intro (Nat.le_of_ble_eq_true rfl) ?_
  show wq_10 d Q 0 [oR 9 l0, oR 7 l1, none, none, none, none, none] [] (sh_E h)
  refine ai_WP_steps mc_10 (sh_CM d) 2 ?_
  exact x_Calendar_lose_l2 N hd hR N l0 l1 (0 : Int32) h H
def f_Calendar_start  (l0 : Nat) (l1 : Int32) (h : sh_H) : Option Int32 := (Option.bind (f_Rows_get l0 l1 (4 : Int32) h) (fun v1 => (if v1 = 0 then (some (0 : Int32)) else (Option.bind (f_Rows_get l0 l1 (0 : Int32) h) (fun v2 => (some v2))))))
theorem x_Calendar_start {d : Nat} (hd : 3 ≤ d) (l0 : Nat) (l1 : Int32) (h : sh_H) {Q : ai_Q} {R : Int32 → Prop} (H : sh_ok (f_Calendar_start l0 l1 h) R) (hR : ∀ r, R r → Q (some (aI r)) (sh_E h)) : ai_Ex sh_T d 5 [aR 6 l0, aI l1] (sh_E h) Q := by
  obtain ⟨d, rfl⟩ : ∃ e, d = e + 1 := ⟨d - 1, by omega⟩
  replace hd : 2 ≤ d := by omega
  refine And.intro (Nat.le_of_ble_eq_true rfl) ?_
  show wq_5 d Q 0 [oR 6 l0, oI l1] [] (sh_E h)
  refine ai_WP_steps mc_5 (sh_CM d) 4 (And.intro (Nat.le_of_ble_eq_true rfl) (x_Rows_get (Nat.le_trans (Nat.le_of_ble_eq_true rfl) hd) l0 l1 (4 : Int32) h (sh_okB H) (fun v1 H => ?_)))
  show wq_5 d Q 6 [oR 6 l0, oI l1] [aI v1] (sh_E h)
  refine ai_WP_steps mc_5 (sh_CM d) 1 (And.intro (fun c => ?_) (fun c => ?_))
  · replace H := sh_okT c H
    show wq_5 d Q 18 [oR 6 l0, oI l1] [] (sh_E h)
    exact ai_WP_steps mc_5 (sh_CM d) 2 (hR (0 : Int32) H)
  · replace H := sh_okF c H
    show wq_5 d Q 9 [oR 6 l0, oI l1] [] (sh_E h)
    refine ai_WP_steps mc_5 (sh_CM d) 4 (And.intro (Nat.le_of_ble_eq_true rfl) (x_Rows_get (Nat.le_trans (Nat.le_of_ble_eq_true rfl) hd) l0 l1 (0 : Int32) h (sh_okB H) (fun v2 H => ?_)))
    show wq_5 d Q 15 [oR 6 l0, oI l1] [aI v2] (sh_E h)
    exact ai_WP_steps mc_5 (sh_CM d) 2 (hR v2 H)
def f_Calendar_weight  (l0 : Nat) (l1 : Nat) (l2 : Int32) (h : sh_H) : Option Int32 := (Option.bind (f_Rows_get l1 l2 (1 : Int32) h) (fun v1 => (Option.bind (f_Rows_get (7 * l0 + 0) v1 (1 : Int32) h) (fun v2 => (Option.bind (f_Rows_get l1 l2 (3 : Int32) h) (fun v3 => (some (v2 * v3))))))))
theorem x_Calendar_weight {d : Nat} (hd : 3 ≤ d) (l0 : Nat) (l1 : Nat) (l2 : Int32) (h : sh_H) {Q : ai_Q} {R : Int32 → Prop} (H : sh_ok (f_Calendar_weight l0 l1 l2 h) R) (hR : ∀ r, R r → Q (some (aI r)) (sh_E h)) : ai_Ex sh_T d 6 [aR 9 l0, aR 6 l1, aI l2] (sh_E h) Q := by
  obtain ⟨d, rfl⟩ : ∃ e, d = e + 1 := ⟨d - 1, by omega⟩
  replace hd : 2 ≤ d := by omega
  refine And.intro (Nat.le_of_ble_eq_true rfl) ?_
  show wq_6 d Q 0 [oR 9 l0, oR 6 l1, oI l2] [] (sh_E h)
  refine ai_WP_steps mc_6 (sh_CM d) 6 (And.intro (Nat.le_of_ble_eq_true rfl) (x_Rows_get (Nat.le_trans (Nat.le_of_ble_eq_true rfl) hd) l1 l2 (1 : Int32) h (sh_okB H) (fun v1 H => ?_)))
  show wq_6 d Q 10 [oR 9 l0, oR 6 l1, oI l2] [aI v1, aR 6 (7 * l0 + 0)] (sh_E h)
  refine ai_WP_steps mc_6 (sh_CM d) 2 (And.intro (Nat.le_of_ble_eq_true rfl) (x_Rows_get (Nat.le_trans (Nat.le_of_ble_eq_true rfl) hd) (7 * l0 + 0) v1 (1 : Int32) h (sh_okB H) (fun v2 H => ?_)))
  show wq_6 d Q 14 [oR 9 l0, oR 6 l1, oI l2] [aI v2] (sh_E h)
  refine ai_WP_steps mc_6 (sh_CM d) 4 (And.intro (Nat.le_of_ble_eq_true rfl) (x_Rows_get (Nat.le_trans (Nat.le_of_ble_eq_true rfl) hd) l1 l2 (3 : Int32) h (sh_okB H) (fun v3 H => ?_)))
  show wq_6 d Q 20 [oR 9 l0, oR 6 l1, oI l2] [aI v3, aI v2] (sh_E h)
  exact ai_WP_steps mc_6 (sh_CM d) 2 (hR (v2 * v3) H)
def f_Text_boatOf_b41 (N : Nat)  (k2 : Nat → Int32 → Int32 → Int32 → sh_H → Option Int32) (l0 : Nat) (l1 : Int32) (l2 : Int32) (l3 : Int32) (h : sh_H) : Option Int32 := k2 l0 l1 l2 (l3 + (1 : Int32)) h
theorem x_Text_boatOf_b41 (N : Nat) {d : Nat} (hd : 2 ≤ d) (h : sh_H) {Q : ai_Q} {R : Int32 → Prop} (hR : ∀ r, R r → Q (some (aI r)) (sh_E h))  (k2 : Nat → Int32 → Int32 → Int32 → sh_H → Option Int32) (hk2 : ∀ (l0 : Nat) (l1 : Int32) (l2 : Int32) (l3 : Int32), sh_ok (k2 l0 l1 l2 l3 h) R → wq_127 d Q 2 [oR 9 l0, oI l1, oI l2, oI l3] [] (sh_E h)) (l0 : Nat) (l1 : Int32) (l2 : Int32) (l3 : Int32) (H : sh_ok (f_Text_boatOf_b41 N k2 l0 l1 l2 l3 h) R) : wq_127 d Q 41 [oR 9 l0, oI l1, oI l2, oI l3] [] (sh_E h) := by
  refine ai_WP_steps mc_127 (sh_CM d) 2 ?_
  exact hk2 l0 l1 l2 (l3 + (1 : Int32)) H
def f_Text_boatOf_c2 (N : Nat)   (k2 : Nat → Int32 → Int32 → Int32 → sh_H → Option Int32) (l0 : Nat) (l1 : Int32) (l2 : Int32) (l3 : Int32) (h : sh_H) : Option Int32 := (Option.bind (f_Rows_size (7 * l0 + 6) h) (fun v1 => (if l3 < v1 then (Option.bind (f_Rows_get (7 * l0 + 6) l3 (0 : Int32) h) (fun v2 => (if v2 = l1 then (Option.bind (f_Rows_get (7 * l0 + 6) l3 (1 : Int32) h) (fun v3 => (if v3 = l2 then (some l3) else f_Text_boatOf_b41 N k2 l0 l1 l2 l3 h))) else f_Text_boatOf_b41 N k2 l0 l1 l2 l3 h))) else (some (-1 : Int32)))))
def f_Text_boatOf_l2 (N : Nat)   (n : Nat) : Nat → Int32 → Int32 → Int32 → sh_H → Option Int32 := Nat.rec (motive := fun _ => Nat → Int32 → Int32 → Int32 → sh_H → Option Int32) (fun _ _ _ _ _ => none) (fun _ k2 => f_Text_boatOf_c2 N k2) n
theorem x_Text_boatOf_l2 (N : Nat) {d : Nat} (hd : 2 ≤ d) (h : sh_H) {Q : ai_Q} {R : Int32 → Prop} (hR : ∀ r, R r → Q (some (aI r)) (sh_E h))   (n : Nat) : ∀ (l0 : Nat) (l1 : Int32) (l2 : Int32) (l3 : Int32), sh_ok (f_Text_boatOf_l2 N n l0 l1 l2 l3 h) R → wq_127 d Q 2 [oR 9 l0, oI l1, oI l2, oI l3] [] (sh_E h) := by
  induction n with
  | zero => intro l0 l1 l2 l3 H; exact H.elim
  | succ n ih =>
    intro l0 l1 l2 l3 H
    have hk2 := @ih
    replace H : sh_ok (f_Text_boatOf_c2 N (f_Text_boatOf_l2 N n) l0 l1 l2 l3 h) R := H
    revert hk2 H
    generalize f_Text_boatOf_l2 N n = k2
    intro hk2 H
    refine ai_WP_steps mc_127 (sh_CM d) 4 (And.intro (Nat.le_of_ble_eq_true rfl) (x_Rows_size (Nat.le_trans (Nat.le_of_ble_eq_true rfl) hd) (7 * l0 + 6) h (sh_okB H) (fun v1 H => ?_)))
    show wq_127 d Q 10 [oR 9 l0, oI l1, oI l2, oI l3] [aI v1, aI l3] (sh_E h)
    refine ai_WP_steps mc_127 (sh_CM d) 1 (And.intro (fun c => ?_) (fun c => ?_))
    · replace H := sh_okT c H
      show wq_127 d Q 13 [oR 9 l0, oI l1, oI l2, oI l3] [] (sh_E h)
      refine ai_WP_steps mc_127 (sh_CM d) 5 (And.intro (Nat.le_of_ble_eq_true rfl) (x_Rows_get (Nat.le_trans (Nat.le_of_ble_eq_true rfl) hd) (7 * l0 + 6) l3 (0 : Int32) h (sh_okB H) (fun v2 H => ?_)))
      show wq_127 d Q 22 [oR 9 l0, oI l1, oI l2, oI l3] [aI v2] (sh_E h)
      refine ai_WP_steps mc_127 (sh_CM d) 2 (And.intro (fun c => ?_) (fun c => ?_))
      · replace H := sh_okT c H
        show wq_127 d Q 26 [oR 9 l0, oI l1, oI l2, oI l3] [] (sh_E h)
        refine ai_WP_steps mc_127 (sh_CM d) 5 (And.intro (Nat.le_of_ble_eq_true rfl) (x_Rows_get (Nat.le_trans (Nat.le_of_ble_eq_true rfl) hd) (7 * l0 + 6) l3 (1 : Int32) h (sh_okB H) (fun v3 H => ?_)))
        show wq_127 d Q 35 [oR 9 l0, oI l1, oI l2, oI l3] [aI v3] (sh_E h)
        refine ai_WP_steps mc_127 (sh_CM d) 2 (And.intro (fun c => ?_) (fun c => ?_))
        · replace H := sh_okT c H
          show wq_127 d Q 39 [oR 9 l0, oI l1, oI l2, oI l3] [] (sh_E h)
          exact ai_WP_steps mc_127 (sh_CM d) 2 (hR l3 H)
        · replace H := sh_okF c H
          exact x_Text_boatOf_b41 N hd h hR k2 hk2 l0 l1 l2 l3 H
      · replace H := sh_okF c H
        exact x_Text_boatOf_b41 N hd h hR k2 hk2 l0 l1 l2 l3 H
    · replace H := sh_okF c H
      show wq_127 d Q 47 [oR 9 l0, oI l1, oI l2, oI l3] [] (sh_E h)
      exact ai_WP_steps mc_127 (sh_CM d) 2 (hR (-1 : Int32) H)
def f_Text_boatOf (N : Nat)  (l0 : Nat) (l1 : Int32) (l2 : Int32) (h : sh_H) : Option Int32 := f_Text_boatOf_l2 N N l0 l1 l2 (0 : Int32) h
theorem x_Text_boatOf (N : Nat) {d : Nat} (hd : 3 ≤ d) (l0 : Nat) (l1 : Int32) (l2 : Int32) (h : sh_H) {Q : ai_Q} {R : Int32 → Prop} (H : sh_ok (f_Text_boatOf N l0 l1 l2 h) R) (hR : ∀ r, R r → Q (some (aI r)) (sh_E h)) : ai_Ex sh_T d 127 [aR 9 l0, aI l1, aI l2] (sh_E h) Q := by
  obtain ⟨d, rfl⟩ : ∃ e, d = e + 1 := ⟨d - 1, by omega⟩
  replace hd : 2 ≤ d := by omega
  refine And.intro (Nat.le_of_ble_eq_true rfl) ?_
  show wq_127 d Q 0 [oR 9 l0, oI l1, oI l2, none] [] (sh_E h)
  refine ai_WP_steps mc_127 (sh_CM d) 2 ?_
  exact x_Text_boatOf_l2 N hd h hR N l0 l1 l2 (0 : Int32) H
def f_Calendar_carry_b92 (N : Nat)   (l2 : Nat) (l3 : Int32) (l5 : Int32) (s0 : Nat) (s1 : Int32) (s2 : Int32) (s3 : Int32) (h : sh_H) : Option sh_H := (Option.bind (f_Rows_get l2 l3 (3 : Int32) h) (fun v1 => (Option.bind (f_Pieces_move N s0 s1 s2 s3 v1 l5 h) (fun h2 => (some h2)))))
theorem x_Calendar_carry_b92 (N : Nat) {d : Nat} (hd : 4 ≤ d) {Q : ai_Q} {R : sh_H → Prop} (hR : ∀ h, R h → Q none (sh_E h))   (l2 : Nat) (l3 : Int32) (l5 : Int32) (s0 : Nat) (s1 : Int32) (s2 : Int32) (s3 : Int32) {d0 d1 d4 d6 d7 : Option ai_V} (h : sh_H) (H : sh_ok (f_Calendar_carry_b92 N l2 l3 l5 s0 s1 s2 s3 h) R) : wq_4 d Q 92 [d0, d1, oR 6 l2, oI l3, d4, oI l5, d6, d7] [aI s3, aI s2, aI s1, aR 4 s0] (sh_E h) := by
  refine ai_WP_steps mc_4 (sh_CM d) 4 (And.intro (Nat.le_of_ble_eq_true rfl) (x_Rows_get (Nat.le_trans (Nat.le_of_ble_eq_true rfl) hd) l2 l3 (3 : Int32) h (sh_okB H) (fun v1 H => ?_)))
  show wq_4 d Q 98 [_, _, oR 6 l2, oI l3, _, oI l5, _, _] [aI v1, aI s3, aI s2, aI s1, aR 4 s0] (sh_E h)
  refine ai_WP_steps mc_4 (sh_CM d) 2 (And.intro (Nat.le_of_ble_eq_true rfl) (x_Pieces_move N (Nat.le_trans (Nat.le_of_ble_eq_true rfl) hd) s0 s1 s2 s3 v1 l5 h (sh_okB H) (fun h2 H => ?_)))
  show wq_4 d Q 103 [_, _, oR 6 l2, oI l3, _, oI l5, _, _] [] (sh_E h2)
  exact ai_WP_steps mc_4 (sh_CM d) 1 (hR h2 H)
def f_Calendar_carry_b14 (N : Nat)   (l1 : Nat) (l2 : Nat) (l3 : Int32) (l4 : Nat) (s0 : Int32) (h : sh_H) : Option sh_H := (Option.bind (f_Rows_get l2 l3 (0 : Int32) h) (fun v3 => (Option.bind (f_Rows_get l2 l3 (2 : Int32) h) (fun v4 => (if ¬ (12 : Int32) = 0 then (Option.bind (f_Text_boatOf N l1 v3 (v4 - v4 / (12 : Int32) * (12 : Int32)) h) (fun v5 => (Option.bind (f_Rows_get 26 v5 (0 : Int32) h) (fun v6 => (Option.bind (f_Calendar_weight l1 l2 l3 h) (fun v7 => (Option.bind (f_Rows_put 26 v5 (0 : Int32) (v6 + v7) h) (fun h8 => (Option.bind (f_Rows_get l2 l3 (1 : Int32) h8) (fun v9 => (Option.bind (f_Calendar_start l2 l3 h8) (fun v10 => (if s0 = 0 then f_Calendar_carry_b92 N l2 l3 s0 l4 v9 v10 v3 h8 else f_Calendar_carry_b92 N l2 l3 s0 l4 v9 v10 (0 : Int32) h8))))))))))))) else none)))))
theorem x_Calendar_carry_b14 (N : Nat) {d : Nat} (hd : 4 ≤ d) {Q : ai_Q} {R : sh_H → Prop} (hR : ∀ h, R h → Q none (sh_E h))   (l1 : Nat) (l2 : Nat) (l3 : Int32) (l4 : Nat) (s0 : Int32) {d5 d6 d7 : Option ai_V} (h : sh_H) (H : sh_ok (f_Calendar_carry_b14 N l1 l2 l3 l4 s0 h) R) : wq_4 d Q 14 [oR 0 0, oR 9 l1, oR 6 l2, oI l3, oR 4 l4, d5, d6, d7] [aI s0] (sh_E h) := by
  refine ai_WP_steps mc_4 (sh_CM d) 5 (And.intro (Nat.le_of_ble_eq_true rfl) (x_Rows_get (Nat.le_trans (Nat.le_of_ble_eq_true rfl) hd) l2 l3 (0 : Int32) h (sh_okB H) (fun v3 H => ?_)))
  show wq_4 d Q 22 [oR 0 0, oR 9 l1, oR 6 l2, oI l3, oR 4 l4, oI s0, _, _] [aI v3] (sh_E h)
  refine ai_WP_steps mc_4 (sh_CM d) 7 (And.intro (Nat.le_of_ble_eq_true rfl) (x_Rows_get (Nat.le_trans (Nat.le_of_ble_eq_true rfl) hd) l2 l3 (2 : Int32) h (sh_okB H) (fun v4 H => ?_)))
  show wq_4 d Q 33 [oR 0 0, oR 9 l1, oR 6 l2, oI l3, oR 4 l4, oI s0, oI v3, _] [aI v4, aI v3, aR 9 l1] (sh_E h)
  have c := sh_okG H
  replace H := sh_okH H
  refine ai_WP_steps mc_4 (sh_CM d) 2 (And.intro c ?_)
  show wq_4 d Q 36 [oR 0 0, oR 9 l1, oR 6 l2, oI l3, oR 4 l4, oI s0, oI v3, _] [aI (v4 - v4 / (12 : Int32) * (12 : Int32)), aI v3, aR 9 l1] (sh_E h)
  refine ai_WP_steps mc_4 (sh_CM d) 1 (And.intro (Nat.le_of_ble_eq_true rfl) (x_Text_boatOf N (Nat.le_trans (Nat.le_of_ble_eq_true rfl) hd) l1 v3 (v4 - v4 / (12 : Int32) * (12 : Int32)) h (sh_okB H) (fun v5 H => ?_)))
  show wq_4 d Q 39 [oR 0 0, oR 9 l1, oR 6 l2, oI l3, oR 4 l4, oI s0, oI v3, _] [aI v5] (sh_E h)
  refine ai_WP_steps mc_4 (sh_CM d) 10 (And.intro (Nat.le_of_ble_eq_true rfl) (x_Rows_get (Nat.le_trans (Nat.le_of_ble_eq_true rfl) hd) 26 v5 (0 : Int32) h (sh_okB H) (fun v6 H => ?_)))
  show wq_4 d Q 58 [oR 0 0, oR 9 l1, oR 6 l2, oI l3, oR 4 l4, oI s0, oI v3, oI v5] [aI v6, aI (0 : Int32), aI v5, aR 6 26] (sh_E h)
  refine ai_WP_steps mc_4 (sh_CM d) 4 (And.intro (Nat.le_of_ble_eq_true rfl) (x_Calendar_weight (Nat.le_trans (Nat.le_of_ble_eq_true rfl) hd) l1 l2 l3 h (sh_okB H) (fun v7 H => ?_)))
  show wq_4 d Q 64 [oR 0 0, oR 9 l1, oR 6 l2, oI l3, oR 4 l4, oI s0, oI v3, oI v5] [aI v7, aI v6, aI (0 : Int32), aI v5, aR 6 26] (sh_E h)
  refine ai_WP_steps mc_4 (sh_CM d) 2 (And.intro (Nat.le_of_ble_eq_true rfl) (x_Rows_put (Nat.le_trans (Nat.le_of_ble_eq_true rfl) hd) 26 v5 (0 : Int32) (v6 + v7) h (sh_okB H) (fun h8 H => ?_)))
  show wq_4 d Q 68 [oR 0 0, oR 9 l1, oR 6 l2, oI l3, oR 4 l4, oI s0, oI v3, oI v5] [] (sh_E h8)
  refine ai_WP_steps mc_4 (sh_CM d) 5 (And.intro (Nat.le_of_ble_eq_true rfl) (x_Rows_get (Nat.le_trans (Nat.le_of_ble_eq_true rfl) hd) l2 l3 (1 : Int32) h8 (sh_okB H) (fun v9 H => ?_)))
  show wq_4 d Q 76 [oR 0 0, oR 9 l1, oR 6 l2, oI l3, oR 4 l4, oI s0, oI v3, oI v5] [aI v9, aR 4 l4] (sh_E h8)
  refine ai_WP_steps mc_4 (sh_CM d) 3 (And.intro (Nat.le_of_ble_eq_true rfl) (x_Calendar_start (Nat.le_trans (Nat.le_of_ble_eq_true rfl) hd) l2 l3 h8 (sh_okB H) (fun v10 H => ?_)))
  show wq_4 d Q 81 [oR 0 0, oR 9 l1, oR 6 l2, oI l3, oR 4 l4, oI s0, oI v3, oI v5] [aI v10, aI v9, aR 4 l4] (sh_E h8)
  refine ai_WP_steps mc_4 (sh_CM d) 2 (And.intro (fun c => ?_) (fun c => ?_))
  · replace H := sh_okT c H
    show wq_4 d Q 90 [oR 0 0, oR 9 l1, oR 6 l2, oI l3, oR 4 l4, oI s0, oI v3, oI v5] [aI v10, aI v9, aR 4 l4] (sh_E h8)
    refine ai_WP_steps mc_4 (sh_CM d) 1 ?_
    exact x_Calendar_carry_b92 N hd hR l2 l3 s0 l4 v9 v10 v3 h8 H
  · replace H := sh_okF c H
    show wq_4 d Q 86 [oR 0 0, oR 9 l1, oR 6 l2, oI l3, oR 4 l4, oI s0, oI v3, oI v5] [aI v10, aI v9, aR 4 l4] (sh_E h8)
    refine ai_WP_steps mc_4 (sh_CM d) 2 ?_
    exact x_Calendar_carry_b92 N hd hR l2 l3 s0 l4 v9 v10 (0 : Int32) h8 H
def f_Calendar_carry (N : Nat)  (l1 : Nat) (l2 : Nat) (l3 : Int32) (l4 : Nat) (h : sh_H) : Option sh_H := (Option.bind (f_Rows_get l2 l3 (4 : Int32) h) (fun v11 => (if v11 = 0 then f_Calendar_carry_b14 N l1 l2 l3 l4 (0 : Int32) h else f_Calendar_carry_b14 N l1 l2 l3 l4 (1 : Int32) h)))
theorem x_Calendar_carry (N : Nat) {d : Nat} (hd : 5 ≤ d) (l1 : Nat) (l2 : Nat) (l3 : Int32) (l4 : Nat) (h : sh_H) {Q : ai_Q} {R : sh_H → Prop} (H : sh_ok (f_Calendar_carry N l1 l2 l3 l4 h) R) (hR : ∀ h, R h → Q none (sh_E h)) : ai_Ex sh_T d 4 [aR 0 0, aR 9 l1, aR 6 l2, aI l3, aR 4 l4] (sh_E h) Q := by
  obtain ⟨d, rfl⟩ : ∃ e, d = e + 1 := ⟨d - 1, by omega⟩
  replace hd : 4 ≤ d := by omega
  refine And.intro (Nat.le_of_ble_eq_true rfl) ?_
  show wq_4 d Q 0 [oR 0 0, oR 9 l1, oR 6 l2, oI l3, oR 4 l4, none, none, none] [] (sh_E h)
  refine ai_WP_steps mc_4 (sh_CM d) 4 (And.intro (Nat.le_of_ble_eq_true rfl) (x_Rows_get (Nat.le_trans (Nat.le_of_ble_eq_true rfl) hd) l2 l3 (4 : Int32) h (sh_okB H) (fun v11 H => ?_)))
  show wq_4 d Q 6 [oR 0 0, oR 9 l1, oR 6 l2, oI l3, oR 4 l4, _, _, _] [aI v11] (sh_E h)
  refine ai_WP_steps mc_4 (sh_CM d) 1 (And.intro (fun c => ?_) (fun c => ?_))
  · replace H := sh_okT c H
    show wq_4 d Q 13 [oR 0 0, oR 9 l1, oR 6 l2, oI l3, oR 4 l4, _, _, _] [] (sh_E h)
    refine ai_WP_steps mc_4 (sh_CM d) 1 ?_
    exact x_Calendar_carry_b14 N hd hR l1 l2 l3 l4 (0 : Int32) h H
  · replace H := sh_okF c H
    show wq_4 d Q 9 [oR 0 0, oR 9 l1, oR 6 l2, oI l3, oR 4 l4, _, _, _] [] (sh_E h)
    refine ai_WP_steps mc_4 (sh_CM d) 2 ?_
    exact x_Calendar_carry_b14 N hd hR l1 l2 l3 l4 (1 : Int32) h H
def f_Calendar_refusal_b76 (N : Nat)   (l1 : Nat) (l2 : Nat) (l3 : Int32) (l4 : Nat) (l8 : Int32) (l9 : Int32) (h : sh_H) : Option Int32 := (Option.bind (f_Rows_get 26 l9 (0 : Int32) h) (fun v1 => (Option.bind (f_Calendar_weight l1 l2 l3 h) (fun v2 => (Option.bind (f_Rows_get (7 * l1 + 6) l9 (2 : Int32) h) (fun v3 => (if v3 < (v1 + v2) then (some (3 : Int32)) else (Option.bind (f_Calendar_start l2 l3 h) (fun v4 => (Option.bind (f_Pieces_all N l4 v4 l8 h) (fun v5 => (Option.bind (f_Rows_get l2 l3 (3 : Int32) h) (fun v6 => (if v5 < v6 then (some (4 : Int32)) else (some (0 : Int32))))))))))))))))
theorem x_Calendar_refusal_b76 (N : Nat) {d : Nat} (hd : 4 ≤ d) (h : sh_H) {Q : ai_Q} {R : Int32 → Prop} (hR : ∀ r, R r → Q (some (aI r)) (sh_E h))   (l1 : Nat) (l2 : Nat) (l3 : Int32) (l4 : Nat) (l8 : Int32) (l9 : Int32) {d5 d6 d7 : Option ai_V} (H : sh_ok (f_Calendar_refusal_b76 N l1 l2 l3 l4 l8 l9 h) R) : wq_3 d Q 76 [oR 0 0, oR 9 l1, oR 6 l2, oI l3, oR 4 l4, d5, d6, d7, oI l8, oI l9] [] (sh_E h) := by
  refine ai_WP_steps mc_3 (sh_CM d) 5 (And.intro (Nat.le_of_ble_eq_true rfl) (x_Rows_get (Nat.le_trans (Nat.le_of_ble_eq_true rfl) hd) 26 l9 (0 : Int32) h (sh_okB H) (fun v1 H => ?_)))
  show wq_3 d Q 86 [oR 0 0, oR 9 l1, oR 6 l2, oI l3, oR 4 l4, _, _, _, oI l8, oI l9] [aI v1] (sh_E h)
  refine ai_WP_steps mc_3 (sh_CM d) 4 (And.intro (Nat.le_of_ble_eq_true rfl) (x_Calendar_weight (Nat.le_trans (Nat.le_of_ble_eq_true rfl) hd) l1 l2 l3 h (sh_okB H) (fun v2 H => ?_)))
  show wq_3 d Q 92 [oR 0 0, oR 9 l1, oR 6 l2, oI l3, oR 4 l4, _, _, _, oI l8, oI l9] [aI v2, aI v1] (sh_E h)
  refine ai_WP_steps mc_3 (sh_CM d) 6 (And.intro (Nat.le_of_ble_eq_true rfl) (x_Rows_get (Nat.le_trans (Nat.le_of_ble_eq_true rfl) hd) (7 * l1 + 6) l9 (2 : Int32) h (sh_okB H) (fun v3 H => ?_)))
  show wq_3 d Q 103 [oR 0 0, oR 9 l1, oR 6 l2, oI l3, oR 4 l4, _, _, _, oI l8, oI l9] [aI v3, aI (v1 + v2)] (sh_E h)
  refine ai_WP_steps mc_3 (sh_CM d) 1 (And.intro (fun c => ?_) (fun c => ?_))
  · replace H := sh_okT c H
    show wq_3 d Q 106 [oR 0 0, oR 9 l1, oR 6 l2, oI l3, oR 4 l4, _, _, _, oI l8, oI l9] [] (sh_E h)
    exact ai_WP_steps mc_3 (sh_CM d) 2 (hR (3 : Int32) H)
  · replace H := sh_okF c H
    show wq_3 d Q 108 [oR 0 0, oR 9 l1, oR 6 l2, oI l3, oR 4 l4, _, _, _, oI l8, oI l9] [] (sh_E h)
    refine ai_WP_steps mc_3 (sh_CM d) 4 (And.intro (Nat.le_of_ble_eq_true rfl) (x_Calendar_start (Nat.le_trans (Nat.le_of_ble_eq_true rfl) hd) l2 l3 h (sh_okB H) (fun v4 H => ?_)))
    show wq_3 d Q 115 [oR 0 0, oR 9 l1, oR 6 l2, oI l3, oR 4 l4, _, _, _, oI l8, oI l9] [aI v4, aR 4 l4] (sh_E h)
    refine ai_WP_steps mc_3 (sh_CM d) 2 (And.intro (Nat.le_of_ble_eq_true rfl) (x_Pieces_all N (Nat.le_trans (Nat.le_of_ble_eq_true rfl) hd) l4 v4 l8 h (sh_okB H) (fun v5 H => ?_)))
    show wq_3 d Q 120 [oR 0 0, oR 9 l1, oR 6 l2, oI l3, oR 4 l4, _, _, _, oI l8, oI l9] [aI v5] (sh_E h)
    refine ai_WP_steps mc_3 (sh_CM d) 4 (And.intro (Nat.le_of_ble_eq_true rfl) (x_Rows_get (Nat.le_trans (Nat.le_of_ble_eq_true rfl) hd) l2 l3 (3 : Int32) h (sh_okB H) (fun v6 H => ?_)))
    show wq_3 d Q 126 [oR 0 0, oR 9 l1, oR 6 l2, oI l3, oR 4 l4, _, _, _, oI l8, oI l9] [aI v6, aI v5] (sh_E h)
    refine ai_WP_steps mc_3 (sh_CM d) 1 (And.intro (fun c => ?_) (fun c => ?_))
    · replace H := sh_okT c H
      show wq_3 d Q 129 [oR 0 0, oR 9 l1, oR 6 l2, oI l3, oR 4 l4, _, _, _, oI l8, oI l9] [] (sh_E h)
      exact ai_WP_steps mc_3 (sh_CM d) 3 (hR (4 : Int32) H)
    · replace H := sh_okF c H
      show wq_3 d Q 133 [oR 0 0, oR 9 l1, oR 6 l2, oI l3, oR 4 l4, _, _, _, oI l8, oI l9] [] (sh_E h)
      exact ai_WP_steps mc_3 (sh_CM d) 2 (hR (0 : Int32) H)
def f_Calendar_refusal (N : Nat)  (l1 : Nat) (l2 : Nat) (l3 : Int32) (l4 : Nat) (l5 : Int32) (l6 : Int32) (h : sh_H) : Option Int32 := (Option.bind (f_Rows_get l2 l3 (2 : Int32) h) (fun v7 => (Option.bind (f_Rows_get l2 l3 (1 : Int32) h) (fun v8 => (Option.bind (f_Rows_get l2 l3 (0 : Int32) h) (fun v9 => (if ¬ (12 : Int32) = 0 then (Option.bind (f_Text_boatOf N l1 v9 (v7 - v7 / (12 : Int32) * (12 : Int32)) h) (fun v10 => (if v10 = (-1 : Int32) then (some (1 : Int32)) else (if l6 = 0 then f_Calendar_refusal_b76 N l1 l2 l3 l4 v8 v10 h else (Option.bind (f_Calendar_lot (10 : Int32) l5 (((40 : Int32) * v7) + v10) h) (fun v11 => (Option.bind (f_Rows_get (7 * l1 + 6) v10 (4 : Int32) h) (fun v12 => (if v11 < v12 then (some (2 : Int32)) else f_Calendar_refusal_b76 N l1 l2 l3 l4 v8 v10 h))))))))) else none)))))))
theorem x_Calendar_refusal (N : Nat) {d : Nat} (hd : 5 ≤ d) (l1 : Nat) (l2 : Nat) (l3 : Int32) (l4 : Nat) (l5 : Int32) (l6 : Int32) (h : sh_H) {Q : ai_Q} {R : Int32 → Prop} (H : sh_ok (f_Calendar_refusal N l1 l2 l3 l4 l5 l6 h) R) (hR : ∀ r, R r → Q (some (aI r)) (sh_E h)) : ai_Ex sh_T d 3 [aR 0 0, aR 9 l1, aR 6 l2, aI l3, aR 4 l4, aI l5, aI l6] (sh_E h) Q := by
  obtain ⟨d, rfl⟩ : ∃ e, d = e + 1 := ⟨d - 1, by omega⟩
  replace hd : 4 ≤ d := by omega
  refine And.intro (Nat.le_of_ble_eq_true rfl) ?_
  show wq_3 d Q 0 [oR 0 0, oR 9 l1, oR 6 l2, oI l3, oR 4 l4, oI l5, oI l6, none, none, none] [] (sh_E h)
  refine ai_WP_steps mc_3 (sh_CM d) 4 (And.intro (Nat.le_of_ble_eq_true rfl) (x_Rows_get (Nat.le_trans (Nat.le_of_ble_eq_true rfl) hd) l2 l3 (2 : Int32) h (sh_okB H) (fun v7 H => ?_)))
  show wq_3 d Q 6 [oR 0 0, oR 9 l1, oR 6 l2, oI l3, oR 4 l4, oI l5, oI l6, _, _, _] [aI v7] (sh_E h)
  refine ai_WP_steps mc_3 (sh_CM d) 5 (And.intro (Nat.le_of_ble_eq_true rfl) (x_Rows_get (Nat.le_trans (Nat.le_of_ble_eq_true rfl) hd) l2 l3 (1 : Int32) h (sh_okB H) (fun v8 H => ?_)))
  show wq_3 d Q 14 [oR 0 0, oR 9 l1, oR 6 l2, oI l3, oR 4 l4, oI l5, oI l6, oI v7, _, _] [aI v8] (sh_E h)
  refine ai_WP_steps mc_3 (sh_CM d) 6 (And.intro (Nat.le_of_ble_eq_true rfl) (x_Rows_get (Nat.le_trans (Nat.le_of_ble_eq_true rfl) hd) l2 l3 (0 : Int32) h (sh_okB H) (fun v9 H => ?_)))
  show wq_3 d Q 23 [oR 0 0, oR 9 l1, oR 6 l2, oI l3, oR 4 l4, oI l5, oI l6, oI v7, oI v8, _] [aI v9, aR 9 l1] (sh_E h)
  have c := sh_okG H
  replace H := sh_okH H
  refine ai_WP_steps mc_3 (sh_CM d) 3 (And.intro c ?_)
  show wq_3 d Q 28 [oR 0 0, oR 9 l1, oR 6 l2, oI l3, oR 4 l4, oI l5, oI l6, oI v7, oI v8, _] [aI (v7 - v7 / (12 : Int32) * (12 : Int32)), aI v9, aR 9 l1] (sh_E h)
  refine ai_WP_steps mc_3 (sh_CM d) 1 (And.intro (Nat.le_of_ble_eq_true rfl) (x_Text_boatOf N (Nat.le_trans (Nat.le_of_ble_eq_true rfl) hd) l1 v9 (v7 - v7 / (12 : Int32) * (12 : Int32)) h (sh_okB H) (fun v10 H => ?_)))
  show wq_3 d Q 31 [oR 0 0, oR 9 l1, oR 6 l2, oI l3, oR 4 l4, oI l5, oI l6, oI v7, oI v8, _] [aI v10] (sh_E h)
  refine ai_WP_steps mc_3 (sh_CM d) 4 (And.intro (fun c => ?_) (fun c => ?_))
  · replace H := sh_okT c H
    show wq_3 d Q 39 [oR 0 0, oR 9 l1, oR 6 l2, oI l3, oR 4 l4, oI l5, oI l6, oI v7, oI v8, oI v10] [] (sh_E h)
    exact ai_WP_steps mc_3 (sh_CM d) 2 (hR (1 : Int32) H)
  · replace H := sh_okF c H
    show wq_3 d Q 41 [oR 0 0, oR 9 l1, oR 6 l2, oI l3, oR 4 l4, oI l5, oI l6, oI v7, oI v8, oI v10] [] (sh_E h)
    refine ai_WP_steps mc_3 (sh_CM d) 2 (And.intro (fun c => ?_) (fun c => ?_))
    · replace H := sh_okT c H
      exact x_Calendar_refusal_b76 N hd h hR l1 l2 l3 l4 v8 v10 H
    · replace H := sh_okF c H
      show wq_3 d Q 46 [oR 0 0, oR 9 l1, oR 6 l2, oI l3, oR 4 l4, oI l5, oI l6, oI v7, oI v8, oI v10] [] (sh_E h)
      refine ai_WP_steps mc_3 (sh_CM d) 8 (And.intro (Nat.le_of_ble_eq_true rfl) (x_Calendar_lot (Nat.le_trans (Nat.le_of_ble_eq_true rfl) hd) (10 : Int32) l5 (((40 : Int32) * v7) + v10) h (sh_okB H) (fun v11 H => ?_)))
      show wq_3 d Q 61 [oR 0 0, oR 9 l1, oR 6 l2, oI l3, oR 4 l4, oI l5, oI l6, oI v7, oI v8, oI v10] [aI v11] (sh_E h)
      refine ai_WP_steps mc_3 (sh_CM d) 5 (And.intro (Nat.le_of_ble_eq_true rfl) (x_Rows_get (Nat.le_trans (Nat.le_of_ble_eq_true rfl) hd) (7 * l1 + 6) v10 (4 : Int32) h (sh_okB H) (fun v12 H => ?_)))
      show wq_3 d Q 71 [oR 0 0, oR 9 l1, oR 6 l2, oI l3, oR 4 l4, oI l5, oI l6, oI v7, oI v8, oI v10] [aI v12, aI v11] (sh_E h)
      refine ai_WP_steps mc_3 (sh_CM d) 1 (And.intro (fun c => ?_) (fun c => ?_))
      · replace H := sh_okT c H
        show wq_3 d Q 74 [oR 0 0, oR 9 l1, oR 6 l2, oI l3, oR 4 l4, oI l5, oI l6, oI v7, oI v8, oI v10] [] (sh_E h)
        exact ai_WP_steps mc_3 (sh_CM d) 2 (hR (2 : Int32) H)
      · replace H := sh_okF c H
        exact x_Calendar_refusal_b76 N hd h hR l1 l2 l3 l4 v8 v10 H
def f_Rows_zero_c10 (N : Nat)   (k10 : Nat → Int32 → sh_H → Option sh_H) (l0 : Nat) (l1 : Int32) (h : sh_H) : Option sh_H := (if l1 < (Int32.ofNat (sh_l13 (sh_rc l0))) then (if ai_in l1 (sh_l13 (sh_rc l0)) then (sh_let (sh_pI h 13 (sh_rc l0) l1.toNatClampNeg (0 : Int32)) (fun h1 => k10 l0 (l1 + (1 : Int32)) h1)) else none) else (some h))
def f_Rows_zero_l10 (N : Nat)   (n : Nat) : Nat → Int32 → sh_H → Option sh_H := Nat.rec (motive := fun _ => Nat → Int32 → sh_H → Option sh_H) (fun _ _ _ => none) (fun _ k10 => f_Rows_zero_c10 N k10) n
theorem x_Rows_zero_l10 (N : Nat) {d : Nat} (hd : 0 ≤ d) {Q : ai_Q} {R : sh_H → Prop} (hR : ∀ h, R h → Q none (sh_E h))   (n : Nat) : ∀ (l0 : Nat) (l1 : Int32) (h : sh_H), sh_ok (f_Rows_zero_l10 N n l0 l1 h) R → wq_105 d Q 10 [oR 6 l0, oI l1] [] (sh_E h) := by
  induction n with
  | zero => intro l0 l1 h H; exact H.elim
  | succ n ih =>
    intro l0 l1 h H
    have hk10 := @ih
    replace H : sh_ok (f_Rows_zero_c10 N (f_Rows_zero_l10 N n) l0 l1 h) R := H
    revert hk10 H
    generalize f_Rows_zero_l10 N n = k10
    intro hk10 H
    refine ai_WP_steps mc_105 (sh_CM d) 5 (And.intro (fun c => ?_) (fun c => ?_))
    · replace H := sh_okT c H
      show wq_105 d Q 19 [oR 6 l0, oI l1] [] (sh_E h)
      have c := sh_okG H
      replace H := sh_okH H
      refine ai_WP_steps mc_105 (sh_CM d) 5 (And.intro c ?_)
      show wq_105 d Q 26 [oR 6 l0, oI l1] [] (sh_E (sh_pI h 13 (sh_rc l0) l1.toNatClampNeg (0 : Int32)))
      replace H := sh_okL H
      generalize sh_pI h 13 (sh_rc l0) l1.toNatClampNeg (0 : Int32) = h1 at H ⊢
      refine ai_WP_steps mc_105 (sh_CM d) 2 ?_
      exact hk10 l0 (l1 + (1 : Int32)) h1 H
    · replace H := sh_okF c H
      show wq_105 d Q 32 [oR 6 l0, oI l1] [] (sh_E h)
      exact ai_WP_steps mc_105 (sh_CM d) 1 (hR h H)
def f_Rows_zero (N : Nat)  (l0 : Nat) (h : sh_H) : Option sh_H := (sh_let (sh_pI h 6 l0 3 (h.1 6 l0 0)) (fun h2 => f_Rows_zero_l10 N N l0 (0 : Int32) h2))
theorem x_Rows_zero (N : Nat) {d : Nat} (hd : 1 ≤ d) (l0 : Nat) (h : sh_H) {Q : ai_Q} {R : sh_H → Prop} (H : sh_ok (f_Rows_zero N l0 h) R) (hR : ∀ h, R h → Q none (sh_E h)) : ai_Ex sh_T d 105 [aR 6 l0] (sh_E h) Q := by
  obtain ⟨d, rfl⟩ : ∃ e, d = e + 1 := ⟨d - 1, by omega⟩
  replace hd : 0 ≤ d := by omega
  refine And.intro (Nat.le_of_ble_eq_true rfl) ?_
  show wq_105 d Q 0 [oR 6 l0, none] [] (sh_E h)
  refine ai_WP_steps mc_105 (sh_CM d) 4 (And.intro trivial ?_)
  show wq_105 d Q 8 [oR 6 l0, _] [] (sh_E (sh_pI h 6 l0 3 (h.1 6 l0 0)))
  replace H := sh_okL H
  generalize sh_pI h 6 l0 3 (h.1 6 l0 0) = h2 at H ⊢
  refine ai_WP_steps mc_105 (sh_CM d) 2 ?_
  exact x_Rows_zero_l10 N hd hR N l0 (0 : Int32) h2 H
def f_Calendar_sail_b90 (N : Nat)  (k10 : Nat → Nat → Int32 → Int32 → sh_H → Option sh_H) (l1 : Nat) (l2 : Nat) (l3 : Int32) (l4 : Int32) (h : sh_H) : Option sh_H := k10 l1 l2 l3 (l4 + (1 : Int32)) h
theorem x_Calendar_sail_b90 (N : Nat) {d : Nat} (hd : 5 ≤ d) {Q : ai_Q} {R : sh_H → Prop} (hR : ∀ h, R h → Q none (sh_E h))  (k10 : Nat → Nat → Int32 → Int32 → sh_H → Option sh_H) (hk10 : ∀ (l1 : Nat) (l2 : Nat) (l3 : Int32) (l4 : Int32) {d5 : Option ai_V} (h : sh_H), sh_ok (k10 l1 l2 l3 l4 h) R → wq_2 d Q 10 [oR 0 0, oR 9 l1, oR 7 l2, oI l3, oI l4, d5] [] (sh_E h)) (l1 : Nat) (l2 : Nat) (l3 : Int32) (l4 : Int32) {d5 : Option ai_V} (h : sh_H) (H : sh_ok (f_Calendar_sail_b90 N k10 l1 l2 l3 l4 h) R) : wq_2 d Q 90 [oR 0 0, oR 9 l1, oR 7 l2, oI l3, oI l4, d5] [] (sh_E h) := by
  refine ai_WP_steps mc_2 (sh_CM d) 2 ?_
  exact hk10 l1 l2 l3 (l4 + (1 : Int32)) h H
def f_Calendar_sail_c10 (N : Nat)  (k96 : Nat → Nat → sh_H → Option sh_H) (k10 : Nat → Nat → Int32 → Int32 → sh_H → Option sh_H) (l1 : Nat) (l2 : Nat) (l3 : Int32) (l4 : Int32) (h : sh_H) : Option sh_H := (Option.bind (f_Rows_size (4 * l2 + 15) h) (fun v1 => (if l4 < v1 then (Option.bind (f_Rows_get (4 * l2 + 15) l4 (2 : Int32) h) (fun v2 => (if v2 = (h.1 7 l2 4) then (Option.bind (f_Calendar_refusal N l1 (4 * l2 + 15) l4 l2 l3 (1 : Int32) h) (fun v3 => (Option.bind (f_Rows_put (4 * l2 + 15) l4 (5 : Int32) v3 h) (fun h4 => (if v3 = 0 then (Option.bind (f_Calendar_carry N l1 (4 * l2 + 15) l4 l2 h4) (fun h5 => f_Calendar_sail_b90 N k10 l1 l2 l3 l4 h5)) else f_Calendar_sail_b90 N k10 l1 l2 l3 l4 h4))))) else f_Calendar_sail_b90 N k10 l1 l2 l3 l4 h))) else k96 l1 l2 h)))
def f_Calendar_sail_l10 (N : Nat)  (k96 : Nat → Nat → sh_H → Option sh_H) (n : Nat) : Nat → Nat → Int32 → Int32 → sh_H → Option sh_H := Nat.rec (motive := fun _ => Nat → Nat → Int32 → Int32 → sh_H → Option sh_H) (fun _ _ _ _ _ => none) (fun _ k10 => f_Calendar_sail_c10 N k96 k10) n
theorem x_Calendar_sail_l10 (N : Nat) {d : Nat} (hd : 5 ≤ d) {Q : ai_Q} {R : sh_H → Prop} (hR : ∀ h, R h → Q none (sh_E h))  (k96 : Nat → Nat → sh_H → Option sh_H) (hk96 : ∀ (l1 : Nat) (l2 : Nat) {d3 d4 d5 : Option ai_V} (h : sh_H), sh_ok (k96 l1 l2 h) R → wq_2 d Q 96 [oR 0 0, oR 9 l1, oR 7 l2, d3, d4, d5] [] (sh_E h)) (n : Nat) : ∀ (l1 : Nat) (l2 : Nat) (l3 : Int32) (l4 : Int32) {d5 : Option ai_V} (h : sh_H), sh_ok (f_Calendar_sail_l10 N k96 n l1 l2 l3 l4 h) R → wq_2 d Q 10 [oR 0 0, oR 9 l1, oR 7 l2, oI l3, oI l4, d5] [] (sh_E h) := by
  induction n with
  | zero => intro l1 l2 l3 l4 d5 h H; exact H.elim
  | succ n ih =>
    intro l1 l2 l3 l4 d5 h H
    have hk10 := @ih
    replace H : sh_ok (f_Calendar_sail_c10 N k96 (f_Calendar_sail_l10 N k96 n) l1 l2 l3 l4 h) R := H
    revert hk10 H
    generalize f_Calendar_sail_l10 N k96 n = k10
    intro hk10 H
    refine ai_WP_steps mc_2 (sh_CM d) 4 (And.intro (Nat.le_of_ble_eq_true rfl) (x_Rows_size (Nat.le_trans (Nat.le_of_ble_eq_true rfl) hd) (4 * l2 + 15) h (sh_okB H) (fun v1 H => ?_)))
    show wq_2 d Q 19 [oR 0 0, oR 9 l1, oR 7 l2, oI l3, oI l4, _] [aI v1, aI l4] (sh_E h)
    refine ai_WP_steps mc_2 (sh_CM d) 1 (And.intro (fun c => ?_) (fun c => ?_))
    · replace H := sh_okT c H
      show wq_2 d Q 22 [oR 0 0, oR 9 l1, oR 7 l2, oI l3, oI l4, _] [] (sh_E h)
      refine ai_WP_steps mc_2 (sh_CM d) 5 (And.intro (Nat.le_of_ble_eq_true rfl) (x_Rows_get (Nat.le_trans (Nat.le_of_ble_eq_true rfl) hd) (4 * l2 + 15) l4 (2 : Int32) h (sh_okB H) (fun v2 H => ?_)))
      show wq_2 d Q 32 [oR 0 0, oR 9 l1, oR 7 l2, oI l3, oI l4, _] [aI v2] (sh_E h)
      refine ai_WP_steps mc_2 (sh_CM d) 3 (And.intro (fun c => ?_) (fun c => ?_))
      · replace H := sh_okT c H
        show wq_2 d Q 39 [oR 0 0, oR 9 l1, oR 7 l2, oI l3, oI l4, _] [] (sh_E h)
        refine ai_WP_steps mc_2 (sh_CM d) 10 (And.intro (Nat.le_of_ble_eq_true rfl) (x_Calendar_refusal N (Nat.le_trans (Nat.le_of_ble_eq_true rfl) hd) l1 (4 * l2 + 15) l4 l2 l3 (1 : Int32) h (sh_okB H) (fun v3 H => ?_)))
        show wq_2 d Q 56 [oR 0 0, oR 9 l1, oR 7 l2, oI l3, oI l4, _] [aI v3] (sh_E h)
        refine ai_WP_steps mc_2 (sh_CM d) 7 (And.intro (Nat.le_of_ble_eq_true rfl) (x_Rows_put (Nat.le_trans (Nat.le_of_ble_eq_true rfl) hd) (4 * l2 + 15) l4 (5 : Int32) v3 h (sh_okB H) (fun h4 H => ?_)))
        show wq_2 d Q 70 [oR 0 0, oR 9 l1, oR 7 l2, oI l3, oI l4, oI v3] [] (sh_E h4)
        refine ai_WP_steps mc_2 (sh_CM d) 2 (And.intro (fun c => ?_) (fun c => ?_))
        · replace H := sh_okT c H
          show wq_2 d Q 75 [oR 0 0, oR 9 l1, oR 7 l2, oI l3, oI l4, oI v3] [] (sh_E h4)
          refine ai_WP_steps mc_2 (sh_CM d) 8 (And.intro (Nat.le_of_ble_eq_true rfl) (x_Calendar_carry N (Nat.le_trans (Nat.le_of_ble_eq_true rfl) hd) l1 (4 * l2 + 15) l4 l2 h4 (sh_okB H) (fun h5 H => ?_)))
          show wq_2 d Q 90 [oR 0 0, oR 9 l1, oR 7 l2, oI l3, oI l4, oI v3] [] (sh_E h5)
          exact x_Calendar_sail_b90 N hd hR k10 hk10 l1 l2 l3 l4 h5 H
        · replace H := sh_okF c H
          exact x_Calendar_sail_b90 N hd hR k10 hk10 l1 l2 l3 l4 h4 H
      · replace H := sh_okF c H
        exact x_Calendar_sail_b90 N hd hR k10 hk10 l1 l2 l3 l4 h H
    · replace H := sh_okF c H
      exact hk96 l1 l2 h H
def f_Calendar_sail_b144 (N : Nat)  (k99 : Nat → Nat → Int32 → sh_H → Option sh_H) (l1 : Nat) (l2 : Nat) (l4 : Int32) (h : sh_H) : Option sh_H := k99 l1 l2 (l4 + (1 : Int32)) h
theorem x_Calendar_sail_b144 (N : Nat) {d : Nat} (hd : 5 ≤ d) {Q : ai_Q} {R : sh_H → Prop} (hR : ∀ h, R h → Q none (sh_E h))  (k99 : Nat → Nat → Int32 → sh_H → Option sh_H) (hk99 : ∀ (l1 : Nat) (l2 : Nat) (l4 : Int32) {d3 d5 : Option ai_V} (h : sh_H), sh_ok (k99 l1 l2 l4 h) R → wq_2 d Q 99 [oR 0 0, oR 9 l1, oR 7 l2, d3, oI l4, d5] [] (sh_E h)) (l1 : Nat) (l2 : Nat) (l4 : Int32) {d3 d5 : Option ai_V} (h : sh_H) (H : sh_ok (f_Calendar_sail_b144 N k99 l1 l2 l4 h) R) : wq_2 d Q 144 [oR 0 0, oR 9 l1, oR 7 l2, d3, oI l4, d5] [] (sh_E h) := by
  refine ai_WP_steps mc_2 (sh_CM d) 2 ?_
  exact hk99 l1 l2 (l4 + (1 : Int32)) h H
def f_Calendar_sail_c99 (N : Nat)   (k99 : Nat → Nat → Int32 → sh_H → Option sh_H) (l1 : Nat) (l2 : Nat) (l4 : Int32) (h : sh_H) : Option sh_H := (Option.bind (f_Rows_size (7 * l1 + 6) h) (fun v6 => (if l4 < v6 then (Option.bind (f_Rows_get 26 l4 (0 : Int32) h) (fun v7 => (if 0 < v7 then (Option.bind (f_Rows_get (7 * l1 + 6) l4 (3 : Int32) h) (fun v8 => (sh_let (sh_pJ h 7 l2 6 ((h.2.1 7 l2 6) + v8.toInt64)) (fun h9 => f_Calendar_sail_b144 N k99 l1 l2 l4 h9)))) else f_Calendar_sail_b144 N k99 l1 l2 l4 h))) else (some h))))
def f_Calendar_sail_l99 (N : Nat)   (n : Nat) : Nat → Nat → Int32 → sh_H → Option sh_H := Nat.rec (motive := fun _ => Nat → Nat → Int32 → sh_H → Option sh_H) (fun _ _ _ _ => none) (fun _ k99 => f_Calendar_sail_c99 N k99) n
theorem x_Calendar_sail_l99 (N : Nat) {d : Nat} (hd : 5 ≤ d) {Q : ai_Q} {R : sh_H → Prop} (hR : ∀ h, R h → Q none (sh_E h))   (n : Nat) : ∀ (l1 : Nat) (l2 : Nat) (l4 : Int32) {d3 d5 : Option ai_V} (h : sh_H), sh_ok (f_Calendar_sail_l99 N n l1 l2 l4 h) R → wq_2 d Q 99 [oR 0 0, oR 9 l1, oR 7 l2, d3, oI l4, d5] [] (sh_E h) := by
  induction n with
  | zero => intro l1 l2 l4 d3 d5 h H; exact H.elim
  | succ n ih =>
    intro l1 l2 l4 d3 d5 h H
    have hk99 := @ih
    replace H : sh_ok (f_Calendar_sail_c99 N (f_Calendar_sail_l99 N n) l1 l2 l4 h) R := H
    revert hk99 H
    generalize f_Calendar_sail_l99 N n = k99
    intro hk99 H
    refine ai_WP_steps mc_2 (sh_CM d) 4 (And.intro (Nat.le_of_ble_eq_true rfl) (x_Rows_size (Nat.le_trans (Nat.le_of_ble_eq_true rfl) hd) (7 * l1 + 6) h (sh_okB H) (fun v6 H => ?_)))
    show wq_2 d Q 108 [oR 0 0, oR 9 l1, oR 7 l2, _, oI l4, _] [aI v6, aI l4] (sh_E h)
    refine ai_WP_steps mc_2 (sh_CM d) 1 (And.intro (fun c => ?_) (fun c => ?_))
    · replace H := sh_okT c H
      show wq_2 d Q 111 [oR 0 0, oR 9 l1, oR 7 l2, _, oI l4, _] [] (sh_E h)
      refine ai_WP_steps mc_2 (sh_CM d) 5 (And.intro (Nat.le_of_ble_eq_true rfl) (x_Rows_get (Nat.le_trans (Nat.le_of_ble_eq_true rfl) hd) 26 l4 (0 : Int32) h (sh_okB H) (fun v7 H => ?_)))
      show wq_2 d Q 121 [oR 0 0, oR 9 l1, oR 7 l2, _, oI l4, _] [aI v7] (sh_E h)
      refine ai_WP_steps mc_2 (sh_CM d) 1 (And.intro (fun c => ?_) (fun c => ?_))
      · replace H := sh_okT c H
        show wq_2 d Q 124 [oR 0 0, oR 9 l1, oR 7 l2, _, oI l4, _] [] (sh_E h)
        refine ai_WP_steps mc_2 (sh_CM d) 8 (And.intro (Nat.le_of_ble_eq_true rfl) (x_Rows_get (Nat.le_trans (Nat.le_of_ble_eq_true rfl) hd) (7 * l1 + 6) l4 (3 : Int32) h (sh_okB H) (fun v8 H => ?_)))
        show wq_2 d Q 139 [oR 0 0, oR 9 l1, oR 7 l2, _, oI l4, _] [aI v8, aL (h.2.1 7 l2 6), aR 7 l2] (sh_E h)
        refine ai_WP_steps mc_2 (sh_CM d) 3 ?_
        show wq_2 d Q 144 [oR 0 0, oR 9 l1, oR 7 l2, _, oI l4, _] [] (sh_E (sh_pJ h 7 l2 6 ((h.2.1 7 l2 6) + v8.toInt64)))
        replace H := sh_okL H
        generalize sh_pJ h 7 l2 6 ((h.2.1 7 l2 6) + v8.toInt64) = h9 at H ⊢
        exact x_Calendar_sail_b144 N hd hR k99 hk99 l1 l2 l4 h9 H
      · replace H := sh_okF c H
        exact x_Calendar_sail_b144 N hd hR k99 hk99 l1 l2 l4 h H
    · replace H := sh_okF c H
      show wq_2 d Q 150 [oR 0 0, oR 9 l1, oR 7 l2, _, oI l4, _] [] (sh_E h)
      exact ai_WP_steps mc_2 (sh_CM d) 1 (hR h H)
def f_Calendar_sail_b96 (N : Nat)   (l1 : Nat) (l2 : Nat) (h : sh_H) : Option sh_H := f_Calendar_sail_l99 N N l1 l2 (0 : Int32) h
theorem x_Calendar_sail_b96 (N : Nat) {d : Nat} (hd : 5 ≤ d) {Q : ai_Q} {R : sh_H → Prop} (hR : ∀ h, R h → Q none (sh_E h))   (l1 : Nat) (l2 : Nat) {d3 d4 d5 : Option ai_V} (h : sh_H) (H : sh_ok (f_Calendar_sail_b96 N l1 l2 h) R) : wq_2 d Q 96 [oR 0 0, oR 9 l1, oR 7 l2, d3, d4, d5] [] (sh_E h) := by
  refine ai_WP_steps mc_2 (sh_CM d) 2 ?_
  exact x_Calendar_sail_l99 N hd hR N l1 l2 (0 : Int32) h H
def f_Calendar_sail (N : Nat)  (l1 : Nat) (l2 : Nat) (l3 : Int32) (h : sh_H) : Option sh_H := (Option.bind (f_Rows_zero N 26 h) (fun h10 => f_Calendar_sail_l10 N (f_Calendar_sail_b96 N) N l1 l2 l3 (0 : Int32) h10))
theorem x_Calendar_sail (N : Nat) {d : Nat} (hd : 6 ≤ d) (l1 : Nat) (l2 : Nat) (l3 : Int32) (h : sh_H) {Q : ai_Q} {R : sh_H → Prop} (H : sh_ok (f_Calendar_sail N l1 l2 l3 h) R) (hR : ∀ h, R h → Q none (sh_E h)) : ai_Ex sh_T d 2 [aR 0 0, aR 9 l1, aR 7 l2, aI l3] (sh_E h) Q := by
  obtain ⟨d, rfl⟩ : ∃ e, d = e + 1 := ⟨d - 1, by omega⟩
  replace hd : 5 ≤ d := by omega
  refine And.intro (Nat.le_of_ble_eq_true rfl) ?_
  show wq_2 d Q 0 [oR 0 0, oR 9 l1, oR 7 l2, oI l3, none, none] [] (sh_E h)
  refine ai_WP_steps mc_2 (sh_CM d) 3 (And.intro (Nat.le_of_ble_eq_true rfl) (x_Rows_zero N (Nat.le_trans (Nat.le_of_ble_eq_true rfl) hd) 26 h (sh_okB H) (fun h10 H => ?_)))
  show wq_2 d Q 7 [oR 0 0, oR 9 l1, oR 7 l2, oI l3, _, _] [] (sh_E h10)
  refine ai_WP_steps mc_2 (sh_CM d) 2 ?_
  exact x_Calendar_sail_l10 N hd hR (f_Calendar_sail_b96 N) (fun z0 z1 {e3} {e4} {e5} h H => x_Calendar_sail_b96 N hd hR z0 z1 h H) N l1 l2 l3 (0 : Int32) h10 H
def f_Calendar_wearAt_c14 (N : Nat)   (k14 : Nat → Nat → Int32 → Int32 → Int32 → Int32 → sh_H → Option sh_H) (l0 : Nat) (l1 : Nat) (l2 : Int32) (l3 : Int32) (l4 : Int32) (l5 : Int32) (h : sh_H) : Option sh_H := (if l5 < 0 then (some h) else (Option.bind (f_Pieces_get l1 l3 l4 l5 h) (fun v1 => (if ¬ (12 : Int32) = 0 then (sh_b2 (f_Text_says N l0 (7 * l0 + 5) l2 ((h.1 7 l1 4) - (h.1 7 l1 4) / (12 : Int32) * (12 : Int32)) v1 l5 (0 : Int32) h) (fun v2 h3 => (Option.bind (f_CB_limit v2 v1 h3) (fun v4 => (Option.bind (f_Pieces_add l1 l3 l4 l5 (-v4) h3) (fun h5 => (Option.bind (f_Pieces_add l1 l3 l4 (l5 + (1 : Int32)) v4 h5) (fun h6 => k14 l0 l1 l2 l3 l4 (l5 + (-1 : Int32)) h6)))))))) else none))))
def f_Calendar_wearAt_l14 (N : Nat)   (n : Nat) : Nat → Nat → Int32 → Int32 → Int32 → Int32 → sh_H → Option sh_H := Nat.rec (motive := fun _ => Nat → Nat → Int32 → Int32 → Int32 → Int32 → sh_H → Option sh_H) (fun _ _ _ _ _ _ _ => none) (fun _ k14 => f_Calendar_wearAt_c14 N k14) n
theorem x_Calendar_wearAt_l14 (N : Nat) {d : Nat} (hd : 3 ≤ d) {Q : ai_Q} {R : sh_H → Prop} (hR : ∀ h, R h → Q none (sh_E h))   (n : Nat) : ∀ (l0 : Nat) (l1 : Nat) (l2 : Int32) (l3 : Int32) (l4 : Int32) (l5 : Int32) {d6 d7 : Option ai_V} (h : sh_H), sh_ok (f_Calendar_wearAt_l14 N n l0 l1 l2 l3 l4 l5 h) R → wq_9 d Q 14 [oR 9 l0, oR 7 l1, oI l2, oI l3, oI l4, oI l5, d6, d7] [] (sh_E h) := by
  induction n with
  | zero => intro l0 l1 l2 l3 l4 l5 d6 d7 h H; exact H.elim
  | succ n ih =>
    intro l0 l1 l2 l3 l4 l5 d6 d7 h H
    have hk14 := @ih
    replace H : sh_ok (f_Calendar_wearAt_c14 N (f_Calendar_wearAt_l14 N n) l0 l1 l2 l3 l4 l5 h) R := H
    revert hk14 H
    generalize f_Calendar_wearAt_l14 N n = k14
    intro hk14 H
    refine ai_WP_steps mc_9 (sh_CM d) 2 (And.intro (fun c => ?_) (fun c => ?_))
    · replace H := sh_okT c H
      show wq_9 d Q 98 [oR 9 l0, oR 7 l1, oI l2, oI l3, oI l4, oI l5, _, _] [] (sh_E h)
      exact ai_WP_steps mc_9 (sh_CM d) 1 (hR h H)
    · replace H := sh_okF c H
      show wq_9 d Q 19 [oR 9 l0, oR 7 l1, oI l2, oI l3, oI l4, oI l5, _, _] [] (sh_E h)
      refine ai_WP_steps mc_9 (sh_CM d) 6 (And.intro (Nat.le_of_ble_eq_true rfl) (x_Pieces_get (Nat.le_trans (Nat.le_of_ble_eq_true rfl) hd) l1 l3 l4 l5 h (sh_okB H) (fun v1 H => ?_)))
      show wq_9 d Q 31 [oR 9 l0, oR 7 l1, oI l2, oI l3, oI l4, oI l5, _, _] [aI v1] (sh_E h)
      have c := sh_okG H
      replace H := sh_okH H
      refine ai_WP_steps mc_9 (sh_CM d) 9 (And.intro c ?_)
      show wq_9 d Q 46 [oR 9 l0, oR 7 l1, oI l2, oI l3, oI l4, oI l5, oI v1, _] [aI ((h.1 7 l1 4) - (h.1 7 l1 4) / (12 : Int32) * (12 : Int32)), aI l2, aR 6 (7 * l0 + 5), aR 9 l0] (sh_E h)
      refine ai_WP_steps mc_9 (sh_CM d) 4 (And.intro (Nat.le_of_ble_eq_true rfl) (x_Text_says N (Nat.le_trans (Nat.le_of_ble_eq_true rfl) hd) l0 (7 * l0 + 5) l2 ((h.1 7 l1 4) - (h.1 7 l1 4) / (12 : Int32) * (12 : Int32)) v1 l5 (0 : Int32) h (sh_okB H) (fun v2 h3 H => ?_)))
      show wq_9 d Q 54 [oR 9 l0, oR 7 l1, oI l2, oI l3, oI l4, oI l5, oI v1, _] [aI v2] (sh_E h3)
      refine ai_WP_steps mc_9 (sh_CM d) 2 (And.intro (Nat.le_of_ble_eq_true rfl) (x_CB_limit (Nat.le_trans (Nat.le_of_ble_eq_true rfl) hd) v2 v1 h3 (sh_okB H) (fun v4 H => ?_)))
      show wq_9 d Q 59 [oR 9 l0, oR 7 l1, oI l2, oI l3, oI l4, oI l5, oI v1, _] [aI v4] (sh_E h3)
      refine ai_WP_steps mc_9 (sh_CM d) 9 (And.intro (Nat.le_of_ble_eq_true rfl) (x_Pieces_add (Nat.le_trans (Nat.le_of_ble_eq_true rfl) hd) l1 l3 l4 l5 (-v4) h3 (sh_okB H) (fun h5 H => ?_)))
      show wq_9 d Q 76 [oR 9 l0, oR 7 l1, oI l2, oI l3, oI l4, oI l5, _, oI v4] [] (sh_E h5)
      refine ai_WP_steps mc_9 (sh_CM d) 9 (And.intro (Nat.le_of_ble_eq_true rfl) (x_Pieces_add (Nat.le_trans (Nat.le_of_ble_eq_true rfl) hd) l1 l3 l4 (l5 + (1 : Int32)) v4 h5 (sh_okB H) (fun h6 H => ?_)))
      show wq_9 d Q 92 [oR 9 l0, oR 7 l1, oI l2, oI l3, oI l4, oI l5, _, oI v4] [] (sh_E h6)
      refine ai_WP_steps mc_9 (sh_CM d) 2 ?_
      exact hk14 l0 l1 l2 l3 l4 (l5 + (-1 : Int32)) h6 H
def f_Calendar_wearAt (N : Nat)  (l0 : Nat) (l1 : Nat) (l2 : Int32) (l3 : Int32) (h : sh_H) : Option sh_H := (Option.bind (f_Rows_get (7 * l0 + 5) l2 (1 : Int32) h) (fun v7 => f_Calendar_wearAt_l14 N N l0 l1 l2 l3 v7 (2 : Int32) h))
theorem x_Calendar_wearAt (N : Nat) {d : Nat} (hd : 4 ≤ d) (l0 : Nat) (l1 : Nat) (l2 : Int32) (l3 : Int32) (h : sh_H) {Q : ai_Q} {R : sh_H → Prop} (H : sh_ok (f_Calendar_wearAt N l0 l1 l2 l3 h) R) (hR : ∀ h, R h → Q none (sh_E h)) : ai_Ex sh_T d 9 [aR 9 l0, aR 7 l1, aI l2, aI l3] (sh_E h) Q := by
  obtain ⟨d, rfl⟩ : ∃ e, d = e + 1 := ⟨d - 1, by omega⟩
  replace hd : 3 ≤ d := by omega
  refine And.intro (Nat.le_of_ble_eq_true rfl) ?_
  show wq_9 d Q 0 [oR 9 l0, oR 7 l1, oI l2, oI l3, none, none, none, none] [] (sh_E h)
  refine ai_WP_steps mc_9 (sh_CM d) 5 (And.intro (Nat.le_of_ble_eq_true rfl) (x_Rows_get (Nat.le_trans (Nat.le_of_ble_eq_true rfl) hd) (7 * l0 + 5) l2 (1 : Int32) h (sh_okB H) (fun v7 H => ?_)))
  show wq_9 d Q 9 [oR 9 l0, oR 7 l1, oI l2, oI l3, _, _, _, _] [aI v7] (sh_E h)
  refine ai_WP_steps mc_9 (sh_CM d) 3 ?_
  exact x_Calendar_wearAt_l14 N hd hR N l0 l1 l2 l3 v7 (2 : Int32) h H
def f_Calendar_wear_c40 (N : Nat)  (k60 : Nat → Nat → Int32 → sh_H → Option sh_H) (k40 : Nat → Nat → Int32 → Int32 → Int32 → sh_H → Option sh_H) (l0 : Nat) (l1 : Nat) (l2 : Int32) (l3 : Int32) (l4 : Int32) (h : sh_H) : Option sh_H := (if l3 < l4 then k60 l0 l1 l2 h else (Option.bind (f_Calendar_wearAt N l0 l1 l2 l4 h) (fun h1 => k40 l0 l1 l2 l3 (l4 + (1 : Int32)) h1)))
def f_Calendar_wear_l40 (N : Nat)  (k60 : Nat → Nat → Int32 → sh_H → Option sh_H) (n : Nat) : Nat → Nat → Int32 → Int32 → Int32 → sh_H → Option sh_H := Nat.rec (motive := fun _ => Nat → Nat → Int32 → Int32 → Int32 → sh_H → Option sh_H) (fun _ _ _ _ _ _ => none) (fun _ k40 => f_Calendar_wear_c40 N k60 k40) n
theorem x_Calendar_wear_l40 (N : Nat) {d : Nat} (hd : 4 ≤ d) {Q : ai_Q} {R : sh_H → Prop} (hR : ∀ h, R h → Q none (sh_E h))  (k60 : Nat → Nat → Int32 → sh_H → Option sh_H) (hk60 : ∀ (l0 : Nat) (l1 : Nat) (l2 : Int32) {d3 d4 : Option ai_V} (h : sh_H), sh_ok (k60 l0 l1 l2 h) R → wq_8 d Q 60 [oR 9 l0, oR 7 l1, oI l2, d3, d4] [] (sh_E h)) (n : Nat) : ∀ (l0 : Nat) (l1 : Nat) (l2 : Int32) (l3 : Int32) (l4 : Int32) (h : sh_H), sh_ok (f_Calendar_wear_l40 N k60 n l0 l1 l2 l3 l4 h) R → wq_8 d Q 40 [oR 9 l0, oR 7 l1, oI l2, oI l3, oI l4] [] (sh_E h) := by
  induction n with
  | zero => intro l0 l1 l2 l3 l4 h H; exact H.elim
  | succ n ih =>
    intro l0 l1 l2 l3 l4 h H
    have hk40 := @ih
    replace H : sh_ok (f_Calendar_wear_c40 N k60 (f_Calendar_wear_l40 N k60 n) l0 l1 l2 l3 l4 h) R := H
    revert hk40 H
    generalize f_Calendar_wear_l40 N k60 n = k40
    intro hk40 H
    refine ai_WP_steps mc_8 (sh_CM d) 3 (And.intro (fun c => ?_) (fun c => ?_))
    · replace H := sh_okT c H
      exact hk60 l0 l1 l2 h H
    · replace H := sh_okF c H
      show wq_8 d Q 46 [oR 9 l0, oR 7 l1, oI l2, oI l3, oI l4] [] (sh_E h)
      refine ai_WP_steps mc_8 (sh_CM d) 5 (And.intro (Nat.le_of_ble_eq_true rfl) (x_Calendar_wearAt N (Nat.le_trans (Nat.le_of_ble_eq_true rfl) hd) l0 l1 l2 l4 h (sh_okB H) (fun h1 H => ?_)))
      show wq_8 d Q 54 [oR 9 l0, oR 7 l1, oI l2, oI l3, oI l4] [] (sh_E h1)
      refine ai_WP_steps mc_8 (sh_CM d) 2 ?_
      exact hk40 l0 l1 l2 l3 (l4 + (1 : Int32)) h1 H
def f_Calendar_wear_b60 (N : Nat)  (k2 : Nat → Nat → Int32 → sh_H → Option sh_H) (l0 : Nat) (l1 : Nat) (l2 : Int32) (h : sh_H) : Option sh_H := k2 l0 l1 (l2 + (1 : Int32)) h
theorem x_Calendar_wear_b60 (N : Nat) {d : Nat} (hd : 4 ≤ d) {Q : ai_Q} {R : sh_H → Prop} (hR : ∀ h, R h → Q none (sh_E h))  (k2 : Nat → Nat → Int32 → sh_H → Option sh_H) (hk2 : ∀ (l0 : Nat) (l1 : Nat) (l2 : Int32) {d3 d4 : Option ai_V} (h : sh_H), sh_ok (k2 l0 l1 l2 h) R → wq_8 d Q 2 [oR 9 l0, oR 7 l1, oI l2, d3, d4] [] (sh_E h)) (l0 : Nat) (l1 : Nat) (l2 : Int32) {d3 d4 : Option ai_V} (h : sh_H) (H : sh_ok (f_Calendar_wear_b60 N k2 l0 l1 l2 h) R) : wq_8 d Q 60 [oR 9 l0, oR 7 l1, oI l2, d3, d4] [] (sh_E h) := by
  refine ai_WP_steps mc_8 (sh_CM d) 2 ?_
  exact hk2 l0 l1 (l2 + (1 : Int32)) h H
def f_Calendar_wear_b36 (N : Nat)  (k2 : Nat → Nat → Int32 → sh_H → Option sh_H) (l0 : Nat) (l1 : Nat) (l2 : Int32) (s0 : Int32) (h : sh_H) : Option sh_H := f_Calendar_wear_l40 N (f_Calendar_wear_b60 N k2) N l0 l1 l2 s0 (1 : Int32) h
theorem x_Calendar_wear_b36 (N : Nat) {d : Nat} (hd : 4 ≤ d) {Q : ai_Q} {R : sh_H → Prop} (hR : ∀ h, R h → Q none (sh_E h))  (k2 : Nat → Nat → Int32 → sh_H → Option sh_H) (hk2 : ∀ (l0 : Nat) (l1 : Nat) (l2 : Int32) {d3 d4 : Option ai_V} (h : sh_H), sh_ok (k2 l0 l1 l2 h) R → wq_8 d Q 2 [oR 9 l0, oR 7 l1, oI l2, d3, d4] [] (sh_E h)) (l0 : Nat) (l1 : Nat) (l2 : Int32) (s0 : Int32) {d3 d4 : Option ai_V} (h : sh_H) (H : sh_ok (f_Calendar_wear_b36 N k2 l0 l1 l2 s0 h) R) : wq_8 d Q 36 [oR 9 l0, oR 7 l1, oI l2, d3, d4] [aI s0] (sh_E h) := by
  refine ai_WP_steps mc_8 (sh_CM d) 3 ?_
  exact x_Calendar_wear_l40 N hd hR (f_Calendar_wear_b60 N k2) (fun z0 z1 z2 {e3} {e4} h H => x_Calendar_wear_b60 N hd hR k2 hk2 z0 z1 z2 h H) N l0 l1 l2 s0 (1 : Int32) h H
def f_Calendar_wear_c2 (N : Nat)   (k2 : Nat → Nat → Int32 → sh_H → Option sh_H) (l0 : Nat) (l1 : Nat) (l2 : Int32) (h : sh_H) : Option sh_H := (Option.bind (f_Rows_size (7 * l0 + 5) h) (fun v2 => (if l2 < v2 then (Option.bind (f_Text_isInForce N l0 (7 * l0 + 5) l2 h) (fun v3 => (if v3 = 0 then f_Calendar_wear_b36 N k2 l0 l1 l2 (0 : Int32) h else (Option.bind (f_Rows_size (7 * l0 + 1) h) (fun v4 => f_Calendar_wear_b36 N k2 l0 l1 l2 v4 h))))) else (some h))))
def f_Calendar_wear_l2 (N : Nat)   (n : Nat) : Nat → Nat → Int32 → sh_H → Option sh_H := Nat.rec (motive := fun _ => Nat → Nat → Int32 → sh_H → Option sh_H) (fun _ _ _ _ => none) (fun _ k2 => f_Calendar_wear_c2 N k2) n
theorem x_Calendar_wear_l2 (N : Nat) {d : Nat} (hd : 4 ≤ d) {Q : ai_Q} {R : sh_H → Prop} (hR : ∀ h, R h → Q none (sh_E h))   (n : Nat) : ∀ (l0 : Nat) (l1 : Nat) (l2 : Int32) {d3 d4 : Option ai_V} (h : sh_H), sh_ok (f_Calendar_wear_l2 N n l0 l1 l2 h) R → wq_8 d Q 2 [oR 9 l0, oR 7 l1, oI l2, d3, d4] [] (sh_E h) := by
  induction n with
  | zero => intro l0 l1 l2 d3 d4 h H; exact H.elim
  | succ n ih =>
    intro l0 l1 l2 d3 d4 h H
    have hk2 := @ih
    replace H : sh_ok (f_Calendar_wear_c2 N (f_Calendar_wear_l2 N n) l0 l1 l2 h) R := H
    revert hk2 H
    generalize f_Calendar_wear_l2 N n = k2
    intro hk2 H
    refine ai_WP_steps mc_8 (sh_CM d) 4 (And.intro (Nat.le_of_ble_eq_true rfl) (x_Rows_size (Nat.le_trans (Nat.le_of_ble_eq_true rfl) hd) (7 * l0 + 5) h (sh_okB H) (fun v2 H => ?_)))
    show wq_8 d Q 10 [oR 9 l0, oR 7 l1, oI l2, _, _] [aI v2, aI l2] (sh_E h)
    refine ai_WP_steps mc_8 (sh_CM d) 1 (And.intro (fun c => ?_) (fun c => ?_))
    · replace H := sh_okT c H
      show wq_8 d Q 13 [oR 9 l0, oR 7 l1, oI l2, _, _] [] (sh_E h)
      refine ai_WP_steps mc_8 (sh_CM d) 5 (And.intro (Nat.le_of_ble_eq_true rfl) (x_Text_isInForce N (Nat.le_trans (Nat.le_of_ble_eq_true rfl) hd) l0 (7 * l0 + 5) l2 h (sh_okB H) (fun v3 H => ?_)))
      show wq_8 d Q 22 [oR 9 l0, oR 7 l1, oI l2, _, _] [aI v3] (sh_E h)
      refine ai_WP_steps mc_8 (sh_CM d) 1 (And.intro (fun c => ?_) (fun c => ?_))
      · replace H := sh_okT c H
        show wq_8 d Q 35 [oR 9 l0, oR 7 l1, oI l2, _, _] [] (sh_E h)
        refine ai_WP_steps mc_8 (sh_CM d) 1 ?_
        exact x_Calendar_wear_b36 N hd hR k2 hk2 l0 l1 l2 (0 : Int32) h H
      · replace H := sh_okF c H
        show wq_8 d Q 25 [oR 9 l0, oR 7 l1, oI l2, _, _] [] (sh_E h)
        refine ai_WP_steps mc_8 (sh_CM d) 3 (And.intro (Nat.le_of_ble_eq_true rfl) (x_Rows_size (Nat.le_trans (Nat.le_of_ble_eq_true rfl) hd) (7 * l0 + 1) h (sh_okB H) (fun v4 H => ?_)))
        show wq_8 d Q 32 [oR 9 l0, oR 7 l1, oI l2, _, _] [aI v4] (sh_E h)
        refine ai_WP_steps mc_8 (sh_CM d) 1 ?_
        exact x_Calendar_wear_b36 N hd hR k2 hk2 l0 l1 l2 v4 h H
    · replace H := sh_okF c H
      show wq_8 d Q 66 [oR 9 l0, oR 7 l1, oI l2, _, _] [] (sh_E h)
      exact ai_WP_steps mc_8 (sh_CM d) 1 (hR h H)
def f_Calendar_wear (N : Nat)  (l0 : Nat) (l1 : Nat) (h : sh_H) : Option sh_H := f_Calendar_wear_l2 N N l0 l1 (0 : Int32) h
theorem x_Calendar_wear (N : Nat) {d : Nat} (hd : 5 ≤ d) (l0 : Nat) (l1 : Nat) (h : sh_H) {Q : ai_Q} {R : sh_H → Prop} (H : sh_ok (f_Calendar_wear N l0 l1 h) R) (hR : ∀ h, R h → Q none (sh_E h)) : ai_Ex sh_T d 8 [aR 9 l0, aR 7 l1] (sh_E h) Q := by
  obtain ⟨d, rfl⟩ : ∃ e, d = e + 1 := ⟨d - 1, by omega⟩
  replace hd : 4 ≤ d := by omega
  refine And.intro (Nat.le_of_ble_eq_true rfl) ?_
  show wq_8 d Q 0 [oR 9 l0, oR 7 l1, none, none, none] [] (sh_E h)
  refine ai_WP_steps mc_8 (sh_CM d) 2 ?_
  exact x_Calendar_wear_l2 N hd hR N l0 l1 (0 : Int32) h H
def f_Calendar_pass (N : Nat)  (l1 : Nat) (l2 : Nat) (l3 : Int32) (h : sh_H) : Option (Int32 × sh_H) := (Option.bind (f_Calendar_sail N l1 l2 l3 h) (fun h1 => (Option.bind (f_Calendar_flow N l1 l2 l3 h1) (fun h2 => (Option.bind (f_Calendar_wear N l1 l2 h2) (fun h3 => (Option.bind (f_Calendar_lose N l1 l2 h3) (fun h4 => (sh_b2 (f_Calendar_lack N l1 l2 h4) (fun v5 h6 => (sh_let (sh_pI h6 7 l2 4 ((h6.1 7 l2 4) + (1 : Int32))) (fun h7 => (some (v5, h7))))))))))))))
theorem x_Calendar_pass (N : Nat) {d : Nat} (hd : 7 ≤ d) (l1 : Nat) (l2 : Nat) (l3 : Int32) (h : sh_H) {Q : ai_Q} {R : Int32 × sh_H → Prop} (H : sh_ok (f_Calendar_pass N l1 l2 l3 h) R) (hR : ∀ r h, R (r, h) → Q (some (aI r)) (sh_E h)) : ai_Ex sh_T d 1 [aR 0 0, aR 9 l1, aR 7 l2, aI l3] (sh_E h) Q := by
  obtain ⟨d, rfl⟩ : ∃ e, d = e + 1 := ⟨d - 1, by omega⟩
  replace hd : 6 ≤ d := by omega
  refine And.intro (Nat.le_of_ble_eq_true rfl) ?_
  show wq_1 d Q 0 [oR 0 0, oR 9 l1, oR 7 l2, oI l3, none] [] (sh_E h)
  refine ai_WP_steps mc_1 (sh_CM d) 5 (And.intro (Nat.le_of_ble_eq_true rfl) (x_Calendar_sail N (Nat.le_trans (Nat.le_of_ble_eq_true rfl) hd) l1 l2 l3 h (sh_okB H) (fun h1 H => ?_)))
  show wq_1 d Q 7 [oR 0 0, oR 9 l1, oR 7 l2, oI l3, _] [] (sh_E h1)
  refine ai_WP_steps mc_1 (sh_CM d) 4 (And.intro (Nat.le_of_ble_eq_true rfl) (x_Calendar_flow N (Nat.le_trans (Nat.le_of_ble_eq_true rfl) hd) l1 l2 l3 h1 (sh_okB H) (fun h2 H => ?_)))
  show wq_1 d Q 13 [oR 0 0, oR 9 l1, oR 7 l2, oI l3, _] [] (sh_E h2)
  refine ai_WP_steps mc_1 (sh_CM d) 3 (And.intro (Nat.le_of_ble_eq_true rfl) (x_Calendar_wear N (Nat.le_trans (Nat.le_of_ble_eq_true rfl) hd) l1 l2 h2 (sh_okB H) (fun h3 H => ?_)))
  show wq_1 d Q 18 [oR 0 0, oR 9 l1, oR 7 l2, oI l3, _] [] (sh_E h3)
  refine ai_WP_steps mc_1 (sh_CM d) 3 (And.intro (Nat.le_of_ble_eq_true rfl) (x_Calendar_lose N (Nat.le_trans (Nat.le_of_ble_eq_true rfl) hd) l1 l2 h3 (sh_okB H) (fun h4 H => ?_)))
  show wq_1 d Q 23 [oR 0 0, oR 9 l1, oR 7 l2, oI l3, _] [] (sh_E h4)
  refine ai_WP_steps mc_1 (sh_CM d) 3 (And.intro (Nat.le_of_ble_eq_true rfl) (x_Calendar_lack N (Nat.le_trans (Nat.le_of_ble_eq_true rfl) hd) l1 l2 h4 (sh_okB H) (fun v5 h6 H => ?_)))
  show wq_1 d Q 28 [oR 0 0, oR 9 l1, oR 7 l2, oI l3, _] [aI v5] (sh_E h6)
  refine ai_WP_steps mc_1 (sh_CM d) 7 (And.intro trivial ?_)
  show wq_1 d Q 40 [oR 0 0, oR 9 l1, oR 7 l2, _, oI v5] [] (sh_E (sh_pI h6 7 l2 4 ((h6.1 7 l2 4) + (1 : Int32))))
  replace H := sh_okL H
  generalize sh_pI h6 7 l2 4 ((h6.1 7 l2 4) + (1 : Int32)) = h7 at H ⊢
  exact ai_WP_steps mc_1 (sh_CM d) 2 (hR v5 h7 H)
def f_Rows_copy_c17 (N : Nat)   (k17 : Nat → Nat → Int32 → sh_H → Option sh_H) (l0 : Nat) (l1 : Nat) (l2 : Int32) (h : sh_H) : Option sh_H := (if l2 < (Int32.ofNat (sh_l13 (sh_rc l0))) then (if l2 < (Int32.ofNat (sh_l13 (sh_rc l1))) then (if ai_in l2 (sh_l13 (sh_rc l1)) then (if ai_in l2 (sh_l13 (sh_rc l0)) then (sh_let (sh_pI h 13 (sh_rc l0) l2.toNatClampNeg (h.1 13 (sh_rc l1) l2.toNatClampNeg)) (fun h1 => k17 l0 l1 (l2 + (1 : Int32)) h1)) else none) else none) else (some h)) else (some h))
def f_Rows_copy_l17 (N : Nat)   (n : Nat) : Nat → Nat → Int32 → sh_H → Option sh_H := Nat.rec (motive := fun _ => Nat → Nat → Int32 → sh_H → Option sh_H) (fun _ _ _ _ => none) (fun _ k17 => f_Rows_copy_c17 N k17) n
theorem x_Rows_copy_l17 (N : Nat) {d : Nat} (hd : 1 ≤ d) {Q : ai_Q} {R : sh_H → Prop} (hR : ∀ h, R h → Q none (sh_E h))   (n : Nat) : ∀ (l0 : Nat) (l1 : Nat) (l2 : Int32) (h : sh_H), sh_ok (f_Rows_copy_l17 N n l0 l1 l2 h) R → wq_106 d Q 17 [oR 6 l0, oR 6 l1, oI l2] [] (sh_E h) := by
  induction n with
  | zero => intro l0 l1 l2 h H; exact H.elim
  | succ n ih =>
    intro l0 l1 l2 h H
    have hk17 := @ih
    replace H : sh_ok (f_Rows_copy_c17 N (f_Rows_copy_l17 N n) l0 l1 l2 h) R := H
    revert hk17 H
    generalize f_Rows_copy_l17 N n = k17
    intro hk17 H
    refine ai_WP_steps mc_106 (sh_CM d) 5 (And.intro (fun c => ?_) (fun c => ?_))
    · replace H := sh_okT c H
      show wq_106 d Q 26 [oR 6 l0, oR 6 l1, oI l2] [] (sh_E h)
      refine ai_WP_steps mc_106 (sh_CM d) 5 (And.intro (fun c => ?_) (fun c => ?_))
      · replace H := sh_okT c H
        show wq_106 d Q 35 [oR 6 l0, oR 6 l1, oI l2] [] (sh_E h)
        have c := sh_okG H
        replace H := sh_okH H
        refine ai_WP_steps mc_106 (sh_CM d) 7 (And.intro c ?_)
        show wq_106 d Q 46 [oR 6 l0, oR 6 l1, oI l2] [aI (h.1 13 (sh_rc l1) l2.toNatClampNeg), aI l2, aR 13 (sh_rc l0)] (sh_E h)
        have c := sh_okG H
        replace H := sh_okH H
        refine ai_WP_steps mc_106 (sh_CM d) 1 (And.intro c ?_)
        show wq_106 d Q 47 [oR 6 l0, oR 6 l1, oI l2] [] (sh_E (sh_pI h 13 (sh_rc l0) l2.toNatClampNeg (h.1 13 (sh_rc l1) l2.toNatClampNeg)))
        replace H := sh_okL H
        generalize sh_pI h 13 (sh_rc l0) l2.toNatClampNeg (h.1 13 (sh_rc l1) l2.toNatClampNeg) = h1 at H ⊢
        refine ai_WP_steps mc_106 (sh_CM d) 2 ?_
        exact hk17 l0 l1 (l2 + (1 : Int32)) h1 H
      · replace H := sh_okF c H
        show wq_106 d Q 53 [oR 6 l0, oR 6 l1, oI l2] [] (sh_E h)
        exact ai_WP_steps mc_106 (sh_CM d) 1 (hR h H)
    · replace H := sh_okF c H
      show wq_106 d Q 53 [oR 6 l0, oR 6 l1, oI l2] [] (sh_E h)
      exact ai_WP_steps mc_106 (sh_CM d) 1 (hR h H)
def f_Rows_copy (N : Nat)  (l0 : Nat) (l1 : Nat) (h : sh_H) : Option sh_H := (Option.bind (f_Math_min (h.1 6 l1 3) (h.1 6 l0 0) h) (fun v2 => (sh_let (sh_pI h 6 l0 3 v2) (fun h3 => f_Rows_copy_l17 N N l0 l1 (0 : Int32) h3))))
theorem x_Rows_copy (N : Nat) {d : Nat} (hd : 2 ≤ d) (l0 : Nat) (l1 : Nat) (h : sh_H) {Q : ai_Q} {R : sh_H → Prop} (H : sh_ok (f_Rows_copy N l0 l1 h) R) (hR : ∀ h, R h → Q none (sh_E h)) : ai_Ex sh_T d 106 [aR 6 l0, aR 6 l1] (sh_E h) Q := by
  obtain ⟨d, rfl⟩ : ∃ e, d = e + 1 := ⟨d - 1, by omega⟩
  replace hd : 1 ≤ d := by omega
  refine And.intro (Nat.le_of_ble_eq_true rfl) ?_
  show wq_106 d Q 0 [oR 6 l0, oR 6 l1, none] [] (sh_E h)
  refine ai_WP_steps mc_106 (sh_CM d) 6 (And.intro (Nat.le_of_ble_eq_true rfl) (x_Math_min (Nat.le_trans (Nat.le_of_ble_eq_true rfl) hd) (h.1 6 l1 3) (h.1 6 l0 0) h (sh_okB H) (fun v2 H => ?_)))
  show wq_106 d Q 12 [oR 6 l0, oR 6 l1, _] [aI v2, aR 6 l0] (sh_E h)
  refine ai_WP_steps mc_106 (sh_CM d) 1 (And.intro trivial ?_)
  show wq_106 d Q 15 [oR 6 l0, oR 6 l1, _] [] (sh_E (sh_pI h 6 l0 3 v2))
  replace H := sh_okL H
  generalize sh_pI h 6 l0 3 v2 = h3 at H ⊢
  refine ai_WP_steps mc_106 (sh_CM d) 2 ?_
  exact x_Rows_copy_l17 N hd hR N l0 l1 (0 : Int32) h3 H
def f_Pieces_copy (N : Nat)  (l0 : Nat) (l1 : Nat) (h : sh_H) : Option sh_H := (Option.bind (f_Rows_copy N (sh_pr l0) (sh_pr l1) h) (fun h1 => (some h1)))
theorem x_Pieces_copy (N : Nat) {d : Nat} (hd : 3 ≤ d) (l0 : Nat) (l1 : Nat) (h : sh_H) {Q : ai_Q} {R : sh_H → Prop} (H : sh_ok (f_Pieces_copy N l0 l1 h) R) (hR : ∀ h, R h → Q none (sh_E h)) : ai_Ex sh_T d 68 [aR 4 l0, aR 4 l1] (sh_E h) Q := by
  obtain ⟨d, rfl⟩ : ∃ e, d = e + 1 := ⟨d - 1, by omega⟩
  replace hd : 2 ≤ d := by omega
  refine And.intro (Nat.le_of_ble_eq_true rfl) ?_
  show wq_68 d Q 0 [oR 4 l0, oR 4 l1] [] (sh_E h)
  refine ai_WP_steps mc_68 (sh_CM d) 5 (And.intro (Nat.le_of_ble_eq_true rfl) (x_Rows_copy N (Nat.le_trans (Nat.le_of_ble_eq_true rfl) hd) (sh_pr l0) (sh_pr l1) h (sh_okB H) (fun h1 H => ?_)))
  show wq_68 d Q 11 [oR 4 l0, oR 4 l1] [] (sh_E h1)
  exact ai_WP_steps mc_68 (sh_CM d) 1 (hR h1 H)
def f_Calendar_firstUndone_b109 (N : Nat)  (k37 : Nat → Nat → Int32 → Int32 → sh_H → Option (Int32 × sh_H)) (l1 : Nat) (l2 : Nat) (l3 : Int32) (l4 : Int32) (h : sh_H) : Option (Int32 × sh_H) := k37 l1 l2 l3 (l4 + (1 : Int32)) h
theorem x_Calendar_firstUndone_b109 (N : Nat) {d : Nat} (hd : 5 ≤ d) {Q : ai_Q} {R : Int32 × sh_H → Prop} (hR : ∀ r h, R (r, h) → Q (some (aI r)) (sh_E h))  (k37 : Nat → Nat → Int32 → Int32 → sh_H → Option (Int32 × sh_H)) (hk37 : ∀ (l1 : Nat) (l2 : Nat) (l3 : Int32) (l4 : Int32) (h : sh_H), sh_ok (k37 l1 l2 l3 l4 h) R → wq_12 d Q 37 [oR 0 0, oR 9 l1, oR 7 l2, oI l3, oI l4] [] (sh_E h)) (l1 : Nat) (l2 : Nat) (l3 : Int32) (l4 : Int32) (h : sh_H) (H : sh_ok (f_Calendar_firstUndone_b109 N k37 l1 l2 l3 l4 h) R) : wq_12 d Q 109 [oR 0 0, oR 9 l1, oR 7 l2, oI l3, oI l4] [] (sh_E h) := by
  refine ai_WP_steps mc_12 (sh_CM d) 2 ?_
  exact hk37 l1 l2 l3 (l4 + (1 : Int32)) h H
def f_Calendar_firstUndone_c37 (N : Nat)  (k115 : Nat → Nat → Int32 → sh_H → Option (Int32 × sh_H)) (k37 : Nat → Nat → Int32 → Int32 → sh_H → Option (Int32 × sh_H)) (l1 : Nat) (l2 : Nat) (l3 : Int32) (l4 : Int32) (h : sh_H) : Option (Int32 × sh_H) := (Option.bind (f_Rows_size (4 * l2 + 15) h) (fun v1 => (if l4 < v1 then (Option.bind (f_Rows_get (4 * l2 + 15) l4 (2 : Int32) h) (fun v2 => (if v2 = l3 then (Option.bind (f_Calendar_refusal N l1 (4 * l2 + 15) l4 3 (0 : Int32) (0 : Int32) h) (fun v3 => (sh_let (sh_pI h 0 0 2 v3) (fun h4 => (if (h4.1 0 0 2) = 0 then (Option.bind (f_Calendar_carry N l1 (4 * l2 + 15) l4 3 h4) (fun h5 => f_Calendar_firstUndone_b109 N k37 l1 l2 l3 l4 h5)) else (some (l4, h4))))))) else f_Calendar_firstUndone_b109 N k37 l1 l2 l3 l4 h))) else k115 l1 l2 l3 h)))
def f_Calendar_firstUndone_l37 (N : Nat)  (k115 : Nat → Nat → Int32 → sh_H → Option (Int32 × sh_H)) (n : Nat) : Nat → Nat → Int32 → Int32 → sh_H → Option (Int32 × sh_H) := Nat.rec (motive := fun _ => Nat → Nat → Int32 → Int32 → sh_H → Option (Int32 × sh_H)) (fun _ _ _ _ _ => none) (fun _ k37 => f_Calendar_firstUndone_c37 N k115 k37) n
theorem x_Calendar_firstUndone_l37 (N : Nat) {d : Nat} (hd : 5 ≤ d) {Q : ai_Q} {R : Int32 × sh_H → Prop} (hR : ∀ r h, R (r, h) → Q (some (aI r)) (sh_E h))  (k115 : Nat → Nat → Int32 → sh_H → Option (Int32 × sh_H)) (hk115 : ∀ (l1 : Nat) (l2 : Nat) (l3 : Int32) {d4 : Option ai_V} (h : sh_H), sh_ok (k115 l1 l2 l3 h) R → wq_12 d Q 115 [oR 0 0, oR 9 l1, oR 7 l2, oI l3, d4] [] (sh_E h)) (n : Nat) : ∀ (l1 : Nat) (l2 : Nat) (l3 : Int32) (l4 : Int32) (h : sh_H), sh_ok (f_Calendar_firstUndone_l37 N k115 n l1 l2 l3 l4 h) R → wq_12 d Q 37 [oR 0 0, oR 9 l1, oR 7 l2, oI l3, oI l4] [] (sh_E h) := by
  induction n with
  | zero => intro l1 l2 l3 l4 h H; exact H.elim
  | succ n ih =>
    intro l1 l2 l3 l4 h H
    have hk37 := @ih
    replace H : sh_ok (f_Calendar_firstUndone_c37 N k115 (f_Calendar_firstUndone_l37 N k115 n) l1 l2 l3 l4 h) R := H
    revert hk37 H
    generalize f_Calendar_firstUndone_l37 N k115 n = k37
    intro hk37 H
    refine ai_WP_steps mc_12 (sh_CM d) 4 (And.intro (Nat.le_of_ble_eq_true rfl) (x_Rows_size (Nat.le_trans (Nat.le_of_ble_eq_true rfl) hd) (4 * l2 + 15) h (sh_okB H) (fun v1 H => ?_)))
    show wq_12 d Q 46 [oR 0 0, oR 9 l1, oR 7 l2, oI l3, oI l4] [aI v1, aI l4] (sh_E h)
    refine ai_WP_steps mc_12 (sh_CM d) 1 (And.intro (fun c => ?_) (fun c => ?_))
    · replace H := sh_okT c H
      show wq_12 d Q 49 [oR 0 0, oR 9 l1, oR 7 l2, oI l3, oI l4] [] (sh_E h)
      refine ai_WP_steps mc_12 (sh_CM d) 5 (And.intro (Nat.le_of_ble_eq_true rfl) (x_Rows_get (Nat.le_trans (Nat.le_of_ble_eq_true rfl) hd) (4 * l2 + 15) l4 (2 : Int32) h (sh_okB H) (fun v2 H => ?_)))
      show wq_12 d Q 59 [oR 0 0, oR 9 l1, oR 7 l2, oI l3, oI l4] [aI v2] (sh_E h)
      refine ai_WP_steps mc_12 (sh_CM d) 2 (And.intro (fun c => ?_) (fun c => ?_))
      · replace H := sh_okT c H
        show wq_12 d Q 63 [oR 0 0, oR 9 l1, oR 7 l2, oI l3, oI l4] [] (sh_E h)
        refine ai_WP_steps mc_12 (sh_CM d) 11 (And.intro (Nat.le_of_ble_eq_true rfl) (x_Calendar_refusal N (Nat.le_trans (Nat.le_of_ble_eq_true rfl) hd) l1 (4 * l2 + 15) l4 3 (0 : Int32) (0 : Int32) h (sh_okB H) (fun v3 H => ?_)))
        show wq_12 d Q 81 [oR 0 0, oR 9 l1, oR 7 l2, oI l3, oI l4] [aI v3, aR 0 0] (sh_E h)
        refine ai_WP_steps mc_12 (sh_CM d) 1 (And.intro trivial ?_)
        show wq_12 d Q 84 [oR 0 0, oR 9 l1, oR 7 l2, oI l3, oI l4] [] (sh_E (sh_pI h 0 0 2 v3))
        replace H := sh_okL H
        generalize sh_pI h 0 0 2 v3 = h4 at H ⊢
        refine ai_WP_steps mc_12 (sh_CM d) 3 (And.intro (fun c => ?_) (fun c => ?_))
        · replace H := sh_okT c H
          show wq_12 d Q 94 [oR 0 0, oR 9 l1, oR 7 l2, oI l3, oI l4] [] (sh_E h4)
          refine ai_WP_steps mc_12 (sh_CM d) 8 (And.intro (Nat.le_of_ble_eq_true rfl) (x_Calendar_carry N (Nat.le_trans (Nat.le_of_ble_eq_true rfl) hd) l1 (4 * l2 + 15) l4 3 h4 (sh_okB H) (fun h5 H => ?_)))
          show wq_12 d Q 109 [oR 0 0, oR 9 l1, oR 7 l2, oI l3, oI l4] [] (sh_E h5)
          exact x_Calendar_firstUndone_b109 N hd hR k37 hk37 l1 l2 l3 l4 h5 H
        · replace H := sh_okF c H
          show wq_12 d Q 91 [oR 0 0, oR 9 l1, oR 7 l2, oI l3, oI l4] [] (sh_E h4)
          exact ai_WP_steps mc_12 (sh_CM d) 2 (hR l4 h4 H)
      · replace H := sh_okF c H
        exact x_Calendar_firstUndone_b109 N hd hR k37 hk37 l1 l2 l3 l4 h H
    · replace H := sh_okF c H
      exact hk115 l1 l2 l3 h H
def f_Calendar_firstUndone_b115 (N : Nat)  (k20 : Nat → Nat → Int32 → sh_H → Option (Int32 × sh_H)) (l1 : Nat) (l2 : Nat) (l3 : Int32) (h : sh_H) : Option (Int32 × sh_H) := k20 l1 l2 (l3 + (1 : Int32)) h
theorem x_Calendar_firstUndone_b115 (N : Nat) {d : Nat} (hd : 5 ≤ d) {Q : ai_Q} {R : Int32 × sh_H → Prop} (hR : ∀ r h, R (r, h) → Q (some (aI r)) (sh_E h))  (k20 : Nat → Nat → Int32 → sh_H → Option (Int32 × sh_H)) (hk20 : ∀ (l1 : Nat) (l2 : Nat) (l3 : Int32) {d4 : Option ai_V} (h : sh_H), sh_ok (k20 l1 l2 l3 h) R → wq_12 d Q 20 [oR 0 0, oR 9 l1, oR 7 l2, oI l3, d4] [] (sh_E h)) (l1 : Nat) (l2 : Nat) (l3 : Int32) {d4 : Option ai_V} (h : sh_H) (H : sh_ok (f_Calendar_firstUndone_b115 N k20 l1 l2 l3 h) R) : wq_12 d Q 115 [oR 0 0, oR 9 l1, oR 7 l2, oI l3, d4] [] (sh_E h) := by
  refine ai_WP_steps mc_12 (sh_CM d) 2 ?_
  exact hk20 l1 l2 (l3 + (1 : Int32)) h H
def f_Calendar_firstUndone_c20 (N : Nat)  (k121 : sh_H → Option (Int32 × sh_H)) (k20 : Nat → Nat → Int32 → sh_H → Option (Int32 × sh_H)) (l1 : Nat) (l2 : Nat) (l3 : Int32) (h : sh_H) : Option (Int32 × sh_H) := (if l3 < (240 : Int32) then (Option.bind (f_Rows_zero N 26 h) (fun h6 => f_Calendar_firstUndone_l37 N (f_Calendar_firstUndone_b115 N k20) N l1 l2 l3 (0 : Int32) h6)) else k121 h)
def f_Calendar_firstUndone_l20 (N : Nat)  (k121 : sh_H → Option (Int32 × sh_H)) (n : Nat) : Nat → Nat → Int32 → sh_H → Option (Int32 × sh_H) := Nat.rec (motive := fun _ => Nat → Nat → Int32 → sh_H → Option (Int32 × sh_H)) (fun _ _ _ _ => none) (fun _ k20 => f_Calendar_firstUndone_c20 N k121 k20) n
theorem x_Calendar_firstUndone_l20 (N : Nat) {d : Nat} (hd : 5 ≤ d) {Q : ai_Q} {R : Int32 × sh_H → Prop} (hR : ∀ r h, R (r, h) → Q (some (aI r)) (sh_E h))  (k121 : sh_H → Option (Int32 × sh_H)) (hk121 : ∀ {d1 d2 d3 d4 : Option ai_V} (h : sh_H), sh_ok (k121 h) R → wq_12 d Q 121 [oR 0 0, d1, d2, d3, d4] [] (sh_E h)) (n : Nat) : ∀ (l1 : Nat) (l2 : Nat) (l3 : Int32) {d4 : Option ai_V} (h : sh_H), sh_ok (f_Calendar_firstUndone_l20 N k121 n l1 l2 l3 h) R → wq_12 d Q 20 [oR 0 0, oR 9 l1, oR 7 l2, oI l3, d4] [] (sh_E h) := by
  induction n with
  | zero => intro l1 l2 l3 d4 h H; exact H.elim
  | succ n ih =>
    intro l1 l2 l3 d4 h H
    have hk20 := @ih
    replace H : sh_ok (f_Calendar_firstUndone_c20 N k121 (f_Calendar_firstUndone_l20 N k121 n) l1 l2 l3 h) R := H
    revert hk20 H
    generalize f_Calendar_firstUndone_l20 N k121 n = k20
    intro hk20 H
    refine ai_WP_steps mc_12 (sh_CM d) 3 (And.intro (fun c => ?_) (fun c => ?_))
    · replace H := sh_okT c H
      show wq_12 d Q 27 [oR 0 0, oR 9 l1, oR 7 l2, oI l3, _] [] (sh_E h)
      refine ai_WP_steps mc_12 (sh_CM d) 3 (And.intro (Nat.le_of_ble_eq_true rfl) (x_Rows_zero N (Nat.le_trans (Nat.le_of_ble_eq_true rfl) hd) 26 h (sh_okB H) (fun h6 H => ?_)))
      show wq_12 d Q 34 [oR 0 0, oR 9 l1, oR 7 l2, oI l3, _] [] (sh_E h6)
      refine ai_WP_steps mc_12 (sh_CM d) 2 ?_
      exact x_Calendar_firstUndone_l37 N hd hR (f_Calendar_firstUndone_b115 N k20) (fun z0 z1 z2 {e4} h H => x_Calendar_firstUndone_b115 N hd hR k20 hk20 z0 z1 z2 h H) N l1 l2 l3 (0 : Int32) h6 H
    · replace H := sh_okF c H
      exact hk121 h H
def f_Calendar_firstUndone_b121 (N : Nat)    (h : sh_H) : Option (Int32 × sh_H) := (sh_let (sh_pI h 0 0 2 (0 : Int32)) (fun h7 => (some ((-2 : Int32), h7))))
theorem x_Calendar_firstUndone_b121 (N : Nat) {d : Nat} (hd : 5 ≤ d) {Q : ai_Q} {R : Int32 × sh_H → Prop} (hR : ∀ r h, R (r, h) → Q (some (aI r)) (sh_E h))    {d1 d2 d3 d4 : Option ai_V} (h : sh_H) (H : sh_ok (f_Calendar_firstUndone_b121 N h) R) : wq_12 d Q 121 [oR 0 0, d1, d2, d3, d4] [] (sh_E h) := by
  refine ai_WP_steps mc_12 (sh_CM d) 3 (And.intro trivial ?_)
  show wq_12 d Q 126 [oR 0 0, _, _, _, _] [] (sh_E (sh_pI h 0 0 2 (0 : Int32)))
  replace H := sh_okL H
  generalize sh_pI h 0 0 2 (0 : Int32) = h7 at H ⊢
  exact ai_WP_steps mc_12 (sh_CM d) 2 (hR (-2 : Int32) h7 H)
def f_Calendar_firstUndone (N : Nat)  (l1 : Nat) (l2 : Nat) (h : sh_H) : Option (Int32 × sh_H) := (Option.bind (f_Pieces_copy N 3 l2 h) (fun h8 => (Option.bind (f_Math_max (0 : Int32) (h8.1 7 l2 4) h8) (fun v9 => f_Calendar_firstUndone_l20 N (f_Calendar_firstUndone_b121 N) N l1 l2 v9 h8))))
theorem x_Calendar_firstUndone (N : Nat) {d : Nat} (hd : 6 ≤ d) (l1 : Nat) (l2 : Nat) (h : sh_H) {Q : ai_Q} {R : Int32 × sh_H → Prop} (H : sh_ok (f_Calendar_firstUndone N l1 l2 h) R) (hR : ∀ r h, R (r, h) → Q (some (aI r)) (sh_E h)) : ai_Ex sh_T d 12 [aR 0 0, aR 9 l1, aR 7 l2] (sh_E h) Q := by
  obtain ⟨d, rfl⟩ : ∃ e, d = e + 1 := ⟨d - 1, by omega⟩
  replace hd : 5 ≤ d := by omega
  refine And.intro (Nat.le_of_ble_eq_true rfl) ?_
  show wq_12 d Q 0 [oR 0 0, oR 9 l1, oR 7 l2, none, none] [] (sh_E h)
  refine ai_WP_steps mc_12 (sh_CM d) 5 (And.intro (Nat.le_of_ble_eq_true rfl) (x_Pieces_copy N (Nat.le_trans (Nat.le_of_ble_eq_true rfl) hd) 3 l2 h (sh_okB H) (fun h8 H => ?_)))
  show wq_12 d Q 11 [oR 0 0, oR 9 l1, oR 7 l2, _, _] [] (sh_E h8)
  refine ai_WP_steps mc_12 (sh_CM d) 4 (And.intro (Nat.le_of_ble_eq_true rfl) (x_Math_max (Nat.le_trans (Nat.le_of_ble_eq_true rfl) hd) (0 : Int32) (h8.1 7 l2 4) h8 (sh_okB H) (fun v9 H => ?_)))
  show wq_12 d Q 19 [oR 0 0, oR 9 l1, oR 7 l2, _, _] [aI v9] (sh_E h8)
  refine ai_WP_steps mc_12 (sh_CM d) 1 ?_
  exact x_Calendar_firstUndone_l20 N hd hR (f_Calendar_firstUndone_b121 N) (fun {e1} {e2} {e3} {e4} h H => x_Calendar_firstUndone_b121 N hd hR  h H) N l1 l2 v9 h8 H
def f_Calendar_reason   (h : sh_H) : Option Int32 := (some (h.1 0 0 2))
theorem x_Calendar_reason {d : Nat} (hd : 1 ≤ d)  (h : sh_H) {Q : ai_Q} {R : Int32 → Prop} (H : sh_ok (f_Calendar_reason h) R) (hR : ∀ r, R r → Q (some (aI r)) (sh_E h)) : ai_Ex sh_T d 13 [aR 0 0] (sh_E h) Q := by
  obtain ⟨d, rfl⟩ : ∃ e, d = e + 1 := ⟨d - 1, by omega⟩
  replace hd : 0 ≤ d := by omega
  refine And.intro (Nat.le_of_ble_eq_true rfl) ?_
  show wq_13 d Q 0 [oR 0 0] [] (sh_E h)
  exact ai_WP_steps mc_13 (sh_CM d) 3 (hR (h.1 0 0 2) H)
def f_Rows_isFull  (l0 : Nat) (h : sh_H) : Option Int32 := (if (h.1 6 l0 3) < (h.1 6 l0 0) then (some (ai_nar 1 (0 : Int32))) else (some (ai_nar 1 (1 : Int32))))
theorem x_Rows_isFull {d : Nat} (hd : 1 ≤ d) (l0 : Nat) (h : sh_H) {Q : ai_Q} {R : Int32 → Prop} (H : sh_ok (f_Rows_isFull l0 h) R) (hR : ∀ r, R r → Q (some (aI r)) (sh_E h)) : ai_Ex sh_T d 99 [aR 6 l0] (sh_E h) Q := by
  obtain ⟨d, rfl⟩ : ∃ e, d = e + 1 := ⟨d - 1, by omega⟩
  replace hd : 0 ≤ d := by omega
  refine And.intro (Nat.le_of_ble_eq_true rfl) ?_
  show wq_99 d Q 0 [oR 6 l0] [] (sh_E h)
  refine ai_WP_steps mc_99 (sh_CM d) 5 (And.intro (fun c => ?_) (fun c => ?_))
  · replace H := sh_okT c H
    show wq_99 d Q 15 [oR 6 l0] [] (sh_E h)
    exact ai_WP_steps mc_99 (sh_CM d) 2 (hR (ai_nar 1 (0 : Int32)) H)
  · replace H := sh_okF c H
    show wq_99 d Q 11 [oR 6 l0] [] (sh_E h)
    exact ai_WP_steps mc_99 (sh_CM d) 3 (hR (ai_nar 1 (1 : Int32)) H)
def f_Rows_add_c21 (N : Nat)  (k47 : Nat → sh_H → Option (Int32 × sh_H)) (k21 : Nat → Int32 → sh_H → Option (Int32 × sh_H)) (l0 : Nat) (l1 : Int32) (h : sh_H) : Option (Int32 × sh_H) := (if l1 < (h.1 6 l0 1) then (Option.bind (f_Rows_put l0 ((h.1 6 l0 3) - (1 : Int32)) l1 (0 : Int32) h) (fun h1 => k21 l0 (l1 + (1 : Int32)) h1)) else k47 l0 h)
def f_Rows_add_l21 (N : Nat)  (k47 : Nat → sh_H → Option (Int32 × sh_H)) (n : Nat) : Nat → Int32 → sh_H → Option (Int32 × sh_H) := Nat.rec (motive := fun _ => Nat → Int32 → sh_H → Option (Int32 × sh_H)) (fun _ _ _ => none) (fun _ k21 => f_Rows_add_c21 N k47 k21) n
theorem x_Rows_add_l21 (N : Nat) {d : Nat} (hd : 2 ≤ d) {Q : ai_Q} {R : Int32 × sh_H → Prop} (hR : ∀ r h, R (r, h) → Q (some (aI r)) (sh_E h))  (k47 : Nat → sh_H → Option (Int32 × sh_H)) (hk47 : ∀ (l0 : Nat) {d1 : Option ai_V} (h : sh_H), sh_ok (k47 l0 h) R → wq_100 d Q 47 [oR 6 l0, d1] [] (sh_E h)) (n : Nat) : ∀ (l0 : Nat) (l1 : Int32) (h : sh_H), sh_ok (f_Rows_add_l21 N k47 n l0 l1 h) R → wq_100 d Q 21 [oR 6 l0, oI l1] [] (sh_E h) := by
  induction n with
  | zero => intro l0 l1 h H; exact H.elim
  | succ n ih =>
    intro l0 l1 h H
    have hk21 := @ih
    replace H : sh_ok (f_Rows_add_c21 N k47 (f_Rows_add_l21 N k47 n) l0 l1 h) R := H
    revert hk21 H
    generalize f_Rows_add_l21 N k47 n = k21
    intro hk21 H
    refine ai_WP_steps mc_100 (sh_CM d) 4 (And.intro (fun c => ?_) (fun c => ?_))
    · replace H := sh_okT c H
      show wq_100 d Q 29 [oR 6 l0, oI l1] [] (sh_E h)
      refine ai_WP_steps mc_100 (sh_CM d) 8 (And.intro (Nat.le_of_ble_eq_true rfl) (x_Rows_put (Nat.le_trans (Nat.le_of_ble_eq_true rfl) hd) l0 ((h.1 6 l0 3) - (1 : Int32)) l1 (0 : Int32) h (sh_okB H) (fun h1 H => ?_)))
      show wq_100 d Q 41 [oR 6 l0, oI l1] [] (sh_E h1)
      refine ai_WP_steps mc_100 (sh_CM d) 2 ?_
      exact hk21 l0 (l1 + (1 : Int32)) h1 H
    · replace H := sh_okF c H
      exact hk47 l0 h H
def f_Rows_add_b47 (N : Nat)   (l0 : Nat) (h : sh_H) : Option (Int32 × sh_H) := (some (((h.1 6 l0 3) - (1 : Int32)), h))
theorem x_Rows_add_b47 (N : Nat) {d : Nat} (hd : 2 ≤ d) {Q : ai_Q} {R : Int32 × sh_H → Prop} (hR : ∀ r h, R (r, h) → Q (some (aI r)) (sh_E h))   (l0 : Nat) {d1 : Option ai_V} (h : sh_H) (H : sh_ok (f_Rows_add_b47 N l0 h) R) : wq_100 d Q 47 [oR 6 l0, d1] [] (sh_E h) := by
  exact ai_WP_steps mc_100 (sh_CM d) 5 (hR ((h.1 6 l0 3) - (1 : Int32)) h H)
def f_Rows_add (N : Nat)  (l0 : Nat) (h : sh_H) : Option (Int32 × sh_H) := (Option.bind (f_Rows_isFull l0 h) (fun v2 => (if v2 = 0 then (sh_let (sh_pI h 6 l0 3 ((h.1 6 l0 3) + (1 : Int32))) (fun h3 => f_Rows_add_l21 N (f_Rows_add_b47 N) N l0 (0 : Int32) h3)) else (some ((-1 : Int32), h)))))
theorem x_Rows_add (N : Nat) {d : Nat} (hd : 3 ≤ d) (l0 : Nat) (h : sh_H) {Q : ai_Q} {R : Int32 × sh_H → Prop} (H : sh_ok (f_Rows_add N l0 h) R) (hR : ∀ r h, R (r, h) → Q (some (aI r)) (sh_E h)) : ai_Ex sh_T d 100 [aR 6 l0] (sh_E h) Q := by
  obtain ⟨d, rfl⟩ : ∃ e, d = e + 1 := ⟨d - 1, by omega⟩
  replace hd : 2 ≤ d := by omega
  refine And.intro (Nat.le_of_ble_eq_true rfl) ?_
  show wq_100 d Q 0 [oR 6 l0, none] [] (sh_E h)
  refine ai_WP_steps mc_100 (sh_CM d) 2 (And.intro (Nat.le_of_ble_eq_true rfl) (x_Rows_isFull (Nat.le_trans (Nat.le_of_ble_eq_true rfl) hd) l0 h (sh_okB H) (fun v2 H => ?_)))
  show wq_100 d Q 4 [oR 6 l0, _] [aI v2] (sh_E h)
  refine ai_WP_steps mc_100 (sh_CM d) 1 (And.intro (fun c => ?_) (fun c => ?_))
  · replace H := sh_okT c H
    show wq_100 d Q 9 [oR 6 l0, _] [] (sh_E h)
    refine ai_WP_steps mc_100 (sh_CM d) 6 (And.intro trivial ?_)
    show wq_100 d Q 19 [oR 6 l0, _] [] (sh_E (sh_pI h 6 l0 3 ((h.1 6 l0 3) + (1 : Int32))))
    replace H := sh_okL H
    generalize sh_pI h 6 l0 3 ((h.1 6 l0 3) + (1 : Int32)) = h3 at H ⊢
    refine ai_WP_steps mc_100 (sh_CM d) 2 ?_
    exact x_Rows_add_l21 N hd hR (f_Rows_add_b47 N) (fun z0 {e1} h H => x_Rows_add_b47 N hd hR z0 h H) N l0 (0 : Int32) h3 H
  · replace H := sh_okF c H
    show wq_100 d Q 7 [oR 6 l0, _] [] (sh_E h)
    exact ai_WP_steps mc_100 (sh_CM d) 2 (hR (-1 : Int32) h H)
def f_Rows_clear  (l0 : Nat) (h : sh_H) : Option sh_H := (sh_let (sh_pI h 6 l0 3 (0 : Int32)) (fun h1 => (some h1)))
theorem x_Rows_clear {d : Nat} (hd : 1 ≤ d) (l0 : Nat) (h : sh_H) {Q : ai_Q} {R : sh_H → Prop} (H : sh_ok (f_Rows_clear l0 h) R) (hR : ∀ h, R h → Q none (sh_E h)) : ai_Ex sh_T d 104 [aR 6 l0] (sh_E h) Q := by
  obtain ⟨d, rfl⟩ : ∃ e, d = e + 1 := ⟨d - 1, by omega⟩
  replace hd : 0 ≤ d := by omega
  refine And.intro (Nat.le_of_ble_eq_true rfl) ?_
  show wq_104 d Q 0 [oR 6 l0] [] (sh_E h)
  refine ai_WP_steps mc_104 (sh_CM d) 3 (And.intro trivial ?_)
  show wq_104 d Q 5 [oR 6 l0] [] (sh_E (sh_pI h 6 l0 3 (0 : Int32)))
  replace H := sh_okL H
  generalize sh_pI h 6 l0 3 (0 : Int32) = h1 at H ⊢
  exact ai_WP_steps mc_104 (sh_CM d) 1 (hR h1 H)
def f_Coins_look_c10 (N : Nat)   (k10 : Nat → Nat → Int32 → Int32 → Int32 → sh_H → Option sh_H) (l1 : Nat) (l2 : Nat) (l3 : Int32) (l4 : Int32) (l5 : Int32) (h : sh_H) : Option sh_H := (Option.bind (f_Rows_size (7 * l1 + 0) h) (fun v1 => (if l5 < v1 then (sh_b2 (f_Rows_add N 28 h) (fun v2 h3 => (Option.bind (f_Rows_get (7 * l1 + 0) l5 (0 : Int32) h3) (fun v4 => (Option.bind (f_Rows_put 28 v2 (0 : Int32) v4 h3) (fun h5 => (Option.bind (f_Pieces_all N l2 l3 l5 h5) (fun v6 => (Option.bind (f_Rows_put 28 v2 (1 : Int32) v6 h5) (fun h7 => (Option.bind (f_Rows_put 28 v2 (2 : Int32) l4 h7) (fun h8 => k10 l1 l2 l3 l4 (l5 + (1 : Int32)) h8)))))))))))) else (some h))))
def f_Coins_look_l10 (N : Nat)   (n : Nat) : Nat → Nat → Int32 → Int32 → Int32 → sh_H → Option sh_H := Nat.rec (motive := fun _ => Nat → Nat → Int32 → Int32 → Int32 → sh_H → Option sh_H) (fun _ _ _ _ _ _ => none) (fun _ k10 => f_Coins_look_c10 N k10) n
theorem x_Coins_look_l10 (N : Nat) {d : Nat} (hd : 4 ≤ d) {Q : ai_Q} {R : sh_H → Prop} (hR : ∀ h, R h → Q none (sh_E h))   (n : Nat) : ∀ (l1 : Nat) (l2 : Nat) (l3 : Int32) (l4 : Int32) (l5 : Int32) {d6 : Option ai_V} (h : sh_H), sh_ok (f_Coins_look_l10 N n l1 l2 l3 l4 l5 h) R → wq_17 d Q 10 [oR 1 0, oR 9 l1, oR 4 l2, oI l3, oI l4, oI l5, d6] [] (sh_E h) := by
  induction n with
  | zero => intro l1 l2 l3 l4 l5 d6 h H; exact H.elim
  | succ n ih =>
    intro l1 l2 l3 l4 l5 d6 h H
    have hk10 := @ih
    replace H : sh_ok (f_Coins_look_c10 N (f_Coins_look_l10 N n) l1 l2 l3 l4 l5 h) R := H
    revert hk10 H
    generalize f_Coins_look_l10 N n = k10
    intro hk10 H
    refine ai_WP_steps mc_17 (sh_CM d) 4 (And.intro (Nat.le_of_ble_eq_true rfl) (x_Rows_size (Nat.le_trans (Nat.le_of_ble_eq_true rfl) hd) (7 * l1 + 0) h (sh_okB H) (fun v1 H => ?_)))
    show wq_17 d Q 19 [oR 1 0, oR 9 l1, oR 4 l2, oI l3, oI l4, oI l5, _] [aI v1, aI l5] (sh_E h)
    refine ai_WP_steps mc_17 (sh_CM d) 1 (And.intro (fun c => ?_) (fun c => ?_))
    · replace H := sh_okT c H
      show wq_17 d Q 22 [oR 1 0, oR 9 l1, oR 4 l2, oI l3, oI l4, oI l5, _] [] (sh_E h)
      refine ai_WP_steps mc_17 (sh_CM d) 3 (And.intro (Nat.le_of_ble_eq_true rfl) (x_Rows_add N (Nat.le_trans (Nat.le_of_ble_eq_true rfl) hd) 28 h (sh_okB H) (fun v2 h3 H => ?_)))
      show wq_17 d Q 29 [oR 1 0, oR 9 l1, oR 4 l2, oI l3, oI l4, oI l5, _] [aI v2] (sh_E h3)
      refine ai_WP_steps mc_17 (sh_CM d) 10 (And.intro (Nat.le_of_ble_eq_true rfl) (x_Rows_get (Nat.le_trans (Nat.le_of_ble_eq_true rfl) hd) (7 * l1 + 0) l5 (0 : Int32) h3 (sh_okB H) (fun v4 H => ?_)))
      show wq_17 d Q 48 [oR 1 0, oR 9 l1, oR 4 l2, oI l3, oI l4, oI l5, oI v2] [aI v4, aI (0 : Int32), aI v2, aR 6 28] (sh_E h3)
      refine ai_WP_steps mc_17 (sh_CM d) 1 (And.intro (Nat.le_of_ble_eq_true rfl) (x_Rows_put (Nat.le_trans (Nat.le_of_ble_eq_true rfl) hd) 28 v2 (0 : Int32) v4 h3 (sh_okB H) (fun h5 H => ?_)))
      show wq_17 d Q 51 [oR 1 0, oR 9 l1, oR 4 l2, oI l3, oI l4, oI l5, oI v2] [] (sh_E h5)
      refine ai_WP_steps mc_17 (sh_CM d) 8 (And.intro (Nat.le_of_ble_eq_true rfl) (x_Pieces_all N (Nat.le_trans (Nat.le_of_ble_eq_true rfl) hd) l2 l3 l5 h5 (sh_okB H) (fun v6 H => ?_)))
      show wq_17 d Q 65 [oR 1 0, oR 9 l1, oR 4 l2, oI l3, oI l4, oI l5, oI v2] [aI v6, aI (1 : Int32), aI v2, aR 6 28] (sh_E h5)
      refine ai_WP_steps mc_17 (sh_CM d) 1 (And.intro (Nat.le_of_ble_eq_true rfl) (x_Rows_put (Nat.le_trans (Nat.le_of_ble_eq_true rfl) hd) 28 v2 (1 : Int32) v6 h5 (sh_okB H) (fun h7 H => ?_)))
      show wq_17 d Q 68 [oR 1 0, oR 9 l1, oR 4 l2, oI l3, oI l4, oI l5, oI v2] [] (sh_E h7)
      refine ai_WP_steps mc_17 (sh_CM d) 6 (And.intro (Nat.le_of_ble_eq_true rfl) (x_Rows_put (Nat.le_trans (Nat.le_of_ble_eq_true rfl) hd) 28 v2 (2 : Int32) l4 h7 (sh_okB H) (fun h8 H => ?_)))
      show wq_17 d Q 80 [oR 1 0, oR 9 l1, oR 4 l2, oI l3, oI l4, oI l5, oI v2] [] (sh_E h8)
      refine ai_WP_steps mc_17 (sh_CM d) 2 ?_
      exact hk10 l1 l2 l3 l4 (l5 + (1 : Int32)) h8 H
    · replace H := sh_okF c H
      show wq_17 d Q 86 [oR 1 0, oR 9 l1, oR 4 l2, oI l3, oI l4, oI l5, _] [] (sh_E h)
      exact ai_WP_steps mc_17 (sh_CM d) 1 (hR h H)
def f_Coins_look (N : Nat)  (l1 : Nat) (l2 : Nat) (l3 : Int32) (l4 : Int32) (h : sh_H) : Option sh_H := (Option.bind (f_Rows_clear 28 h) (fun h9 => f_Coins_look_l10 N N l1 l2 l3 l4 (0 : Int32) h9))
theorem x_Coins_look (N : Nat) {d : Nat} (hd : 5 ≤ d) (l1 : Nat) (l2 : Nat) (l3 : Int32) (l4 : Int32) (h : sh_H) {Q : ai_Q} {R : sh_H → Prop} (H : sh_ok (f_Coins_look N l1 l2 l3 l4 h) R) (hR : ∀ h, R h → Q none (sh_E h)) : ai_Ex sh_T d 17 [aR 1 0, aR 9 l1, aR 4 l2, aI l3, aI l4] (sh_E h) Q := by
  obtain ⟨d, rfl⟩ : ∃ e, d = e + 1 := ⟨d - 1, by omega⟩
  replace hd : 4 ≤ d := by omega
  refine And.intro (Nat.le_of_ble_eq_true rfl) ?_
  show wq_17 d Q 0 [oR 1 0, oR 9 l1, oR 4 l2, oI l3, oI l4, none, none] [] (sh_E h)
  refine ai_WP_steps mc_17 (sh_CM d) 3 (And.intro (Nat.le_of_ble_eq_true rfl) (x_Rows_clear (Nat.le_trans (Nat.le_of_ble_eq_true rfl) hd) 28 h (sh_okB H) (fun h9 H => ?_)))
  show wq_17 d Q 7 [oR 1 0, oR 9 l1, oR 4 l2, oI l3, oI l4, _, _] [] (sh_E h9)
  refine ai_WP_steps mc_17 (sh_CM d) 2 ?_
  exact x_Coins_look_l10 N hd hR N l1 l2 l3 l4 (0 : Int32) h9 H
def f_Coins_at_b16    (h : sh_H) : Option Int32 := (some (1048576 : Int32))
theorem x_Coins_at_b16 {d : Nat} (hd : 0 ≤ d) (h : sh_H) {Q : ai_Q} {R : Int32 → Prop} (hR : ∀ r, R r → Q (some (aI r)) (sh_E h))    {d0 d1 : Option ai_V} (H : sh_ok (f_Coins_at_b16 h) R) : wq_32 d Q 16 [d0, d1] [] (sh_E h) := by
  exact ai_WP_steps mc_32 (sh_CM d) 2 (hR (1048576 : Int32) H)
def f_Coins_at  (l0 : Nat) (l1 : Int32) (h : sh_H) : Option Int32 := (if l1 < 0 then f_Coins_at_b16 h else (if l1 < (Int32.ofNat (sh_l13 l0)) then (if ai_in l1 (sh_l13 l0) then (some (h.1 13 l0 l1.toNatClampNeg)) else none) else f_Coins_at_b16 h))
theorem x_Coins_at {d : Nat} (hd : 1 ≤ d) (l0 : Nat) (l1 : Int32) (h : sh_H) {Q : ai_Q} {R : Int32 → Prop} (H : sh_ok (f_Coins_at l0 l1 h) R) (hR : ∀ r, R r → Q (some (aI r)) (sh_E h)) : ai_Ex sh_T d 32 [aR 13 l0, aI l1] (sh_E h) Q := by
  obtain ⟨d, rfl⟩ : ∃ e, d = e + 1 := ⟨d - 1, by omega⟩
  replace hd : 0 ≤ d := by omega
  refine And.intro (Nat.le_of_ble_eq_true rfl) ?_
  show wq_32 d Q 0 [oR 13 l0, oI l1] [] (sh_E h)
  refine ai_WP_steps mc_32 (sh_CM d) 2 (And.intro (fun c => ?_) (fun c => ?_))
  · replace H := sh_okT c H
    exact x_Coins_at_b16 hd h hR H
  · replace H := sh_okF c H
    show wq_32 d Q 4 [oR 13 l0, oI l1] [] (sh_E h)
    refine ai_WP_steps mc_32 (sh_CM d) 4 (And.intro (fun c => ?_) (fun c => ?_))
    · replace H := sh_okT c H
      show wq_32 d Q 10 [oR 13 l0, oI l1] [] (sh_E h)
      have c := sh_okG H
      replace H := sh_okH H
      refine ai_WP_steps mc_32 (sh_CM d) 3 (And.intro c ?_)
      show wq_32 d Q 13 [oR 13 l0, oI l1] [aI (h.1 13 l0 l1.toNatClampNeg)] (sh_E h)
      exact ai_WP_steps mc_32 (sh_CM d) 2 (hR (h.1 13 l0 l1.toNatClampNeg) H)
    · replace H := sh_okF c H
      exact x_Coins_at_b16 hd h hR H
def f_Coins_addEndless_c6 (N : Nat)   (k6 : Nat → Int32 → Int32 → Int32 → sh_H → Option sh_H) (l0 : Nat) (l1 : Int32) (l2 : Int32) (l3 : Int32) (h : sh_H) : Option sh_H := (if l2 < l3 then (some h) else (if l3 < (Int32.ofNat (sh_l13 l0)) then (if ai_in l3 (sh_l13 l0) then (Option.bind (f_Coins_at l0 (l3 - l1) h) (fun v1 => (Option.bind (f_Math_min (h.1 13 l0 l3.toNatClampNeg) (v1 + (1 : Int32)) h) (fun v2 => (if ai_in l3 (sh_l13 l0) then (sh_let (sh_pI h 13 l0 l3.toNatClampNeg v2) (fun h3 => k6 l0 l1 l2 (l3 + (1 : Int32)) h3)) else none))))) else none) else (some h)))
def f_Coins_addEndless_l6 (N : Nat)   (n : Nat) : Nat → Int32 → Int32 → Int32 → sh_H → Option sh_H := Nat.rec (motive := fun _ => Nat → Int32 → Int32 → Int32 → sh_H → Option sh_H) (fun _ _ _ _ _ => none) (fun _ k6 => f_Coins_addEndless_c6 N k6) n
theorem x_Coins_addEndless_l6 (N : Nat) {d : Nat} (hd : 1 ≤ d) {Q : ai_Q} {R : sh_H → Prop} (hR : ∀ h, R h → Q none (sh_E h))   (n : Nat) : ∀ (l0 : Nat) (l1 : Int32) (l2 : Int32) (l3 : Int32) (h : sh_H), sh_ok (f_Coins_addEndless_l6 N n l0 l1 l2 l3 h) R → wq_30 d Q 6 [oR 13 l0, oI l1, oI l2, oI l3] [] (sh_E h) := by
  induction n with
  | zero => intro l0 l1 l2 l3 h H; exact H.elim
  | succ n ih =>
    intro l0 l1 l2 l3 h H
    have hk6 := @ih
    replace H : sh_ok (f_Coins_addEndless_c6 N (f_Coins_addEndless_l6 N n) l0 l1 l2 l3 h) R := H
    revert hk6 H
    generalize f_Coins_addEndless_l6 N n = k6
    intro hk6 H
    refine ai_WP_steps mc_30 (sh_CM d) 3 (And.intro (fun c => ?_) (fun c => ?_))
    · replace H := sh_okT c H
      show wq_30 d Q 41 [oR 13 l0, oI l1, oI l2, oI l3] [] (sh_E h)
      exact ai_WP_steps mc_30 (sh_CM d) 1 (hR h H)
    · replace H := sh_okF c H
      show wq_30 d Q 11 [oR 13 l0, oI l1, oI l2, oI l3] [] (sh_E h)
      refine ai_WP_steps mc_30 (sh_CM d) 4 (And.intro (fun c => ?_) (fun c => ?_))
      · replace H := sh_okT c H
        show wq_30 d Q 17 [oR 13 l0, oI l1, oI l2, oI l3] [] (sh_E h)
        have c := sh_okG H
        replace H := sh_okH H
        refine ai_WP_steps mc_30 (sh_CM d) 5 (And.intro c ?_)
        show wq_30 d Q 22 [oR 13 l0, oI l1, oI l2, oI l3] [aI (h.1 13 l0 l3.toNatClampNeg), aI l3, aR 13 l0] (sh_E h)
        refine ai_WP_steps mc_30 (sh_CM d) 5 (And.intro (Nat.le_of_ble_eq_true rfl) (x_Coins_at (Nat.le_trans (Nat.le_of_ble_eq_true rfl) hd) l0 (l3 - l1) h (sh_okB H) (fun v1 H => ?_)))
        show wq_30 d Q 29 [oR 13 l0, oI l1, oI l2, oI l3] [aI v1, aI (h.1 13 l0 l3.toNatClampNeg), aI l3, aR 13 l0] (sh_E h)
        refine ai_WP_steps mc_30 (sh_CM d) 3 (And.intro (Nat.le_of_ble_eq_true rfl) (x_Math_min (Nat.le_trans (Nat.le_of_ble_eq_true rfl) hd) (h.1 13 l0 l3.toNatClampNeg) (v1 + (1 : Int32)) h (sh_okB H) (fun v2 H => ?_)))
        show wq_30 d Q 34 [oR 13 l0, oI l1, oI l2, oI l3] [aI v2, aI l3, aR 13 l0] (sh_E h)
        have c := sh_okG H
        replace H := sh_okH H
        refine ai_WP_steps mc_30 (sh_CM d) 1 (And.intro c ?_)
        show wq_30 d Q 35 [oR 13 l0, oI l1, oI l2, oI l3] [] (sh_E (sh_pI h 13 l0 l3.toNatClampNeg v2))
        replace H := sh_okL H
        generalize sh_pI h 13 l0 l3.toNatClampNeg v2 = h3 at H ⊢
        refine ai_WP_steps mc_30 (sh_CM d) 2 ?_
        exact hk6 l0 l1 l2 (l3 + (1 : Int32)) h3 H
      · replace H := sh_okF c H
        show wq_30 d Q 41 [oR 13 l0, oI l1, oI l2, oI l3] [] (sh_E h)
        exact ai_WP_steps mc_30 (sh_CM d) 1 (hR h H)
def f_Coins_addEndless (N : Nat)  (l0 : Nat) (l1 : Int32) (l2 : Int32) (h : sh_H) : Option sh_H := (Option.bind (f_Math_max (1 : Int32) l1 h) (fun v4 => f_Coins_addEndless_l6 N N l0 l1 l2 v4 h))
theorem x_Coins_addEndless (N : Nat) {d : Nat} (hd : 2 ≤ d) (l0 : Nat) (l1 : Int32) (l2 : Int32) (h : sh_H) {Q : ai_Q} {R : sh_H → Prop} (H : sh_ok (f_Coins_addEndless N l0 l1 l2 h) R) (hR : ∀ h, R h → Q none (sh_E h)) : ai_Ex sh_T d 30 [aR 13 l0, aI l1, aI l2] (sh_E h) Q := by
  obtain ⟨d, rfl⟩ : ∃ e, d = e + 1 := ⟨d - 1, by omega⟩
  replace hd : 1 ≤ d := by omega
  refine And.intro (Nat.le_of_ble_eq_true rfl) ?_
  show wq_30 d Q 0 [oR 13 l0, oI l1, oI l2, none] [] (sh_E h)
  refine ai_WP_steps mc_30 (sh_CM d) 3 (And.intro (Nat.le_of_ble_eq_true rfl) (x_Math_max (Nat.le_trans (Nat.le_of_ble_eq_true rfl) hd) (1 : Int32) l1 h (sh_okB H) (fun v4 H => ?_)))
  show wq_30 d Q 5 [oR 13 l0, oI l1, oI l2, _] [aI v4] (sh_E h)
  refine ai_WP_steps mc_30 (sh_CM d) 1 ?_
  exact x_Coins_addEndless_l6 N hd hR N l0 l1 l2 v4 h H
def f_Coins_addLumps_c44 (N : Nat)  (k84 : Nat → Int32 → Int32 → Int32 → Int32 → Int32 → sh_H → Option sh_H) (k44 : Nat → Int32 → Int32 → Int32 → Int32 → Int32 → Int32 → Int32 → sh_H → Option sh_H) (l0 : Nat) (l1 : Int32) (l3 : Int32) (l4 : Int32) (l5 : Int32) (l6 : Int32) (l7 : Int32) (l8 : Int32) (h : sh_H) : Option sh_H := (Option.bind (f_Math_max (1 : Int32) l7 h) (fun v1 => (if l8 < v1 then k84 l0 l1 l3 l4 l5 l6 h else (if ai_in l8 (sh_l13 l0) then (Option.bind (f_Coins_at l0 (l8 - l7) h) (fun v2 => (Option.bind (f_Math_min (h.1 13 l0 l8.toNatClampNeg) (v2 + l6) h) (fun v3 => (if ai_in l8 (sh_l13 l0) then (sh_let (sh_pI h 13 l0 l8.toNatClampNeg v3) (fun h4 => k44 l0 l1 l3 l4 l5 l6 l7 (l8 + (-1 : Int32)) h4)) else none))))) else none))))
def f_Coins_addLumps_l44 (N : Nat)  (k84 : Nat → Int32 → Int32 → Int32 → Int32 → Int32 → sh_H → Option sh_H) (n : Nat) : Nat → Int32 → Int32 → Int32 → Int32 → Int32 → Int32 → Int32 → sh_H → Option sh_H := Nat.rec (motive := fun _ => Nat → Int32 → Int32 → Int32 → Int32 → Int32 → Int32 → Int32 → sh_H → Option sh_H) (fun _ _ _ _ _ _ _ _ _ => none) (fun _ k44 => f_Coins_addLumps_c44 N k84 k44) n
theorem x_Coins_addLumps_l44 (N : Nat) {d : Nat} (hd : 1 ≤ d) {Q : ai_Q} {R : sh_H → Prop} (hR : ∀ h, R h → Q none (sh_E h))  (k84 : Nat → Int32 → Int32 → Int32 → Int32 → Int32 → sh_H → Option sh_H) (hk84 : ∀ (l0 : Nat) (l1 : Int32) (l3 : Int32) (l4 : Int32) (l5 : Int32) (l6 : Int32) {d2 d7 d8 : Option ai_V} (h : sh_H), sh_ok (k84 l0 l1 l3 l4 l5 l6 h) R → wq_31 d Q 84 [oR 13 l0, oI l1, d2, oI l3, oI l4, oI l5, oI l6, d7, d8] [] (sh_E h)) (n : Nat) : ∀ (l0 : Nat) (l1 : Int32) (l3 : Int32) (l4 : Int32) (l5 : Int32) (l6 : Int32) (l7 : Int32) (l8 : Int32) {d2 : Option ai_V} (h : sh_H), sh_ok (f_Coins_addLumps_l44 N k84 n l0 l1 l3 l4 l5 l6 l7 l8 h) R → wq_31 d Q 44 [oR 13 l0, oI l1, d2, oI l3, oI l4, oI l5, oI l6, oI l7, oI l8] [] (sh_E h) := by
  induction n with
  | zero => intro l0 l1 l3 l4 l5 l6 l7 l8 d2 h H; exact H.elim
  | succ n ih =>
    intro l0 l1 l3 l4 l5 l6 l7 l8 d2 h H
    have hk44 := @ih
    replace H : sh_ok (f_Coins_addLumps_c44 N k84 (f_Coins_addLumps_l44 N k84 n) l0 l1 l3 l4 l5 l6 l7 l8 h) R := H
    revert hk44 H
    generalize f_Coins_addLumps_l44 N k84 n = k44
    intro hk44 H
    refine ai_WP_steps mc_31 (sh_CM d) 4 (And.intro (Nat.le_of_ble_eq_true rfl) (x_Math_max (Nat.le_trans (Nat.le_of_ble_eq_true rfl) hd) (1 : Int32) l7 h (sh_okB H) (fun v1 H => ?_)))
    show wq_31 d Q 52 [oR 13 l0, oI l1, _, oI l3, oI l4, oI l5, oI l6, oI l7, oI l8] [aI v1, aI l8] (sh_E h)
    refine ai_WP_steps mc_31 (sh_CM d) 1 (And.intro (fun c => ?_) (fun c => ?_))
    · replace H := sh_okT c H
      exact hk84 l0 l1 l3 l4 l5 l6 h H
    · replace H := sh_okF c H
      show wq_31 d Q 55 [oR 13 l0, oI l1, _, oI l3, oI l4, oI l5, oI l6, oI l7, oI l8] [] (sh_E h)
      have c := sh_okG H
      replace H := sh_okH H
      refine ai_WP_steps mc_31 (sh_CM d) 5 (And.intro c ?_)
      show wq_31 d Q 62 [oR 13 l0, oI l1, _, oI l3, oI l4, oI l5, oI l6, oI l7, oI l8] [aI (h.1 13 l0 l8.toNatClampNeg), aI l8, aR 13 l0] (sh_E h)
      refine ai_WP_steps mc_31 (sh_CM d) 5 (And.intro (Nat.le_of_ble_eq_true rfl) (x_Coins_at (Nat.le_trans (Nat.le_of_ble_eq_true rfl) hd) l0 (l8 - l7) h (sh_okB H) (fun v2 H => ?_)))
      show wq_31 d Q 71 [oR 13 l0, oI l1, _, oI l3, oI l4, oI l5, oI l6, oI l7, oI l8] [aI v2, aI (h.1 13 l0 l8.toNatClampNeg), aI l8, aR 13 l0] (sh_E h)
      refine ai_WP_steps mc_31 (sh_CM d) 3 (And.intro (Nat.le_of_ble_eq_true rfl) (x_Math_min (Nat.le_trans (Nat.le_of_ble_eq_true rfl) hd) (h.1 13 l0 l8.toNatClampNeg) (v2 + l6) h (sh_okB H) (fun v3 H => ?_)))
      show wq_31 d Q 77 [oR 13 l0, oI l1, _, oI l3, oI l4, oI l5, oI l6, oI l7, oI l8] [aI v3, aI l8, aR 13 l0] (sh_E h)
      have c := sh_okG H
      replace H := sh_okH H
      refine ai_WP_steps mc_31 (sh_CM d) 1 (And.intro c ?_)
      show wq_31 d Q 78 [oR 13 l0, oI l1, _, oI l3, oI l4, oI l5, oI l6, oI l7, oI l8] [] (sh_E (sh_pI h 13 l0 l8.toNatClampNeg v3))
      replace H := sh_okL H
      generalize sh_pI h 13 l0 l8.toNatClampNeg v3 = h4 at H ⊢
      refine ai_WP_steps mc_31 (sh_CM d) 2 ?_
      exact hk44 l0 l1 l3 l4 l5 l6 l7 (l8 + (-1 : Int32)) h4 H
def f_Coins_addLumps_b84 (N : Nat)  (k6 : Nat → Int32 → Int32 → Int32 → Int32 → sh_H → Option sh_H) (l0 : Nat) (l1 : Int32) (l3 : Int32) (l4 : Int32) (l5 : Int32) (l6 : Int32) (h : sh_H) : Option sh_H := k6 l0 l1 l3 (l4 - l6) (l5 * (2 : Int32)) h
theorem x_Coins_addLumps_b84 (N : Nat) {d : Nat} (hd : 1 ≤ d) {Q : ai_Q} {R : sh_H → Prop} (hR : ∀ h, R h → Q none (sh_E h))  (k6 : Nat → Int32 → Int32 → Int32 → Int32 → sh_H → Option sh_H) (hk6 : ∀ (l0 : Nat) (l1 : Int32) (l3 : Int32) (l4 : Int32) (l5 : Int32) {d2 d6 d7 d8 : Option ai_V} (h : sh_H), sh_ok (k6 l0 l1 l3 l4 l5 h) R → wq_31 d Q 6 [oR 13 l0, oI l1, d2, oI l3, oI l4, oI l5, d6, d7, d8] [] (sh_E h)) (l0 : Nat) (l1 : Int32) (l3 : Int32) (l4 : Int32) (l5 : Int32) (l6 : Int32) {d2 d7 d8 : Option ai_V} (h : sh_H) (H : sh_ok (f_Coins_addLumps_b84 N k6 l0 l1 l3 l4 l5 l6 h) R) : wq_31 d Q 84 [oR 13 l0, oI l1, d2, oI l3, oI l4, oI l5, oI l6, d7, d8] [] (sh_E h) := by
  refine ai_WP_steps mc_31 (sh_CM d) 9 ?_
  exact hk6 l0 l1 l3 (l4 - l6) (l5 * (2 : Int32)) h H
def f_Coins_addLumps_c6 (N : Nat)   (k6 : Nat → Int32 → Int32 → Int32 → Int32 → sh_H → Option sh_H) (l0 : Nat) (l1 : Int32) (l3 : Int32) (l4 : Int32) (l5 : Int32) (h : sh_H) : Option sh_H := (if 0 < l4 then (if (4000 : Int32) < l5 then (some h) else (Option.bind (f_Math_min l5 l4 h) (fun v5 => (Option.bind (f_Math_min l3 ((Int32.ofNat (sh_l13 l0)) - (1 : Int32)) h) (fun v6 => f_Coins_addLumps_l44 N (f_Coins_addLumps_b84 N k6) N l0 l1 l3 l4 l5 v5 (v5 * l1) v6 h))))) else (some h))
def f_Coins_addLumps_l6 (N : Nat)   (n : Nat) : Nat → Int32 → Int32 → Int32 → Int32 → sh_H → Option sh_H := Nat.rec (motive := fun _ => Nat → Int32 → Int32 → Int32 → Int32 → sh_H → Option sh_H) (fun _ _ _ _ _ _ => none) (fun _ k6 => f_Coins_addLumps_c6 N k6) n
theorem x_Coins_addLumps_l6 (N : Nat) {d : Nat} (hd : 1 ≤ d) {Q : ai_Q} {R : sh_H → Prop} (hR : ∀ h, R h → Q none (sh_E h))   (n : Nat) : ∀ (l0 : Nat) (l1 : Int32) (l3 : Int32) (l4 : Int32) (l5 : Int32) {d2 d6 d7 d8 : Option ai_V} (h : sh_H), sh_ok (f_Coins_addLumps_l6 N n l0 l1 l3 l4 l5 h) R → wq_31 d Q 6 [oR 13 l0, oI l1, d2, oI l3, oI l4, oI l5, d6, d7, d8] [] (sh_E h) := by
  induction n with
  | zero => intro l0 l1 l3 l4 l5 d2 d6 d7 d8 h H; exact H.elim
  | succ n ih =>
    intro l0 l1 l3 l4 l5 d2 d6 d7 d8 h H
    have hk6 := @ih
    replace H : sh_ok (f_Coins_addLumps_c6 N (f_Coins_addLumps_l6 N n) l0 l1 l3 l4 l5 h) R := H
    revert hk6 H
    generalize f_Coins_addLumps_l6 N n = k6
    intro hk6 H
    refine ai_WP_steps mc_31 (sh_CM d) 2 (And.intro (fun c => ?_) (fun c => ?_))
    · replace H := sh_okT c H
      show wq_31 d Q 11 [oR 13 l0, oI l1, _, oI l3, oI l4, oI l5, _, _, _] [] (sh_E h)
      refine ai_WP_steps mc_31 (sh_CM d) 3 (And.intro (fun c => ?_) (fun c => ?_))
      · replace H := sh_okT c H
        show wq_31 d Q 100 [oR 13 l0, oI l1, _, oI l3, oI l4, oI l5, _, _, _] [] (sh_E h)
        exact ai_WP_steps mc_31 (sh_CM d) 1 (hR h H)
      · replace H := sh_okF c H
        show wq_31 d Q 19 [oR 13 l0, oI l1, _, oI l3, oI l4, oI l5, _, _, _] [] (sh_E h)
        refine ai_WP_steps mc_31 (sh_CM d) 3 (And.intro (Nat.le_of_ble_eq_true rfl) (x_Math_min (Nat.le_trans (Nat.le_of_ble_eq_true rfl) hd) l5 l4 h (sh_okB H) (fun v5 H => ?_)))
        show wq_31 d Q 26 [oR 13 l0, oI l1, _, oI l3, oI l4, oI l5, _, _, _] [aI v5] (sh_E h)
        refine ai_WP_steps mc_31 (sh_CM d) 11 (And.intro (Nat.le_of_ble_eq_true rfl) (x_Math_min (Nat.le_trans (Nat.le_of_ble_eq_true rfl) hd) l3 ((Int32.ofNat (sh_l13 l0)) - (1 : Int32)) h (sh_okB H) (fun v6 H => ?_)))
        show wq_31 d Q 42 [oR 13 l0, oI l1, _, oI l3, oI l4, oI l5, oI v5, oI (v5 * l1), _] [aI v6] (sh_E h)
        refine ai_WP_steps mc_31 (sh_CM d) 1 ?_
        exact x_Coins_addLumps_l44 N hd hR (f_Coins_addLumps_b84 N k6) (fun z0 z1 z2 z3 z4 z5 {e2} {e7} {e8} h H => x_Coins_addLumps_b84 N hd hR k6 hk6 z0 z1 z2 z3 z4 z5 h H) N l0 l1 l3 l4 l5 v5 (v5 * l1) v6 h H
    · replace H := sh_okF c H
      show wq_31 d Q 100 [oR 13 l0, oI l1, _, oI l3, oI l4, oI l5, _, _, _] [] (sh_E h)
      exact ai_WP_steps mc_31 (sh_CM d) 1 (hR h H)
def f_Coins_addLumps (N : Nat)  (l0 : Nat) (l1 : Int32) (l2 : Int32) (l3 : Int32) (h : sh_H) : Option sh_H := f_Coins_addLumps_l6 N N l0 l1 l3 l2 (1 : Int32) h
theorem x_Coins_addLumps (N : Nat) {d : Nat} (hd : 2 ≤ d) (l0 : Nat) (l1 : Int32) (l2 : Int32) (l3 : Int32) (h : sh_H) {Q : ai_Q} {R : sh_H → Prop} (H : sh_ok (f_Coins_addLumps N l0 l1 l2 l3 h) R) (hR : ∀ h, R h → Q none (sh_E h)) : ai_Ex sh_T d 31 [aR 13 l0, aI l1, aI l2, aI l3] (sh_E h) Q := by
  obtain ⟨d, rfl⟩ : ∃ e, d = e + 1 := ⟨d - 1, by omega⟩
  replace hd : 1 ≤ d := by omega
  refine And.intro (Nat.le_of_ble_eq_true rfl) ?_
  show wq_31 d Q 0 [oR 13 l0, oI l1, oI l2, oI l3, none, none, none, none, none] [] (sh_E h)
  refine ai_WP_steps mc_31 (sh_CM d) 4 ?_
  exact x_Coins_addLumps_l6 N hd hR N l0 l1 l3 l2 (1 : Int32) h H
def f_Coins_clear_b25 (N : Nat)  (k2 : Nat → Int32 → Int32 → sh_H → Option sh_H) (l0 : Nat) (l1 : Int32) (l2 : Int32) (s0 : Nat) (s1 : Int32) (s2 : Int32) (h : sh_H) : Option sh_H := (if ai_in s1 (sh_l13 s0) then (sh_let (sh_pI h 13 s0 s1.toNatClampNeg s2) (fun h1 => k2 l0 l1 (l2 + (1 : Int32)) h1)) else none)
theorem x_Coins_clear_b25 (N : Nat) {d : Nat} (hd : 0 ≤ d) {Q : ai_Q} {R : sh_H → Prop} (hR : ∀ h, R h → Q none (sh_E h))  (k2 : Nat → Int32 → Int32 → sh_H → Option sh_H) (hk2 : ∀ (l0 : Nat) (l1 : Int32) (l2 : Int32) (h : sh_H), sh_ok (k2 l0 l1 l2 h) R → wq_29 d Q 2 [oR 13 l0, oI l1, oI l2] [] (sh_E h)) (l0 : Nat) (l1 : Int32) (l2 : Int32) (s0 : Nat) (s1 : Int32) (s2 : Int32) (h : sh_H) (H : sh_ok (f_Coins_clear_b25 N k2 l0 l1 l2 s0 s1 s2 h) R) : wq_29 d Q 25 [oR 13 l0, oI l1, oI l2] [aI s2, aI s1, aR 13 s0] (sh_E h) := by
  have c := sh_okG H
  replace H := sh_okH H
  refine ai_WP_steps mc_29 (sh_CM d) 1 (And.intro c ?_)
  show wq_29 d Q 26 [oR 13 l0, oI l1, oI l2] [] (sh_E (sh_pI h 13 s0 s1.toNatClampNeg s2))
  replace H := sh_okL H
  generalize sh_pI h 13 s0 s1.toNatClampNeg s2 = h1 at H ⊢
  refine ai_WP_steps mc_29 (sh_CM d) 2 ?_
  exact hk2 l0 l1 (l2 + (1 : Int32)) h1 H
def f_Coins_clear_c2 (N : Nat)   (k2 : Nat → Int32 → Int32 → sh_H → Option sh_H) (l0 : Nat) (l1 : Int32) (l2 : Int32) (h : sh_H) : Option sh_H := (if l1 < l2 then (some h) else (if l2 < (Int32.ofNat (sh_l13 l0)) then (if l2 = 0 then f_Coins_clear_b25 N k2 l0 l1 l2 l0 l2 (0 : Int32) h else f_Coins_clear_b25 N k2 l0 l1 l2 l0 l2 (1048576 : Int32) h) else (some h)))
def f_Coins_clear_l2 (N : Nat)   (n : Nat) : Nat → Int32 → Int32 → sh_H → Option sh_H := Nat.rec (motive := fun _ => Nat → Int32 → Int32 → sh_H → Option sh_H) (fun _ _ _ _ => none) (fun _ k2 => f_Coins_clear_c2 N k2) n
theorem x_Coins_clear_l2 (N : Nat) {d : Nat} (hd : 0 ≤ d) {Q : ai_Q} {R : sh_H → Prop} (hR : ∀ h, R h → Q none (sh_E h))   (n : Nat) : ∀ (l0 : Nat) (l1 : Int32) (l2 : Int32) (h : sh_H), sh_ok (f_Coins_clear_l2 N n l0 l1 l2 h) R → wq_29 d Q 2 [oR 13 l0, oI l1, oI l2] [] (sh_E h) := by
  induction n with
  | zero => intro l0 l1 l2 h H; exact H.elim
  | succ n ih =>
    intro l0 l1 l2 h H
    have hk2 := @ih
    replace H : sh_ok (f_Coins_clear_c2 N (f_Coins_clear_l2 N n) l0 l1 l2 h) R := H
    revert hk2 H
    generalize f_Coins_clear_l2 N n = k2
    intro hk2 H
    refine ai_WP_steps mc_29 (sh_CM d) 3 (And.intro (fun c => ?_) (fun c => ?_))
    · replace H := sh_okT c H
      show wq_29 d Q 32 [oR 13 l0, oI l1, oI l2] [] (sh_E h)
      exact ai_WP_steps mc_29 (sh_CM d) 1 (hR h H)
    · replace H := sh_okF c H
      show wq_29 d Q 7 [oR 13 l0, oI l1, oI l2] [] (sh_E h)
      refine ai_WP_steps mc_29 (sh_CM d) 4 (And.intro (fun c => ?_) (fun c => ?_))
      · replace H := sh_okT c H
        show wq_29 d Q 13 [oR 13 l0, oI l1, oI l2] [] (sh_E h)
        refine ai_WP_steps mc_29 (sh_CM d) 4 (And.intro (fun c => ?_) (fun c => ?_))
        · replace H := sh_okT c H
          show wq_29 d Q 19 [oR 13 l0, oI l1, oI l2] [aI l2, aR 13 l0] (sh_E h)
          refine ai_WP_steps mc_29 (sh_CM d) 2 ?_
          exact x_Coins_clear_b25 N hd hR k2 hk2 l0 l1 l2 l0 l2 (0 : Int32) h H
        · replace H := sh_okF c H
          show wq_29 d Q 23 [oR 13 l0, oI l1, oI l2] [aI l2, aR 13 l0] (sh_E h)
          refine ai_WP_steps mc_29 (sh_CM d) 1 ?_
          exact x_Coins_clear_b25 N hd hR k2 hk2 l0 l1 l2 l0 l2 (1048576 : Int32) h H
      · replace H := sh_okF c H
        show wq_29 d Q 32 [oR 13 l0, oI l1, oI l2] [] (sh_E h)
        exact ai_WP_steps mc_29 (sh_CM d) 1 (hR h H)
def f_Coins_clear (N : Nat)  (l0 : Nat) (l1 : Int32) (h : sh_H) : Option sh_H := f_Coins_clear_l2 N N l0 l1 (0 : Int32) h
theorem x_Coins_clear (N : Nat) {d : Nat} (hd : 1 ≤ d) (l0 : Nat) (l1 : Int32) (h : sh_H) {Q : ai_Q} {R : sh_H → Prop} (H : sh_ok (f_Coins_clear N l0 l1 h) R) (hR : ∀ h, R h → Q none (sh_E h)) : ai_Ex sh_T d 29 [aR 13 l0, aI l1] (sh_E h) Q := by
  obtain ⟨d, rfl⟩ : ∃ e, d = e + 1 := ⟨d - 1, by omega⟩
  replace hd : 0 ≤ d := by omega
  refine And.intro (Nat.le_of_ble_eq_true rfl) ?_
  show wq_29 d Q 0 [oR 13 l0, oI l1, none] [] (sh_E h)
  refine ai_WP_steps mc_29 (sh_CM d) 2 ?_
  exact x_Coins_clear_l2 N hd hR N l0 l1 (0 : Int32) h H
