/-! shallow functions, written by program -/
def f_Tokens_placeOf_b26   (l1 : Int32) (s0 : Int32) (h : sh_H) : Option Int32 := (if s0 = 0 then (some (h.1 10 0 5)) else (if ai_in l1 401 then (some (h.1 13 19 l1.toNatClampNeg)) else none))
theorem x_Tokens_placeOf_b26 {d : Nat} (hd : 0 ≤ d) (h : sh_H) {Q : ai_Q} {R : Int32 → Prop} (hR : ∀ r, R r → Q (some (aI r)) (sh_E h))   (l1 : Int32) (s0 : Int32) {d2 : Option ai_V} (H : sh_ok (f_Tokens_placeOf_b26 l1 s0 h) R) : wq_135 d Q 26 [oR 10 0, oI l1, d2] [aI s0] (sh_E h) := by
  refine ai_WP_steps mc_135 (sh_CM d) 3 (And.intro (fun c => ?_) (fun c => ?_))
  · replace H := sh_okT c H
    show wq_135 d Q 40 [oR 10 0, oI l1, oI s0] [] (sh_E h)
    exact ai_WP_steps mc_135 (sh_CM d) 3 (hR (h.1 10 0 5) H)
  · replace H := sh_okF c H
    show wq_135 d Q 31 [oR 10 0, oI l1, oI s0] [] (sh_E h)
    have c := sh_okG H
    replace H := sh_okH H
    refine ai_WP_steps mc_135 (sh_CM d) 4 (And.intro c ?_)
    show wq_135 d Q 37 [oR 10 0, oI l1, oI s0] [aI (h.1 13 19 l1.toNatClampNeg)] (sh_E h)
    exact ai_WP_steps mc_135 (sh_CM d) 2 (hR (h.1 13 19 l1.toNatClampNeg) H)
def f_Tokens_placeOf_b25   (l1 : Int32) (h : sh_H) : Option Int32 := f_Tokens_placeOf_b26 l1 (0 : Int32) h
theorem x_Tokens_placeOf_b25 {d : Nat} (hd : 0 ≤ d) (h : sh_H) {Q : ai_Q} {R : Int32 → Prop} (hR : ∀ r, R r → Q (some (aI r)) (sh_E h))   (l1 : Int32) {d2 : Option ai_V} (H : sh_ok (f_Tokens_placeOf_b25 l1 h) R) : wq_135 d Q 25 [oR 10 0, oI l1, d2] [] (sh_E h) := by
  refine ai_WP_steps mc_135 (sh_CM d) 1 ?_
  exact x_Tokens_placeOf_b26 hd h hR l1 (0 : Int32) H
def f_Tokens_placeOf  (l1 : Int32) (h : sh_H) : Option Int32 := (if l1 < 0 then f_Tokens_placeOf_b25 l1 h else (if l1 < (h.1 10 0 3) then (if l1 < (Int32.ofNat 401) then f_Tokens_placeOf_b26 l1 (1 : Int32) h else f_Tokens_placeOf_b25 l1 h) else f_Tokens_placeOf_b25 l1 h))
theorem x_Tokens_placeOf {d : Nat} (hd : 1 ≤ d) (l1 : Int32) (h : sh_H) {Q : ai_Q} {R : Int32 → Prop} (H : sh_ok (f_Tokens_placeOf l1 h) R) (hR : ∀ r, R r → Q (some (aI r)) (sh_E h)) : ai_Ex sh_T d 135 [aR 10 0, aI l1] (sh_E h) Q := by
  obtain ⟨d, rfl⟩ : ∃ e, d = e + 1 := ⟨d - 1, by omega⟩
  replace hd : 0 ≤ d := by omega
  refine And.intro (Nat.le_of_ble_eq_true rfl) ?_
  show wq_135 d Q 0 [oR 10 0, oI l1, none] [] (sh_E h)
  refine ai_WP_steps mc_135 (sh_CM d) 2 (And.intro (fun c => ?_) (fun c => ?_))
  · replace H := sh_okT c H
    exact x_Tokens_placeOf_b25 hd h hR l1 H
  · replace H := sh_okF c H
    show wq_135 d Q 4 [oR 10 0, oI l1, _] [] (sh_E h)
    refine ai_WP_steps mc_135 (sh_CM d) 4 (And.intro (fun c => ?_) (fun c => ?_))
    · replace H := sh_okT c H
      show wq_135 d Q 12 [oR 10 0, oI l1, _] [] (sh_E h)
      refine ai_WP_steps mc_135 (sh_CM d) 5 (And.intro (fun c => ?_) (fun c => ?_))
      · replace H := sh_okT c H
        show wq_135 d Q 21 [oR 10 0, oI l1, _] [] (sh_E h)
        refine ai_WP_steps mc_135 (sh_CM d) 2 ?_
        exact x_Tokens_placeOf_b26 hd h hR l1 (1 : Int32) H
      · replace H := sh_okF c H
        exact x_Tokens_placeOf_b25 hd h hR l1 H
    · replace H := sh_okF c H
      exact x_Tokens_placeOf_b25 hd h hR l1 H
def f_Reader_faultPlace   (h : sh_H) : Option Int32 := (if (h.1 5 0 4) = 0 then (some (-1 : Int32)) else (Option.bind (f_Tokens_placeOf (h.1 5 0 5) h) (fun v1 => (some v1))))
theorem x_Reader_faultPlace {d : Nat} (hd : 2 ≤ d)  (h : sh_H) {Q : ai_Q} {R : Int32 → Prop} (H : sh_ok (f_Reader_faultPlace h) R) (hR : ∀ r, R r → Q (some (aI r)) (sh_E h)) : ai_Ex sh_T d 71 [aR 5 0] (sh_E h) Q := by
  obtain ⟨d, rfl⟩ : ∃ e, d = e + 1 := ⟨d - 1, by omega⟩
  replace hd : 1 ≤ d := by omega
  refine And.intro (Nat.le_of_ble_eq_true rfl) ?_
  show wq_71 d Q 0 [oR 5 0] [] (sh_E h)
  refine ai_WP_steps mc_71 (sh_CM d) 3 (And.intro (fun c => ?_) (fun c => ?_))
  · replace H := sh_okT c H
    show wq_71 d Q 7 [oR 5 0] [] (sh_E h)
    exact ai_WP_steps mc_71 (sh_CM d) 3 (hR (-1 : Int32) H)
  · replace H := sh_okF c H
    show wq_71 d Q 11 [oR 5 0] [] (sh_E h)
    refine ai_WP_steps mc_71 (sh_CM d) 5 (And.intro (Nat.le_of_ble_eq_true rfl) (x_Tokens_placeOf (Nat.le_trans (Nat.le_of_ble_eq_true rfl) hd) (h.1 5 0 5) h (sh_okB H) (fun v1 H => ?_)))
    show wq_71 d Q 22 [oR 5 0] [aI v1] (sh_E h)
    exact ai_WP_steps mc_71 (sh_CM d) 1 (hR v1 H)
def f_State_clear (N : Nat)  (l0 : Nat) (h : sh_H) : Option sh_H := (Option.bind (f_Pieces_clear N l0 h) (fun h1 => (Option.bind (f_Rows_clear (4 * l0 + 15) h1) (fun h2 => (Option.bind (f_Rows_clear (4 * l0 + 16) h2) (fun h3 => (Option.bind (f_Rows_zero N (4 * l0 + 17) h3) (fun h4 => (sh_let (sh_pI h4 7 l0 4 (0 : Int32)) (fun h5 => (sh_let (sh_pJ h5 7 l0 5 (0 : Int64)) (fun h6 => (sh_let (sh_pJ h6 7 l0 6 (0 : Int64)) (fun h7 => (sh_let (sh_pJ h7 7 l0 7 (0 : Int64)) (fun h8 => (sh_let (sh_pI h8 7 l0 8 (0 : Int32)) (fun h9 => (some h9)))))))))))))))))))
theorem x_State_clear (N : Nat) {d : Nat} (hd : 3 ≤ d) (l0 : Nat) (h : sh_H) {Q : ai_Q} {R : sh_H → Prop} (H : sh_ok (f_State_clear N l0 h) R) (hR : ∀ h, R h → Q none (sh_E h)) : ai_Ex sh_T d 108 [aR 7 l0] (sh_E h) Q := by
  obtain ⟨d, rfl⟩ : ∃ e, d = e + 1 := ⟨d - 1, by omega⟩
  replace hd : 2 ≤ d := by omega
  refine And.intro (Nat.le_of_ble_eq_true rfl) ?_
  show wq_108 d Q 0 [oR 7 l0] [] (sh_E h)
  refine ai_WP_steps mc_108 (sh_CM d) 3 (And.intro (Nat.le_of_ble_eq_true rfl) (x_Pieces_clear N (Nat.le_trans (Nat.le_of_ble_eq_true rfl) hd) l0 h (sh_okB H) (fun h1 H => ?_)))
  show wq_108 d Q 7 [oR 7 l0] [] (sh_E h1)
  refine ai_WP_steps mc_108 (sh_CM d) 3 (And.intro (Nat.le_of_ble_eq_true rfl) (x_Rows_clear (Nat.le_trans (Nat.le_of_ble_eq_true rfl) hd) (4 * l0 + 15) h1 (sh_okB H) (fun h2 H => ?_)))
  show wq_108 d Q 14 [oR 7 l0] [] (sh_E h2)
  refine ai_WP_steps mc_108 (sh_CM d) 3 (And.intro (Nat.le_of_ble_eq_true rfl) (x_Rows_clear (Nat.le_trans (Nat.le_of_ble_eq_true rfl) hd) (4 * l0 + 16) h2 (sh_okB H) (fun h3 H => ?_)))
  show wq_108 d Q 21 [oR 7 l0] [] (sh_E h3)
  refine ai_WP_steps mc_108 (sh_CM d) 3 (And.intro (Nat.le_of_ble_eq_true rfl) (x_Rows_zero N (Nat.le_trans (Nat.le_of_ble_eq_true rfl) hd) (4 * l0 + 17) h3 (sh_okB H) (fun h4 H => ?_)))
  show wq_108 d Q 28 [oR 7 l0] [] (sh_E h4)
  refine ai_WP_steps mc_108 (sh_CM d) 3 (And.intro trivial ?_)
  show wq_108 d Q 33 [oR 7 l0] [] (sh_E (sh_pI h4 7 l0 4 (0 : Int32)))
  replace H := sh_okL H
  generalize sh_pI h4 7 l0 4 (0 : Int32) = h5 at H ⊢
  refine ai_WP_steps mc_108 (sh_CM d) 3 ?_
  show wq_108 d Q 38 [oR 7 l0] [] (sh_E (sh_pJ h5 7 l0 5 (0 : Int64)))
  replace H := sh_okL H
  generalize sh_pJ h5 7 l0 5 (0 : Int64) = h6 at H ⊢
  refine ai_WP_steps mc_108 (sh_CM d) 3 ?_
  show wq_108 d Q 43 [oR 7 l0] [] (sh_E (sh_pJ h6 7 l0 6 (0 : Int64)))
  replace H := sh_okL H
  generalize sh_pJ h6 7 l0 6 (0 : Int64) = h7 at H ⊢
  refine ai_WP_steps mc_108 (sh_CM d) 3 ?_
  show wq_108 d Q 48 [oR 7 l0] [] (sh_E (sh_pJ h7 7 l0 7 (0 : Int64)))
  replace H := sh_okL H
  generalize sh_pJ h7 7 l0 7 (0 : Int64) = h8 at H ⊢
  refine ai_WP_steps mc_108 (sh_CM d) 3 (And.intro (Or.inl rfl) ?_)
  show wq_108 d Q 53 [oR 7 l0] [] (sh_E (sh_pI h8 7 l0 8 (0 : Int32)))
  replace H := sh_okL H
  generalize sh_pI h8 7 l0 8 (0 : Int32) = h9 at H ⊢
  exact ai_WP_steps mc_108 (sh_CM d) 1 (hR h9 H)
def f_State_copy (N : Nat)  (l0 : Nat) (l1 : Nat) (h : sh_H) : Option sh_H := (Option.bind (f_Pieces_copy N l0 l1 h) (fun h1 => (Option.bind (f_Rows_copy N (4 * l0 + 15) (4 * l1 + 15) h1) (fun h2 => (Option.bind (f_Rows_copy N (4 * l0 + 16) (4 * l1 + 16) h2) (fun h3 => (Option.bind (f_Rows_copy N (4 * l0 + 17) (4 * l1 + 17) h3) (fun h4 => (sh_let (sh_pI h4 7 l0 4 (h4.1 7 l1 4)) (fun h5 => (sh_let (sh_pJ h5 7 l0 5 (h5.2.1 7 l1 5)) (fun h6 => (sh_let (sh_pJ h6 7 l0 6 (h6.2.1 7 l1 6)) (fun h7 => (sh_let (sh_pJ h7 7 l0 7 (h7.2.1 7 l1 7)) (fun h8 => (some h8)))))))))))))))))
theorem x_State_copy (N : Nat) {d : Nat} (hd : 4 ≤ d) (l0 : Nat) (l1 : Nat) (h : sh_H) {Q : ai_Q} {R : sh_H → Prop} (H : sh_ok (f_State_copy N l0 l1 h) R) (hR : ∀ h, R h → Q none (sh_E h)) : ai_Ex sh_T d 109 [aR 7 l0, aR 7 l1] (sh_E h) Q := by
  obtain ⟨d, rfl⟩ : ∃ e, d = e + 1 := ⟨d - 1, by omega⟩
  replace hd : 3 ≤ d := by omega
  refine And.intro (Nat.le_of_ble_eq_true rfl) ?_
  show wq_109 d Q 0 [oR 7 l0, oR 7 l1] [] (sh_E h)
  refine ai_WP_steps mc_109 (sh_CM d) 5 (And.intro (Nat.le_of_ble_eq_true rfl) (x_Pieces_copy N (Nat.le_trans (Nat.le_of_ble_eq_true rfl) hd) l0 l1 h (sh_okB H) (fun h1 H => ?_)))
  show wq_109 d Q 11 [oR 7 l0, oR 7 l1] [] (sh_E h1)
  refine ai_WP_steps mc_109 (sh_CM d) 5 (And.intro (Nat.le_of_ble_eq_true rfl) (x_Rows_copy N (Nat.le_trans (Nat.le_of_ble_eq_true rfl) hd) (4 * l0 + 15) (4 * l1 + 15) h1 (sh_okB H) (fun h2 H => ?_)))
  show wq_109 d Q 22 [oR 7 l0, oR 7 l1] [] (sh_E h2)
  refine ai_WP_steps mc_109 (sh_CM d) 5 (And.intro (Nat.le_of_ble_eq_true rfl) (x_Rows_copy N (Nat.le_trans (Nat.le_of_ble_eq_true rfl) hd) (4 * l0 + 16) (4 * l1 + 16) h2 (sh_okB H) (fun h3 H => ?_)))
  show wq_109 d Q 33 [oR 7 l0, oR 7 l1] [] (sh_E h3)
  refine ai_WP_steps mc_109 (sh_CM d) 5 (And.intro (Nat.le_of_ble_eq_true rfl) (x_Rows_copy N (Nat.le_trans (Nat.le_of_ble_eq_true rfl) hd) (4 * l0 + 17) (4 * l1 + 17) h3 (sh_okB H) (fun h4 H => ?_)))
  show wq_109 d Q 44 [oR 7 l0, oR 7 l1] [] (sh_E h4)
  refine ai_WP_steps mc_109 (sh_CM d) 4 (And.intro trivial ?_)
  show wq_109 d Q 52 [oR 7 l0, oR 7 l1] [] (sh_E (sh_pI h4 7 l0 4 (h4.1 7 l1 4)))
  replace H := sh_okL H
  generalize sh_pI h4 7 l0 4 (h4.1 7 l1 4) = h5 at H ⊢
  refine ai_WP_steps mc_109 (sh_CM d) 4 ?_
  show wq_109 d Q 60 [oR 7 l0, oR 7 l1] [] (sh_E (sh_pJ h5 7 l0 5 (h5.2.1 7 l1 5)))
  replace H := sh_okL H
  generalize sh_pJ h5 7 l0 5 (h5.2.1 7 l1 5) = h6 at H ⊢
  refine ai_WP_steps mc_109 (sh_CM d) 4 ?_
  show wq_109 d Q 68 [oR 7 l0, oR 7 l1] [] (sh_E (sh_pJ h6 7 l0 6 (h6.2.1 7 l1 6)))
  replace H := sh_okL H
  generalize sh_pJ h6 7 l0 6 (h6.2.1 7 l1 6) = h7 at H ⊢
  refine ai_WP_steps mc_109 (sh_CM d) 4 ?_
  show wq_109 d Q 76 [oR 7 l0, oR 7 l1] [] (sh_E (sh_pJ h7 7 l0 7 (h7.2.1 7 l1 7)))
  replace H := sh_okL H
  generalize sh_pJ h7 7 l0 7 (h7.2.1 7 l1 7) = h8 at H ⊢
  exact ai_WP_steps mc_109 (sh_CM d) 1 (hR h8 H)
def f_Stocks_behind_b22    (h : sh_H) : Option Int64 := (some (0 : Int64))
theorem x_Stocks_behind_b22 {d : Nat} (hd : 0 ≤ d) (h : sh_H) {Q : ai_Q} {R : Int64 → Prop} (hR : ∀ r, R r → Q (some (aL r)) (sh_E h))    {d0 d1 : Option ai_V} (H : sh_ok (f_Stocks_behind_b22 h) R) : wq_114 d Q 22 [d0, d1] [] (sh_E h) := by
  exact ai_WP_steps mc_114 (sh_CM d) 2 (hR (0 : Int64) H)
def f_Stocks_behind  (l1 : Int32) (h : sh_H) : Option Int64 := (if l1 < 0 then f_Stocks_behind_b22 h else (if l1 < (Int32.ofNat 61) then (if ai_in l1 61 then (some (h.2.1 14 4 l1.toNatClampNeg)) else none) else f_Stocks_behind_b22 h))
theorem x_Stocks_behind {d : Nat} (hd : 1 ≤ d) (l1 : Int32) (h : sh_H) {Q : ai_Q} {R : Int64 → Prop} (H : sh_ok (f_Stocks_behind l1 h) R) (hR : ∀ r, R r → Q (some (aL r)) (sh_E h)) : ai_Ex sh_T d 114 [aR 8 0, aI l1] (sh_E h) Q := by
  obtain ⟨d, rfl⟩ : ∃ e, d = e + 1 := ⟨d - 1, by omega⟩
  replace hd : 0 ≤ d := by omega
  refine And.intro (Nat.le_of_ble_eq_true rfl) ?_
  show wq_114 d Q 0 [oR 8 0, oI l1] [] (sh_E h)
  refine ai_WP_steps mc_114 (sh_CM d) 2 (And.intro (fun c => ?_) (fun c => ?_))
  · replace H := sh_okT c H
    exact x_Stocks_behind_b22 hd h hR H
  · replace H := sh_okF c H
    show wq_114 d Q 4 [oR 8 0, oI l1] [] (sh_E h)
    refine ai_WP_steps mc_114 (sh_CM d) 5 (And.intro (fun c => ?_) (fun c => ?_))
    · replace H := sh_okT c H
      show wq_114 d Q 13 [oR 8 0, oI l1] [] (sh_E h)
      have c := sh_okG H
      replace H := sh_okH H
      refine ai_WP_steps mc_114 (sh_CM d) 4 (And.intro c ?_)
      show wq_114 d Q 19 [oR 8 0, oI l1] [aL (h.2.1 14 4 l1.toNatClampNeg)] (sh_E h)
      exact ai_WP_steps mc_114 (sh_CM d) 2 (hR (h.2.1 14 4 l1.toNatClampNeg) H)
    · replace H := sh_okF c H
      exact x_Stocks_behind_b22 hd h hR H
def f_Stocks_chooseOrders_b177 (N : Nat)  (k101 : Nat → Int32 → Int64 → Int32 → Int32 → Int32 → Int32 → Int64 → Int32 → Int32 → sh_H → Option sh_H) (l1 : Nat) (l3 : Int32) (l5 : Int64) (l7 : Int32) (l9 : Int32) (l10 : Int32) (l11 : Int32) (l12 : Int64) (l14 : Int32) (l15 : Int32) (h : sh_H) : Option sh_H := k101 l1 l3 l5 l7 l9 l10 l11 l12 l14 (l15 + (1 : Int32)) h
theorem x_Stocks_chooseOrders_b177 (N : Nat) {d : Nat} (hd : 3 ≤ d) {Q : ai_Q} {R : sh_H → Prop} (hR : ∀ h, R h → Q none (sh_E h))  (k101 : Nat → Int32 → Int64 → Int32 → Int32 → Int32 → Int32 → Int64 → Int32 → Int32 → sh_H → Option sh_H) (hk101 : ∀ (l1 : Nat) (l3 : Int32) (l5 : Int64) (l7 : Int32) (l9 : Int32) (l10 : Int32) (l11 : Int32) (l12 : Int64) (l14 : Int32) (l15 : Int32) {d2 d4 d6 d8 d13 d16 d17 d18 : Option ai_V} (h : sh_H), sh_ok (k101 l1 l3 l5 l7 l9 l10 l11 l12 l14 l15 h) R → wq_113 d Q 101 [oR 8 0, oR 9 l1, d2, oI l3, d4, oL l5, d6, oI l7, d8, oI l9, oI l10, oI l11, oL l12, d13, oI l14, oI l15, d16, d17, d18] [] (sh_E h)) (l1 : Nat) (l3 : Int32) (l5 : Int64) (l7 : Int32) (l9 : Int32) (l10 : Int32) (l11 : Int32) (l12 : Int64) (l14 : Int32) (l15 : Int32) {d2 d4 d6 d8 d13 d16 d17 d18 : Option ai_V} (h : sh_H) (H : sh_ok (f_Stocks_chooseOrders_b177 N k101 l1 l3 l5 l7 l9 l10 l11 l12 l14 l15 h) R) : wq_113 d Q 177 [oR 8 0, oR 9 l1, d2, oI l3, d4, oL l5, d6, oI l7, d8, oI l9, oI l10, oI l11, oL l12, d13, oI l14, oI l15, d16, d17, d18] [] (sh_E h) := by
  refine ai_WP_steps mc_113 (sh_CM d) 2 ?_
  exact hk101 l1 l3 l5 l7 l9 l10 l11 l12 l14 (l15 + (1 : Int32)) h H
def f_Stocks_chooseOrders_l101 (N : Nat)  (k183 : Nat → Int32 → Int64 → Int32 → Int32 → Int32 → Int32 → Int64 → Int32 → sh_H → Option sh_H) (n : Nat) : Nat → Int32 → Int64 → Int32 → Int32 → Int32 → Int32 → Int64 → Int32 → Int32 → sh_H → Option sh_H := Nat.rec (motive := fun _ => Nat → Int32 → Int64 → Int32 → Int32 → Int32 → Int32 → Int64 → Int32 → Int32 → sh_H → Option sh_H) (fun _ _ _ _ _ _ _ _ _ _ _ => none) (fun _ k101 l1 l3 l5 l7 l9 l10 l11 l12 l14 l15 h => (if l9 < l15 then k183 l1 l3 l5 l7 l9 l10 l11 l12 l14 h else (if (l10 - l11) < l15 then k183 l1 l3 l5 l7 l9 l10 l11 l12 l14 h else (Option.bind (f_Rows_get (7 * l1 + 6) l7 (3 : Int32) h) (fun v1 => (Option.bind (f_Rows_get (7 * l1 + 0) l3 (2 : Int32) h) (fun v2 => (Option.bind (f_Stocks_behind (l11 + l15) h) (fun v3 => (if (lg_cmp (((v1 + (l15 * v2)).toInt64 * l5) + v3) l12) < 0 then f_Stocks_chooseOrders_b177 N k101 l1 l3 l5 l7 l9 l10 l11 (((v1 + (l15 * v2)).toInt64 * l5) + v3) l15 l15 h else f_Stocks_chooseOrders_b177 N k101 l1 l3 l5 l7 l9 l10 l11 l12 l14 l15 h)))))))))) n
theorem x_Stocks_chooseOrders_l101 (N : Nat) {d : Nat} (hd : 3 ≤ d) {Q : ai_Q} {R : sh_H → Prop} (hR : ∀ h, R h → Q none (sh_E h))  (k183 : Nat → Int32 → Int64 → Int32 → Int32 → Int32 → Int32 → Int64 → Int32 → sh_H → Option sh_H) (hk183 : ∀ (l1 : Nat) (l3 : Int32) (l5 : Int64) (l7 : Int32) (l9 : Int32) (l10 : Int32) (l11 : Int32) (l12 : Int64) (l14 : Int32) {d2 d4 d6 d8 d13 d15 d16 d17 d18 : Option ai_V} (h : sh_H), sh_ok (k183 l1 l3 l5 l7 l9 l10 l11 l12 l14 h) R → wq_113 d Q 183 [oR 8 0, oR 9 l1, d2, oI l3, d4, oL l5, d6, oI l7, d8, oI l9, oI l10, oI l11, oL l12, d13, oI l14, d15, d16, d17, d18] [] (sh_E h)) (n : Nat) : ∀ (l1 : Nat) (l3 : Int32) (l5 : Int64) (l7 : Int32) (l9 : Int32) (l10 : Int32) (l11 : Int32) (l12 : Int64) (l14 : Int32) (l15 : Int32) {d2 d4 d6 d8 d13 d16 d17 d18 : Option ai_V} (h : sh_H), sh_ok (f_Stocks_chooseOrders_l101 N k183 n l1 l3 l5 l7 l9 l10 l11 l12 l14 l15 h) R → wq_113 d Q 101 [oR 8 0, oR 9 l1, d2, oI l3, d4, oL l5, d6, oI l7, d8, oI l9, oI l10, oI l11, oL l12, d13, oI l14, oI l15, d16, d17, d18] [] (sh_E h) := by
  induction n with
  | zero => intro l1 l3 l5 l7 l9 l10 l11 l12 l14 l15 d2 d4 d6 d8 d13 d16 d17 d18 h H; exact H.elim
  | succ n ih =>
    intro l1 l3 l5 l7 l9 l10 l11 l12 l14 l15 d2 d4 d6 d8 d13 d16 d17 d18 h H
    have hk101 := @ih
    revert hk101 H
    show sh_ok ((fun k101 l1 l3 l5 l7 l9 l10 l11 l12 l14 l15 h => (if l9 < l15 then k183 l1 l3 l5 l7 l9 l10 l11 l12 l14 h else (if (l10 - l11) < l15 then k183 l1 l3 l5 l7 l9 l10 l11 l12 l14 h else (Option.bind (f_Rows_get (7 * l1 + 6) l7 (3 : Int32) h) (fun v1 => (Option.bind (f_Rows_get (7 * l1 + 0) l3 (2 : Int32) h) (fun v2 => (Option.bind (f_Stocks_behind (l11 + l15) h) (fun v3 => (if (lg_cmp (((v1 + (l15 * v2)).toInt64 * l5) + v3) l12) < 0 then f_Stocks_chooseOrders_b177 N k101 l1 l3 l5 l7 l9 l10 l11 (((v1 + (l15 * v2)).toInt64 * l5) + v3) l15 l15 h else f_Stocks_chooseOrders_b177 N k101 l1 l3 l5 l7 l9 l10 l11 l12 l14 l15 h)))))))))) (f_Stocks_chooseOrders_l101 N k183 n) l1 l3 l5 l7 l9 l10 l11 l12 l14 l15 h) R → _
    generalize f_Stocks_chooseOrders_l101 N k183 n = k101
    intro H hk101
    refine ai_WP_steps mc_113 (sh_CM d) 3 (And.intro (fun c => ?_) (fun c => ?_))
    · replace H := sh_okT c H
      exact hk183 l1 l3 l5 l7 l9 l10 l11 l12 l14 h H
    · replace H := sh_okF c H
      show wq_113 d Q 108 [oR 8 0, oR 9 l1, _, oI l3, _, oL l5, _, oI l7, _, oI l9, oI l10, oI l11, oL l12, _, oI l14, oI l15, _, _, _] [] (sh_E h)
      refine ai_WP_steps mc_113 (sh_CM d) 5 (And.intro (fun c => ?_) (fun c => ?_))
      · replace H := sh_okT c H
        exact hk183 l1 l3 l5 l7 l9 l10 l11 l12 l14 h H
      · replace H := sh_okF c H
        show wq_113 d Q 118 [oR 8 0, oR 9 l1, _, oI l3, _, oL l5, _, oI l7, _, oI l9, oI l10, oI l11, oL l12, _, oI l14, oI l15, _, _, _] [] (sh_E h)
        refine ai_WP_steps mc_113 (sh_CM d) 5 (And.intro (Nat.le_of_ble_eq_true rfl) (x_Rows_get (Nat.le_trans (Nat.le_of_ble_eq_true rfl) hd) (7 * l1 + 6) l7 (3 : Int32) h (sh_okB H) (fun v1 H => ?_)))
        show wq_113 d Q 128 [oR 8 0, oR 9 l1, _, oI l3, _, oL l5, _, oI l7, _, oI l9, oI l10, oI l11, oL l12, _, oI l14, oI l15, _, _, _] [aI v1] (sh_E h)
        refine ai_WP_steps mc_113 (sh_CM d) 6 (And.intro (Nat.le_of_ble_eq_true rfl) (x_Rows_get (Nat.le_trans (Nat.le_of_ble_eq_true rfl) hd) (7 * l1 + 0) l3 (2 : Int32) h (sh_okB H) (fun v2 H => ?_)))
        show wq_113 d Q 139 [oR 8 0, oR 9 l1, _, oI l3, _, oL l5, _, oI l7, _, oI l9, oI l10, oI l11, oL l12, _, oI l14, oI l15, _, _, _] [aI v2, aI l15, aI v1] (sh_E h)
        refine ai_WP_steps mc_113 (sh_CM d) 12 (And.intro (Nat.le_of_ble_eq_true rfl) (x_Stocks_behind (Nat.le_trans (Nat.le_of_ble_eq_true rfl) hd) (l11 + l15) h (sh_okB H) (fun v3 H => ?_)))
        show wq_113 d Q 158 [oR 8 0, oR 9 l1, _, oI l3, _, oL l5, _, oI l7, _, oI l9, oI l10, oI l11, oL l12, _, oI l14, oI l15, oI (v1 + (l15 * v2)), _, _] [aL v3, aL ((v1 + (l15 * v2)).toInt64 * l5)] (sh_E h)
        refine ai_WP_steps mc_113 (sh_CM d) 6 (And.intro (fun c => ?_) (fun c => ?_))
        · replace H := sh_okT c H
          show wq_113 d Q 169 [oR 8 0, oR 9 l1, _, oI l3, _, oL l5, _, oI l7, _, oI l9, oI l10, oI l11, oL l12, _, oI l14, oI l15, _, oL (((v1 + (l15 * v2)).toInt64 * l5) + v3), _] [] (sh_E h)
          refine ai_WP_steps mc_113 (sh_CM d) 4 ?_
          exact x_Stocks_chooseOrders_b177 N hd hR k101 hk101 l1 l3 l5 l7 l9 l10 l11 (((v1 + (l15 * v2)).toInt64 * l5) + v3) l15 l15 h H
        · replace H := sh_okF c H
          exact x_Stocks_chooseOrders_b177 N hd hR k101 hk101 l1 l3 l5 l7 l9 l10 l11 l12 l14 l15 h H
def f_Stocks_chooseOrders_b183 (N : Nat)  (k67 : Nat → Int32 → Int64 → Int32 → Int32 → Int32 → Int32 → sh_H → Option sh_H) (l1 : Nat) (l3 : Int32) (l5 : Int64) (l7 : Int32) (l9 : Int32) (l10 : Int32) (l11 : Int32) (l12 : Int64) (l14 : Int32) (h : sh_H) : Option sh_H := (if ai_in l11 61 then (sh_let (sh_pJ h 14 3 l11.toNatClampNeg l12) (fun h4 => (if ai_in l11 61 then (sh_let (sh_pI h4 13 37 l11.toNatClampNeg l14) (fun h5 => k67 l1 l3 l5 l7 l9 l10 (l11 + (1 : Int32)) h5)) else none))) else none)
theorem x_Stocks_chooseOrders_b183 (N : Nat) {d : Nat} (hd : 3 ≤ d) {Q : ai_Q} {R : sh_H → Prop} (hR : ∀ h, R h → Q none (sh_E h))  (k67 : Nat → Int32 → Int64 → Int32 → Int32 → Int32 → Int32 → sh_H → Option sh_H) (hk67 : ∀ (l1 : Nat) (l3 : Int32) (l5 : Int64) (l7 : Int32) (l9 : Int32) (l10 : Int32) (l11 : Int32) {d2 d4 d6 d8 d12 d13 d14 d15 d16 d17 d18 : Option ai_V} (h : sh_H), sh_ok (k67 l1 l3 l5 l7 l9 l10 l11 h) R → wq_113 d Q 67 [oR 8 0, oR 9 l1, d2, oI l3, d4, oL l5, d6, oI l7, d8, oI l9, oI l10, oI l11, d12, d13, d14, d15, d16, d17, d18] [] (sh_E h)) (l1 : Nat) (l3 : Int32) (l5 : Int64) (l7 : Int32) (l9 : Int32) (l10 : Int32) (l11 : Int32) (l12 : Int64) (l14 : Int32) {d2 d4 d6 d8 d13 d15 d16 d17 d18 : Option ai_V} (h : sh_H) (H : sh_ok (f_Stocks_chooseOrders_b183 N k67 l1 l3 l5 l7 l9 l10 l11 l12 l14 h) R) : wq_113 d Q 183 [oR 8 0, oR 9 l1, d2, oI l3, d4, oL l5, d6, oI l7, d8, oI l9, oI l10, oI l11, oL l12, d13, oI l14, d15, d16, d17, d18] [] (sh_E h) := by
  have c := sh_okG H
  replace H := sh_okH H
  refine ai_WP_steps mc_113 (sh_CM d) 5 (And.intro c ?_)
  show wq_113 d Q 192 [oR 8 0, oR 9 l1, _, oI l3, _, oL l5, _, oI l7, _, oI l9, oI l10, oI l11, oL l12, _, oI l14, _, _, _, _] [] (sh_E (sh_pJ h 14 3 l11.toNatClampNeg l12))
  replace H := sh_okL H
  generalize sh_pJ h 14 3 l11.toNatClampNeg l12 = h4 at H ⊢
  have c := sh_okG H
  replace H := sh_okH H
  refine ai_WP_steps mc_113 (sh_CM d) 5 (And.intro c ?_)
  show wq_113 d Q 201 [oR 8 0, oR 9 l1, _, oI l3, _, oL l5, _, oI l7, _, oI l9, oI l10, oI l11, oL l12, _, oI l14, _, _, _, _] [] (sh_E (sh_pI h4 13 37 l11.toNatClampNeg l14))
  replace H := sh_okL H
  generalize sh_pI h4 13 37 l11.toNatClampNeg l14 = h5 at H ⊢
  refine ai_WP_steps mc_113 (sh_CM d) 2 ?_
  exact hk67 l1 l3 l5 l7 l9 l10 (l11 + (1 : Int32)) h5 H
def f_Stocks_chooseOrders_l67 (N : Nat)  (k207 : sh_H → Option sh_H) (n : Nat) : Nat → Int32 → Int64 → Int32 → Int32 → Int32 → Int32 → sh_H → Option sh_H := Nat.rec (motive := fun _ => Nat → Int32 → Int64 → Int32 → Int32 → Int32 → Int32 → sh_H → Option sh_H) (fun _ _ _ _ _ _ _ _ => none) (fun _ k67 l1 l3 l5 l7 l9 l10 l11 h => (if l11 < (Int32.ofNat 61) then (if l11 < (Int32.ofNat 61) then (Option.bind (f_Stocks_behind l11 h) (fun v6 => f_Stocks_chooseOrders_l101 N (f_Stocks_chooseOrders_b183 N k67) N l1 l3 l5 l7 l9 l10 l11 v6 (0 : Int32) (1 : Int32) h)) else k207 h) else k207 h)) n
theorem x_Stocks_chooseOrders_l67 (N : Nat) {d : Nat} (hd : 3 ≤ d) {Q : ai_Q} {R : sh_H → Prop} (hR : ∀ h, R h → Q none (sh_E h))  (k207 : sh_H → Option sh_H) (hk207 : ∀ {d0 d1 d2 d3 d4 d5 d6 d7 d8 d9 d10 d11 d12 d13 d14 d15 d16 d17 d18 : Option ai_V} (h : sh_H), sh_ok (k207 h) R → wq_113 d Q 207 [d0, d1, d2, d3, d4, d5, d6, d7, d8, d9, d10, d11, d12, d13, d14, d15, d16, d17, d18] [] (sh_E h)) (n : Nat) : ∀ (l1 : Nat) (l3 : Int32) (l5 : Int64) (l7 : Int32) (l9 : Int32) (l10 : Int32) (l11 : Int32) {d2 d4 d6 d8 d12 d13 d14 d15 d16 d17 d18 : Option ai_V} (h : sh_H), sh_ok (f_Stocks_chooseOrders_l67 N k207 n l1 l3 l5 l7 l9 l10 l11 h) R → wq_113 d Q 67 [oR 8 0, oR 9 l1, d2, oI l3, d4, oL l5, d6, oI l7, d8, oI l9, oI l10, oI l11, d12, d13, d14, d15, d16, d17, d18] [] (sh_E h) := by
  induction n with
  | zero => intro l1 l3 l5 l7 l9 l10 l11 d2 d4 d6 d8 d12 d13 d14 d15 d16 d17 d18 h H; exact H.elim
  | succ n ih =>
    intro l1 l3 l5 l7 l9 l10 l11 d2 d4 d6 d8 d12 d13 d14 d15 d16 d17 d18 h H
    have hk67 := @ih
    revert hk67 H
    show sh_ok ((fun k67 l1 l3 l5 l7 l9 l10 l11 h => (if l11 < (Int32.ofNat 61) then (if l11 < (Int32.ofNat 61) then (Option.bind (f_Stocks_behind l11 h) (fun v6 => f_Stocks_chooseOrders_l101 N (f_Stocks_chooseOrders_b183 N k67) N l1 l3 l5 l7 l9 l10 l11 v6 (0 : Int32) (1 : Int32) h)) else k207 h) else k207 h)) (f_Stocks_chooseOrders_l67 N k207 n) l1 l3 l5 l7 l9 l10 l11 h) R → _
    generalize f_Stocks_chooseOrders_l67 N k207 n = k67
    intro H hk67
    refine ai_WP_steps mc_113 (sh_CM d) 5 (And.intro (fun c => ?_) (fun c => ?_))
    · replace H := sh_okT c H
      show wq_113 d Q 77 [oR 8 0, oR 9 l1, _, oI l3, _, oL l5, _, oI l7, _, oI l9, oI l10, oI l11, _, _, _, _, _, _, _] [] (sh_E h)
      refine ai_WP_steps mc_113 (sh_CM d) 5 (And.intro (fun c => ?_) (fun c => ?_))
      · replace H := sh_okT c H
        show wq_113 d Q 87 [oR 8 0, oR 9 l1, _, oI l3, _, oL l5, _, oI l7, _, oI l9, oI l10, oI l11, _, _, _, _, _, _, _] [] (sh_E h)
        refine ai_WP_steps mc_113 (sh_CM d) 3 (And.intro (Nat.le_of_ble_eq_true rfl) (x_Stocks_behind (Nat.le_trans (Nat.le_of_ble_eq_true rfl) hd) l11 h (sh_okB H) (fun v6 H => ?_)))
        show wq_113 d Q 93 [oR 8 0, oR 9 l1, _, oI l3, _, oL l5, _, oI l7, _, oI l9, oI l10, oI l11, _, _, _, _, _, _, _] [aL v6] (sh_E h)
        refine ai_WP_steps mc_113 (sh_CM d) 5 ?_
        exact x_Stocks_chooseOrders_l101 N hd hR (f_Stocks_chooseOrders_b183 N k67) (fun z0 z1 z2 z3 z4 z5 z6 z7 z8 {e2} {e4} {e6} {e8} {e13} {e15} {e16} {e17} {e18} h H => x_Stocks_chooseOrders_b183 N hd hR k67 hk67 z0 z1 z2 z3 z4 z5 z6 z7 z8 h H) N l1 l3 l5 l7 l9 l10 l11 v6 (0 : Int32) (1 : Int32) h H
      · replace H := sh_okF c H
        exact hk207 h H
    · replace H := sh_okF c H
      exact hk207 h H
def f_Stocks_chooseOrders_b207 (N : Nat)    (h : sh_H) : Option sh_H := (some h)
theorem x_Stocks_chooseOrders_b207 (N : Nat) {d : Nat} (hd : 3 ≤ d) {Q : ai_Q} {R : sh_H → Prop} (hR : ∀ h, R h → Q none (sh_E h))    {d0 d1 d2 d3 d4 d5 d6 d7 d8 d9 d10 d11 d12 d13 d14 d15 d16 d17 d18 : Option ai_V} (h : sh_H) (H : sh_ok (f_Stocks_chooseOrders_b207 N h) R) : wq_113 d Q 207 [d0, d1, d2, d3, d4, d5, d6, d7, d8, d9, d10, d11, d12, d13, d14, d15, d16, d17, d18] [] (sh_E h) := by
  exact ai_WP_steps mc_113 (sh_CM d) 1 (hR h H)
def f_Stocks_chooseOrders_b49 (N : Nat)   (l1 : Nat) (l2 : Int32) (l3 : Int32) (l5 : Int64) (l7 : Int32) (s0 : Int32) (h : sh_H) : Option sh_H := (Option.bind (f_Rows_get (7 * l1 + 1) (l2 - (1 : Int32)) (0 : Int32) h) (fun v7 => f_Stocks_chooseOrders_l67 N (f_Stocks_chooseOrders_b207 N) N l1 l3 l5 l7 s0 v7 (0 : Int32) h))
theorem x_Stocks_chooseOrders_b49 (N : Nat) {d : Nat} (hd : 3 ≤ d) {Q : ai_Q} {R : sh_H → Prop} (hR : ∀ h, R h → Q none (sh_E h))   (l1 : Nat) (l2 : Int32) (l3 : Int32) (l5 : Int64) (l7 : Int32) (s0 : Int32) {d4 d6 d8 d9 d10 d11 d12 d13 d14 d15 d16 d17 d18 : Option ai_V} (h : sh_H) (H : sh_ok (f_Stocks_chooseOrders_b49 N l1 l2 l3 l5 l7 s0 h) R) : wq_113 d Q 49 [oR 8 0, oR 9 l1, oI l2, oI l3, d4, oL l5, d6, oI l7, d8, d9, d10, d11, d12, d13, d14, d15, d16, d17, d18] [aI s0] (sh_E h) := by
  refine ai_WP_steps mc_113 (sh_CM d) 8 (And.intro (Nat.le_of_ble_eq_true rfl) (x_Rows_get (Nat.le_trans (Nat.le_of_ble_eq_true rfl) hd) (7 * l1 + 1) (l2 - (1 : Int32)) (0 : Int32) h (sh_okB H) (fun v7 H => ?_)))
  show wq_113 d Q 62 [oR 8 0, oR 9 l1, oI l2, oI l3, _, oL l5, _, oI l7, _, oI s0, _, _, _, _, _, _, _, _, _] [aI v7] (sh_E h)
  refine ai_WP_steps mc_113 (sh_CM d) 3 ?_
  exact x_Stocks_chooseOrders_l67 N hd hR (f_Stocks_chooseOrders_b207 N) (fun {e0} {e1} {e2} {e3} {e4} {e5} {e6} {e7} {e8} {e9} {e10} {e11} {e12} {e13} {e14} {e15} {e16} {e17} {e18} h H => x_Stocks_chooseOrders_b207 N hd hR  h H) N l1 l3 l5 l7 s0 v7 (0 : Int32) h H
def f_Stocks_chooseOrders_b32 (N : Nat)   (l1 : Nat) (l2 : Int32) (l3 : Int32) (l5 : Int64) (l7 : Int32) (h : sh_H) : Option sh_H := f_Stocks_chooseOrders_b49 N l1 l2 l3 l5 l7 (0 : Int32) h
theorem x_Stocks_chooseOrders_b32 (N : Nat) {d : Nat} (hd : 3 ≤ d) {Q : ai_Q} {R : sh_H → Prop} (hR : ∀ h, R h → Q none (sh_E h))   (l1 : Nat) (l2 : Int32) (l3 : Int32) (l5 : Int64) (l7 : Int32) {d4 d6 d8 d9 d10 d11 d12 d13 d14 d15 d16 d17 d18 : Option ai_V} (h : sh_H) (H : sh_ok (f_Stocks_chooseOrders_b32 N l1 l2 l3 l5 l7 h) R) : wq_113 d Q 32 [oR 8 0, oR 9 l1, oI l2, oI l3, d4, oL l5, d6, oI l7, d8, d9, d10, d11, d12, d13, d14, d15, d16, d17, d18] [] (sh_E h) := by
  refine ai_WP_steps mc_113 (sh_CM d) 2 ?_
  exact x_Stocks_chooseOrders_b49 N hd hR l1 l2 l3 l5 l7 (0 : Int32) h H
def f_Stocks_chooseOrders (N : Nat)  (l1 : Nat) (l2 : Int32) (l3 : Int32) (l4 : Int32) (l5 : Int64) (h : sh_H) : Option sh_H := (Option.bind (f_Text_boatOf N l1 l2 l4 h) (fun v8 => (Option.bind (f_Rows_get (7 * l1 + 0) l3 (1 : Int32) h) (fun v9 => (if v8 = (-1 : Int32) then f_Stocks_chooseOrders_b32 N l1 l2 l3 l5 v8 h else (if v9 < (1 : Int32) then f_Stocks_chooseOrders_b32 N l1 l2 l3 l5 v8 h else (Option.bind (f_Rows_get (7 * l1 + 6) v8 (2 : Int32) h) (fun v10 => (if ¬ v9 = 0 then f_Stocks_chooseOrders_b49 N l1 l2 l3 l5 v8 (v10 / v9) h else none)))))))))
theorem x_Stocks_chooseOrders (N : Nat) {d : Nat} (hd : 4 ≤ d) (l1 : Nat) (l2 : Int32) (l3 : Int32) (l4 : Int32) (l5 : Int64) (h : sh_H) {Q : ai_Q} {R : sh_H → Prop} (H : sh_ok (f_Stocks_chooseOrders N l1 l2 l3 l4 l5 h) R) (hR : ∀ h, R h → Q none (sh_E h)) : ai_Ex sh_T d 113 [aR 8 0, aR 9 l1, aI l2, aI l3, aI l4, aL l5] (sh_E h) Q := by
  obtain ⟨d, rfl⟩ : ∃ e, d = e + 1 := ⟨d - 1, by omega⟩
  replace hd : 3 ≤ d := by omega
  refine And.intro (Nat.le_of_ble_eq_true rfl) ?_
  show wq_113 d Q 0 [oR 8 0, oR 9 l1, oI l2, oI l3, oI l4, oL l5, none, none, none, none, none, none, none, none, none, none, none, none, none] [] (sh_E h)
  refine ai_WP_steps mc_113 (sh_CM d) 4 (And.intro (Nat.le_of_ble_eq_true rfl) (x_Text_boatOf N (Nat.le_trans (Nat.le_of_ble_eq_true rfl) hd) l1 l2 l4 h (sh_okB H) (fun v8 H => ?_)))
  show wq_113 d Q 7 [oR 8 0, oR 9 l1, oI l2, oI l3, oI l4, oL l5, _, _, _, _, _, _, _, _, _, _, _, _, _] [aI v8] (sh_E h)
  refine ai_WP_steps mc_113 (sh_CM d) 6 (And.intro (Nat.le_of_ble_eq_true rfl) (x_Rows_get (Nat.le_trans (Nat.le_of_ble_eq_true rfl) hd) (7 * l1 + 0) l3 (1 : Int32) h (sh_okB H) (fun v9 H => ?_)))
  show wq_113 d Q 18 [oR 8 0, oR 9 l1, oI l2, oI l3, oI l4, oL l5, _, oI v8, _, _, _, _, _, _, _, _, _, _, _] [aI v9] (sh_E h)
  refine ai_WP_steps mc_113 (sh_CM d) 4 (And.intro (fun c => ?_) (fun c => ?_))
  · replace H := sh_okT c H
    exact x_Stocks_chooseOrders_b32 N hd hR l1 l2 l3 l5 v8 h H
  · replace H := sh_okF c H
    show wq_113 d Q 26 [oR 8 0, oR 9 l1, oI l2, oI l3, oI l4, oL l5, _, oI v8, oI v9, _, _, _, _, _, _, _, _, _, _] [] (sh_E h)
    refine ai_WP_steps mc_113 (sh_CM d) 3 (And.intro (fun c => ?_) (fun c => ?_))
    · replace H := sh_okT c H
      exact x_Stocks_chooseOrders_b32 N hd hR l1 l2 l3 l5 v8 h H
    · replace H := sh_okF c H
      show wq_113 d Q 36 [oR 8 0, oR 9 l1, oI l2, oI l3, oI l4, oL l5, _, oI v8, oI v9, _, _, _, _, _, _, _, _, _, _] [] (sh_E h)
      refine ai_WP_steps mc_113 (sh_CM d) 5 (And.intro (Nat.le_of_ble_eq_true rfl) (x_Rows_get (Nat.le_trans (Nat.le_of_ble_eq_true rfl) hd) (7 * l1 + 6) v8 (2 : Int32) h (sh_okB H) (fun v10 H => ?_)))
      show wq_113 d Q 46 [oR 8 0, oR 9 l1, oI l2, oI l3, oI l4, oL l5, _, oI v8, oI v9, _, _, _, _, _, _, _, _, _, _] [aI v10] (sh_E h)
      have c := sh_okG H
      replace H := sh_okH H
      refine ai_WP_steps mc_113 (sh_CM d) 2 (And.intro c ?_)
      show wq_113 d Q 49 [oR 8 0, oR 9 l1, oI l2, oI l3, oI l4, oL l5, _, oI v8, oI v9, _, _, _, _, _, _, _, _, _, _] [aI (v10 / v9)] (sh_E h)
      exact x_Stocks_chooseOrders_b49 N hd hR l1 l2 l3 l5 v8 (v10 / v9) h H
def f_Stocks_cost_b22    (h : sh_H) : Option Int64 := (some (0 : Int64))
theorem x_Stocks_cost_b22 {d : Nat} (hd : 0 ≤ d) (h : sh_H) {Q : ai_Q} {R : Int64 → Prop} (hR : ∀ r, R r → Q (some (aL r)) (sh_E h))    {d0 d1 : Option ai_V} (H : sh_ok (f_Stocks_cost_b22 h) R) : wq_115 d Q 22 [d0, d1] [] (sh_E h) := by
  exact ai_WP_steps mc_115 (sh_CM d) 2 (hR (0 : Int64) H)
def f_Stocks_cost  (l1 : Int32) (h : sh_H) : Option Int64 := (if l1 < 0 then f_Stocks_cost_b22 h else (if l1 < (Int32.ofNat 61) then (if ai_in l1 61 then (some (h.2.1 14 3 l1.toNatClampNeg)) else none) else f_Stocks_cost_b22 h))
theorem x_Stocks_cost {d : Nat} (hd : 1 ≤ d) (l1 : Int32) (h : sh_H) {Q : ai_Q} {R : Int64 → Prop} (H : sh_ok (f_Stocks_cost l1 h) R) (hR : ∀ r, R r → Q (some (aL r)) (sh_E h)) : ai_Ex sh_T d 115 [aR 8 0, aI l1] (sh_E h) Q := by
  obtain ⟨d, rfl⟩ : ∃ e, d = e + 1 := ⟨d - 1, by omega⟩
  replace hd : 0 ≤ d := by omega
  refine And.intro (Nat.le_of_ble_eq_true rfl) ?_
  show wq_115 d Q 0 [oR 8 0, oI l1] [] (sh_E h)
  refine ai_WP_steps mc_115 (sh_CM d) 2 (And.intro (fun c => ?_) (fun c => ?_))
  · replace H := sh_okT c H
    exact x_Stocks_cost_b22 hd h hR H
  · replace H := sh_okF c H
    show wq_115 d Q 4 [oR 8 0, oI l1] [] (sh_E h)
    refine ai_WP_steps mc_115 (sh_CM d) 5 (And.intro (fun c => ?_) (fun c => ?_))
    · replace H := sh_okT c H
      show wq_115 d Q 13 [oR 8 0, oI l1] [] (sh_E h)
      have c := sh_okG H
      replace H := sh_okH H
      refine ai_WP_steps mc_115 (sh_CM d) 4 (And.intro c ?_)
      show wq_115 d Q 19 [oR 8 0, oI l1] [aL (h.2.1 14 3 l1.toNatClampNeg)] (sh_E h)
      exact ai_WP_steps mc_115 (sh_CM d) 2 (hR (h.2.1 14 3 l1.toNatClampNeg) H)
    · replace H := sh_okF c H
      exact x_Stocks_cost_b22 hd h hR H
def f_Stocks_takeWanted_l19 (N : Nat)  (k73 : Int32 → Int32 → Int32 → Int64 → Int32 → Int64 → sh_H → Option sh_H) (n : Nat) : Int32 → Int32 → Int32 → Int64 → Int32 → Int64 → Int32 → sh_H → Option sh_H := Nat.rec (motive := fun _ => Int32 → Int32 → Int32 → Int64 → Int32 → Int64 → Int32 → sh_H → Option sh_H) (fun _ _ _ _ _ _ _ _ => none) (fun _ k19 l1 l2 l3 l4 l6 l7 l9 h => (if l2 < l9 then k73 l1 l2 l3 l4 l6 l7 h else (Option.bind (f_Math_max (0 : Int32) ((l1 + l9) - l6) h) (fun v1 => (Option.bind (f_Math_max (0 : Int32) ((l6 - l1) - l9) h) (fun v2 => (Option.bind (f_Stocks_cost v2 h) (fun v3 => k19 l1 l2 l3 l4 l6 (l7 + (((v1 * l3).toInt64 * l4) + v3)) (l9 + (1 : Int32)) h)))))))) n
theorem x_Stocks_takeWanted_l19 (N : Nat) {d : Nat} (hd : 1 ≤ d) {Q : ai_Q} {R : sh_H → Prop} (hR : ∀ h, R h → Q none (sh_E h))  (k73 : Int32 → Int32 → Int32 → Int64 → Int32 → Int64 → sh_H → Option sh_H) (hk73 : ∀ (l1 : Int32) (l2 : Int32) (l3 : Int32) (l4 : Int64) (l6 : Int32) (l7 : Int64) {d5 d8 d9 d10 : Option ai_V} (h : sh_H), sh_ok (k73 l1 l2 l3 l4 l6 l7 h) R → wq_112 d Q 73 [oR 8 0, oI l1, oI l2, oI l3, oL l4, d5, oI l6, oL l7, d8, d9, d10] [] (sh_E h)) (n : Nat) : ∀ (l1 : Int32) (l2 : Int32) (l3 : Int32) (l4 : Int64) (l6 : Int32) (l7 : Int64) (l9 : Int32) {d5 d8 d10 : Option ai_V} (h : sh_H), sh_ok (f_Stocks_takeWanted_l19 N k73 n l1 l2 l3 l4 l6 l7 l9 h) R → wq_112 d Q 19 [oR 8 0, oI l1, oI l2, oI l3, oL l4, d5, oI l6, oL l7, d8, oI l9, d10] [] (sh_E h) := by
  induction n with
  | zero => intro l1 l2 l3 l4 l6 l7 l9 d5 d8 d10 h H; exact H.elim
  | succ n ih =>
    intro l1 l2 l3 l4 l6 l7 l9 d5 d8 d10 h H
    have hk19 := @ih
    revert hk19 H
    show sh_ok ((fun k19 l1 l2 l3 l4 l6 l7 l9 h => (if l2 < l9 then k73 l1 l2 l3 l4 l6 l7 h else (Option.bind (f_Math_max (0 : Int32) ((l1 + l9) - l6) h) (fun v1 => (Option.bind (f_Math_max (0 : Int32) ((l6 - l1) - l9) h) (fun v2 => (Option.bind (f_Stocks_cost v2 h) (fun v3 => k19 l1 l2 l3 l4 l6 (l7 + (((v1 * l3).toInt64 * l4) + v3)) (l9 + (1 : Int32)) h)))))))) (f_Stocks_takeWanted_l19 N k73 n) l1 l2 l3 l4 l6 l7 l9 h) R → _
    generalize f_Stocks_takeWanted_l19 N k73 n = k19
    intro H hk19
    refine ai_WP_steps mc_112 (sh_CM d) 3 (And.intro (fun c => ?_) (fun c => ?_))
    · replace H := sh_okT c H
      exact hk73 l1 l2 l3 l4 l6 l7 h H
    · replace H := sh_okF c H
      show wq_112 d Q 25 [oR 8 0, oI l1, oI l2, oI l3, oL l4, _, oI l6, oL l7, _, oI l9, _] [] (sh_E h)
      refine ai_WP_steps mc_112 (sh_CM d) 7 (And.intro (Nat.le_of_ble_eq_true rfl) (x_Math_max (Nat.le_trans (Nat.le_of_ble_eq_true rfl) hd) (0 : Int32) ((l1 + l9) - l6) h (sh_okB H) (fun v1 H => ?_)))
      show wq_112 d Q 36 [oR 8 0, oI l1, oI l2, oI l3, oL l4, _, oI l6, oL l7, _, oI l9, _] [aI v1] (sh_E h)
      refine ai_WP_steps mc_112 (sh_CM d) 16 (And.intro (Nat.le_of_ble_eq_true rfl) (x_Math_max (Nat.le_trans (Nat.le_of_ble_eq_true rfl) hd) (0 : Int32) ((l6 - l1) - l9) h (sh_okB H) (fun v2 H => ?_)))
      show wq_112 d Q 60 [oR 8 0, oI l1, oI l2, oI l3, oL l4, _, oI l6, oL l7, _, oI l9, oI v1] [aI v2, aR 8 0, aL ((v1 * l3).toInt64 * l4), aL l7] (sh_E h)
      refine ai_WP_steps mc_112 (sh_CM d) 1 (And.intro (Nat.le_of_ble_eq_true rfl) (x_Stocks_cost (Nat.le_trans (Nat.le_of_ble_eq_true rfl) hd) v2 h (sh_okB H) (fun v3 H => ?_)))
      show wq_112 d Q 63 [oR 8 0, oI l1, oI l2, oI l3, oL l4, _, oI l6, oL l7, _, oI l9, oI v1] [aL v3, aL ((v1 * l3).toInt64 * l4), aL l7] (sh_E h)
      refine ai_WP_steps mc_112 (sh_CM d) 5 ?_
      exact hk19 l1 l2 l3 l4 l6 (l7 + (((v1 * l3).toInt64 * l4) + v3)) (l9 + (1 : Int32)) h H
def f_Stocks_takeWanted_b73 (N : Nat)  (k3 : Int32 → Int32 → Int32 → Int64 → Int32 → sh_H → Option sh_H) (l1 : Int32) (l2 : Int32) (l3 : Int32) (l4 : Int64) (l6 : Int32) (l7 : Int64) (h : sh_H) : Option sh_H := (if ai_in l6 61 then (sh_let (sh_pJ h 14 4 l6.toNatClampNeg l7) (fun h4 => k3 l1 l2 l3 l4 (l6 + (1 : Int32)) h4)) else none)
theorem x_Stocks_takeWanted_b73 (N : Nat) {d : Nat} (hd : 1 ≤ d) {Q : ai_Q} {R : sh_H → Prop} (hR : ∀ h, R h → Q none (sh_E h))  (k3 : Int32 → Int32 → Int32 → Int64 → Int32 → sh_H → Option sh_H) (hk3 : ∀ (l1 : Int32) (l2 : Int32) (l3 : Int32) (l4 : Int64) (l6 : Int32) {d5 d7 d8 d9 d10 : Option ai_V} (h : sh_H), sh_ok (k3 l1 l2 l3 l4 l6 h) R → wq_112 d Q 3 [oR 8 0, oI l1, oI l2, oI l3, oL l4, d5, oI l6, d7, d8, d9, d10] [] (sh_E h)) (l1 : Int32) (l2 : Int32) (l3 : Int32) (l4 : Int64) (l6 : Int32) (l7 : Int64) {d5 d8 d9 d10 : Option ai_V} (h : sh_H) (H : sh_ok (f_Stocks_takeWanted_b73 N k3 l1 l2 l3 l4 l6 l7 h) R) : wq_112 d Q 73 [oR 8 0, oI l1, oI l2, oI l3, oL l4, d5, oI l6, oL l7, d8, d9, d10] [] (sh_E h) := by
  have c := sh_okG H
  replace H := sh_okH H
  refine ai_WP_steps mc_112 (sh_CM d) 5 (And.intro c ?_)
  show wq_112 d Q 82 [oR 8 0, oI l1, oI l2, oI l3, oL l4, _, oI l6, oL l7, _, _, _] [] (sh_E (sh_pJ h 14 4 l6.toNatClampNeg l7))
  replace H := sh_okL H
  generalize sh_pJ h 14 4 l6.toNatClampNeg l7 = h4 at H ⊢
  refine ai_WP_steps mc_112 (sh_CM d) 2 ?_
  exact hk3 l1 l2 l3 l4 (l6 + (1 : Int32)) h4 H
def f_Stocks_takeWanted_l3 (N : Nat)  (k88 : sh_H → Option sh_H) (n : Nat) : Int32 → Int32 → Int32 → Int64 → Int32 → sh_H → Option sh_H := Nat.rec (motive := fun _ => Int32 → Int32 → Int32 → Int64 → Int32 → sh_H → Option sh_H) (fun _ _ _ _ _ _ => none) (fun _ k3 l1 l2 l3 l4 l6 h => (if l6 < (Int32.ofNat 61) then f_Stocks_takeWanted_l19 N (f_Stocks_takeWanted_b73 N k3) N l1 l2 l3 l4 l6 (0 : Int64) (0 : Int32) h else k88 h)) n
theorem x_Stocks_takeWanted_l3 (N : Nat) {d : Nat} (hd : 1 ≤ d) {Q : ai_Q} {R : sh_H → Prop} (hR : ∀ h, R h → Q none (sh_E h))  (k88 : sh_H → Option sh_H) (hk88 : ∀ {d0 d1 d2 d3 d4 d5 d6 d7 d8 d9 d10 : Option ai_V} (h : sh_H), sh_ok (k88 h) R → wq_112 d Q 88 [d0, d1, d2, d3, d4, d5, d6, d7, d8, d9, d10] [] (sh_E h)) (n : Nat) : ∀ (l1 : Int32) (l2 : Int32) (l3 : Int32) (l4 : Int64) (l6 : Int32) {d5 d7 d8 d9 d10 : Option ai_V} (h : sh_H), sh_ok (f_Stocks_takeWanted_l3 N k88 n l1 l2 l3 l4 l6 h) R → wq_112 d Q 3 [oR 8 0, oI l1, oI l2, oI l3, oL l4, d5, oI l6, d7, d8, d9, d10] [] (sh_E h) := by
  induction n with
  | zero => intro l1 l2 l3 l4 l6 d5 d7 d8 d9 d10 h H; exact H.elim
  | succ n ih =>
    intro l1 l2 l3 l4 l6 d5 d7 d8 d9 d10 h H
    have hk3 := @ih
    revert hk3 H
    show sh_ok ((fun k3 l1 l2 l3 l4 l6 h => (if l6 < (Int32.ofNat 61) then f_Stocks_takeWanted_l19 N (f_Stocks_takeWanted_b73 N k3) N l1 l2 l3 l4 l6 (0 : Int64) (0 : Int32) h else k88 h)) (f_Stocks_takeWanted_l3 N k88 n) l1 l2 l3 l4 l6 h) R → _
    generalize f_Stocks_takeWanted_l3 N k88 n = k3
    intro H hk3
    refine ai_WP_steps mc_112 (sh_CM d) 5 (And.intro (fun c => ?_) (fun c => ?_))
    · replace H := sh_okT c H
      show wq_112 d Q 13 [oR 8 0, oI l1, oI l2, oI l3, oL l4, _, oI l6, _, _, _, _] [] (sh_E h)
      refine ai_WP_steps mc_112 (sh_CM d) 4 ?_
      exact x_Stocks_takeWanted_l19 N hd hR (f_Stocks_takeWanted_b73 N k3) (fun z0 z1 z2 z3 z4 z5 {e5} {e8} {e9} {e10} h H => x_Stocks_takeWanted_b73 N hd hR k3 hk3 z0 z1 z2 z3 z4 z5 h H) N l1 l2 l3 l4 l6 (0 : Int64) (0 : Int32) h H
    · replace H := sh_okF c H
      exact hk88 h H
def f_Stocks_takeWanted_b88 (N : Nat)    (h : sh_H) : Option sh_H := (some h)
theorem x_Stocks_takeWanted_b88 (N : Nat) {d : Nat} (hd : 1 ≤ d) {Q : ai_Q} {R : sh_H → Prop} (hR : ∀ h, R h → Q none (sh_E h))    {d0 d1 d2 d3 d4 d5 d6 d7 d8 d9 d10 : Option ai_V} (h : sh_H) (H : sh_ok (f_Stocks_takeWanted_b88 N h) R) : wq_112 d Q 88 [d0, d1, d2, d3, d4, d5, d6, d7, d8, d9, d10] [] (sh_E h) := by
  exact ai_WP_steps mc_112 (sh_CM d) 1 (hR h H)
def f_Stocks_takeWanted (N : Nat)  (l1 : Int32) (l2 : Int32) (l3 : Int32) (l4 : Int64) (h : sh_H) : Option sh_H := f_Stocks_takeWanted_l3 N (f_Stocks_takeWanted_b88 N) N l1 l2 l3 l4 (0 : Int32) h
theorem x_Stocks_takeWanted (N : Nat) {d : Nat} (hd : 2 ≤ d) (l1 : Int32) (l2 : Int32) (l3 : Int32) (l4 : Int64) (h : sh_H) {Q : ai_Q} {R : sh_H → Prop} (H : sh_ok (f_Stocks_takeWanted N l1 l2 l3 l4 h) R) (hR : ∀ h, R h → Q none (sh_E h)) : ai_Ex sh_T d 112 [aR 8 0, aI l1, aI l2, aI l3, aL l4] (sh_E h) Q := by
  obtain ⟨d, rfl⟩ : ∃ e, d = e + 1 := ⟨d - 1, by omega⟩
  replace hd : 1 ≤ d := by omega
  refine And.intro (Nat.le_of_ble_eq_true rfl) ?_
  show wq_112 d Q 0 [oR 8 0, oI l1, oI l2, oI l3, oL l4, none, none, none, none, none, none] [] (sh_E h)
  refine ai_WP_steps mc_112 (sh_CM d) 2 ?_
  exact x_Stocks_takeWanted_l3 N hd hR (f_Stocks_takeWanted_b88 N) (fun {e0} {e1} {e2} {e3} {e4} {e5} {e6} {e7} {e8} {e9} {e10} h H => x_Stocks_takeWanted_b88 N hd hR  h H) N l1 l2 l3 l4 (0 : Int32) h H
def f_Stocks_plan_l3 (N : Nat)  (k45 : Nat → Int32 → Int32 → Int32 → Int32 → Int32 → sh_H → Option sh_H) (n : Nat) : Nat → Int32 → Int32 → Int32 → Int32 → Int32 → Int32 → sh_H → Option sh_H := Nat.rec (motive := fun _ => Nat → Int32 → Int32 → Int32 → Int32 → Int32 → Int32 → sh_H → Option sh_H) (fun _ _ _ _ _ _ _ _ => none) (fun _ k3 l1 l2 l3 l4 l5 l6 l7 h => (if l7 < (Int32.ofNat 61) then (if l7 < (Int32.ofNat 61) then (if ai_in l7 61 then (sh_let (sh_pJ h 14 3 l7.toNatClampNeg (0 : Int64)) (fun h1 => (if ai_in l7 61 then (sh_let (sh_pI h1 13 37 l7.toNatClampNeg (0 : Int32)) (fun h2 => k3 l1 l2 l3 l4 l5 l6 (l7 + (1 : Int32)) h2)) else none))) else none) else k45 l1 l2 l3 l4 l5 l6 h) else k45 l1 l2 l3 l4 l5 l6 h)) n
theorem x_Stocks_plan_l3 (N : Nat) {d : Nat} (hd : 4 ≤ d) {Q : ai_Q} {R : sh_H → Prop} (hR : ∀ h, R h → Q none (sh_E h))  (k45 : Nat → Int32 → Int32 → Int32 → Int32 → Int32 → sh_H → Option sh_H) (hk45 : ∀ (l1 : Nat) (l2 : Int32) (l3 : Int32) (l4 : Int32) (l5 : Int32) (l6 : Int32) {d7 d8 d9 d10 : Option ai_V} (h : sh_H), sh_ok (k45 l1 l2 l3 l4 l5 l6 h) R → wq_111 d Q 45 [oR 8 0, oR 9 l1, oI l2, oI l3, oI l4, oI l5, oI l6, d7, d8, d9, d10] [] (sh_E h)) (n : Nat) : ∀ (l1 : Nat) (l2 : Int32) (l3 : Int32) (l4 : Int32) (l5 : Int32) (l6 : Int32) (l7 : Int32) {d8 d9 d10 : Option ai_V} (h : sh_H), sh_ok (f_Stocks_plan_l3 N k45 n l1 l2 l3 l4 l5 l6 l7 h) R → wq_111 d Q 3 [oR 8 0, oR 9 l1, oI l2, oI l3, oI l4, oI l5, oI l6, oI l7, d8, d9, d10] [] (sh_E h) := by
  induction n with
  | zero => intro l1 l2 l3 l4 l5 l6 l7 d8 d9 d10 h H; exact H.elim
  | succ n ih =>
    intro l1 l2 l3 l4 l5 l6 l7 d8 d9 d10 h H
    have hk3 := @ih
    revert hk3 H
    show sh_ok ((fun k3 l1 l2 l3 l4 l5 l6 l7 h => (if l7 < (Int32.ofNat 61) then (if l7 < (Int32.ofNat 61) then (if ai_in l7 61 then (sh_let (sh_pJ h 14 3 l7.toNatClampNeg (0 : Int64)) (fun h1 => (if ai_in l7 61 then (sh_let (sh_pI h1 13 37 l7.toNatClampNeg (0 : Int32)) (fun h2 => k3 l1 l2 l3 l4 l5 l6 (l7 + (1 : Int32)) h2)) else none))) else none) else k45 l1 l2 l3 l4 l5 l6 h) else k45 l1 l2 l3 l4 l5 l6 h)) (f_Stocks_plan_l3 N k45 n) l1 l2 l3 l4 l5 l6 l7 h) R → _
    generalize f_Stocks_plan_l3 N k45 n = k3
    intro H hk3
    refine ai_WP_steps mc_111 (sh_CM d) 5 (And.intro (fun c => ?_) (fun c => ?_))
    · replace H := sh_okT c H
      show wq_111 d Q 13 [oR 8 0, oR 9 l1, oI l2, oI l3, oI l4, oI l5, oI l6, oI l7, _, _, _] [] (sh_E h)
      refine ai_WP_steps mc_111 (sh_CM d) 5 (And.intro (fun c => ?_) (fun c => ?_))
      · replace H := sh_okT c H
        show wq_111 d Q 23 [oR 8 0, oR 9 l1, oI l2, oI l3, oI l4, oI l5, oI l6, oI l7, _, _, _] [] (sh_E h)
        have c := sh_okG H
        replace H := sh_okH H
        refine ai_WP_steps mc_111 (sh_CM d) 5 (And.intro c ?_)
        show wq_111 d Q 31 [oR 8 0, oR 9 l1, oI l2, oI l3, oI l4, oI l5, oI l6, oI l7, _, _, _] [] (sh_E (sh_pJ h 14 3 l7.toNatClampNeg (0 : Int64)))
        replace H := sh_okL H
        generalize sh_pJ h 14 3 l7.toNatClampNeg (0 : Int64) = h1 at H ⊢
        have c := sh_okG H
        replace H := sh_okH H
        refine ai_WP_steps mc_111 (sh_CM d) 5 (And.intro c ?_)
        show wq_111 d Q 39 [oR 8 0, oR 9 l1, oI l2, oI l3, oI l4, oI l5, oI l6, oI l7, _, _, _] [] (sh_E (sh_pI h1 13 37 l7.toNatClampNeg (0 : Int32)))
        replace H := sh_okL H
        generalize sh_pI h1 13 37 l7.toNatClampNeg (0 : Int32) = h2 at H ⊢
        refine ai_WP_steps mc_111 (sh_CM d) 2 ?_
        exact hk3 l1 l2 l3 l4 l5 l6 (l7 + (1 : Int32)) h2 H
      · replace H := sh_okF c H
        exact hk45 l1 l2 l3 l4 l5 l6 h H
    · replace H := sh_okF c H
      exact hk45 l1 l2 l3 l4 l5 l6 h H
def f_Stocks_plan_l54 (N : Nat)  (k117 : sh_H → Option sh_H) (n : Nat) : Nat → Int32 → Int32 → Int32 → Int32 → Int64 → Int32 → sh_H → Option sh_H := Nat.rec (motive := fun _ => Nat → Int32 → Int32 → Int32 → Int32 → Int64 → Int32 → sh_H → Option sh_H) (fun _ _ _ _ _ _ _ _ => none) (fun _ k54 l1 l2 l3 l4 l6 l7 l9 h => (if l9 < 0 then k117 h else (if ¬ (12 : Int32) = 0 then (sh_b2 (f_Text_wanted N l1 l2 l3 ((l4 + l9) - (l4 + l9) / (12 : Int32) * (12 : Int32)) h) (fun v3 h4 => (Option.bind (f_Text_harmOf l1 l2 h4) (fun v5 => (Option.bind (f_Stocks_takeWanted N v3 l6 v5 l7 h4) (fun h6 => (Option.bind (f_Stocks_chooseOrders N l1 l2 l3 ((l4 + l9) - (l4 + l9) / (12 : Int32) * (12 : Int32)) (l7 * (l6 + (1 : Int32)).toInt64) h6) (fun h7 => k54 l1 l2 l3 l4 l6 (l7 * (l6 + (1 : Int32)).toInt64) (l9 + (-1 : Int32)) h7)))))))) else none))) n
theorem x_Stocks_plan_l54 (N : Nat) {d : Nat} (hd : 4 ≤ d) {Q : ai_Q} {R : sh_H → Prop} (hR : ∀ h, R h → Q none (sh_E h))  (k117 : sh_H → Option sh_H) (hk117 : ∀ {d0 d1 d2 d3 d4 d5 d6 d7 d8 d9 d10 : Option ai_V} (h : sh_H), sh_ok (k117 h) R → wq_111 d Q 117 [d0, d1, d2, d3, d4, d5, d6, d7, d8, d9, d10] [] (sh_E h)) (n : Nat) : ∀ (l1 : Nat) (l2 : Int32) (l3 : Int32) (l4 : Int32) (l6 : Int32) (l7 : Int64) (l9 : Int32) {d5 d8 d10 : Option ai_V} (h : sh_H), sh_ok (f_Stocks_plan_l54 N k117 n l1 l2 l3 l4 l6 l7 l9 h) R → wq_111 d Q 54 [oR 8 0, oR 9 l1, oI l2, oI l3, oI l4, d5, oI l6, oL l7, d8, oI l9, d10] [] (sh_E h) := by
  induction n with
  | zero => intro l1 l2 l3 l4 l6 l7 l9 d5 d8 d10 h H; exact H.elim
  | succ n ih =>
    intro l1 l2 l3 l4 l6 l7 l9 d5 d8 d10 h H
    have hk54 := @ih
    revert hk54 H
    show sh_ok ((fun k54 l1 l2 l3 l4 l6 l7 l9 h => (if l9 < 0 then k117 h else (if ¬ (12 : Int32) = 0 then (sh_b2 (f_Text_wanted N l1 l2 l3 ((l4 + l9) - (l4 + l9) / (12 : Int32) * (12 : Int32)) h) (fun v3 h4 => (Option.bind (f_Text_harmOf l1 l2 h4) (fun v5 => (Option.bind (f_Stocks_takeWanted N v3 l6 v5 l7 h4) (fun h6 => (Option.bind (f_Stocks_chooseOrders N l1 l2 l3 ((l4 + l9) - (l4 + l9) / (12 : Int32) * (12 : Int32)) (l7 * (l6 + (1 : Int32)).toInt64) h6) (fun h7 => k54 l1 l2 l3 l4 l6 (l7 * (l6 + (1 : Int32)).toInt64) (l9 + (-1 : Int32)) h7)))))))) else none))) (f_Stocks_plan_l54 N k117 n) l1 l2 l3 l4 l6 l7 l9 h) R → _
    generalize f_Stocks_plan_l54 N k117 n = k54
    intro H hk54
    refine ai_WP_steps mc_111 (sh_CM d) 2 (And.intro (fun c => ?_) (fun c => ?_))
    · replace H := sh_okT c H
      exact hk117 h H
    · replace H := sh_okF c H
      show wq_111 d Q 59 [oR 8 0, oR 9 l1, oI l2, oI l3, oI l4, _, oI l6, oL l7, _, oI l9, _] [] (sh_E h)
      have c := sh_okG H
      replace H := sh_okH H
      refine ai_WP_steps mc_111 (sh_CM d) 5 (And.intro c ?_)
      show wq_111 d Q 67 [oR 8 0, oR 9 l1, oI l2, oI l3, oI l4, _, oI l6, oL l7, _, oI l9, _] [aI ((l4 + l9) - (l4 + l9) / (12 : Int32) * (12 : Int32))] (sh_E h)
      refine ai_WP_steps mc_111 (sh_CM d) 7 (And.intro (Nat.le_of_ble_eq_true rfl) (x_Text_wanted N (Nat.le_trans (Nat.le_of_ble_eq_true rfl) hd) l1 l2 l3 ((l4 + l9) - (l4 + l9) / (12 : Int32) * (12 : Int32)) h (sh_okB H) (fun v3 h4 H => ?_)))
      show wq_111 d Q 78 [oR 8 0, oR 9 l1, oI l2, oI l3, oI l4, _, oI l6, oL l7, _, oI l9, oI ((l4 + l9) - (l4 + l9) / (12 : Int32) * (12 : Int32))] [aI v3, aR 8 0] (sh_E h4)
      refine ai_WP_steps mc_111 (sh_CM d) 4 (And.intro (Nat.le_of_ble_eq_true rfl) (x_Text_harmOf (Nat.le_trans (Nat.le_of_ble_eq_true rfl) hd) l1 l2 h4 (sh_okB H) (fun v5 H => ?_)))
      show wq_111 d Q 85 [oR 8 0, oR 9 l1, oI l2, oI l3, oI l4, _, oI l6, oL l7, _, oI l9, oI ((l4 + l9) - (l4 + l9) / (12 : Int32) * (12 : Int32))] [aI v5, aI l6, aI v3, aR 8 0] (sh_E h4)
      refine ai_WP_steps mc_111 (sh_CM d) 2 (And.intro (Nat.le_of_ble_eq_true rfl) (x_Stocks_takeWanted N (Nat.le_trans (Nat.le_of_ble_eq_true rfl) hd) v3 l6 v5 l7 h4 (sh_okB H) (fun h6 H => ?_)))
      show wq_111 d Q 90 [oR 8 0, oR 9 l1, oI l2, oI l3, oI l4, _, oI l6, oL l7, _, oI l9, oI ((l4 + l9) - (l4 + l9) / (12 : Int32) * (12 : Int32))] [] (sh_E h6)
      refine ai_WP_steps mc_111 (sh_CM d) 14 (And.intro (Nat.le_of_ble_eq_true rfl) (x_Stocks_chooseOrders N (Nat.le_trans (Nat.le_of_ble_eq_true rfl) hd) l1 l2 l3 ((l4 + l9) - (l4 + l9) / (12 : Int32) * (12 : Int32)) (l7 * (l6 + (1 : Int32)).toInt64) h6 (sh_okB H) (fun h7 H => ?_)))
      show wq_111 d Q 111 [oR 8 0, oR 9 l1, oI l2, oI l3, oI l4, _, oI l6, oL (l7 * (l6 + (1 : Int32)).toInt64), _, oI l9, oI ((l4 + l9) - (l4 + l9) / (12 : Int32) * (12 : Int32))] [] (sh_E h7)
      refine ai_WP_steps mc_111 (sh_CM d) 2 ?_
      exact hk54 l1 l2 l3 l4 l6 (l7 * (l6 + (1 : Int32)).toInt64) (l9 + (-1 : Int32)) h7 H
def f_Stocks_plan_b117 (N : Nat)    (h : sh_H) : Option sh_H := (some h)
theorem x_Stocks_plan_b117 (N : Nat) {d : Nat} (hd : 4 ≤ d) {Q : ai_Q} {R : sh_H → Prop} (hR : ∀ h, R h → Q none (sh_E h))    {d0 d1 d2 d3 d4 d5 d6 d7 d8 d9 d10 : Option ai_V} (h : sh_H) (H : sh_ok (f_Stocks_plan_b117 N h) R) : wq_111 d Q 117 [d0, d1, d2, d3, d4, d5, d6, d7, d8, d9, d10] [] (sh_E h) := by
  exact ai_WP_steps mc_111 (sh_CM d) 1 (hR h H)
def f_Stocks_plan_b45 (N : Nat)   (l1 : Nat) (l2 : Int32) (l3 : Int32) (l4 : Int32) (l5 : Int32) (l6 : Int32) (h : sh_H) : Option sh_H := f_Stocks_plan_l54 N (f_Stocks_plan_b117 N) N l1 l2 l3 l4 l6 (1 : Int64) (l5 - (1 : Int32)) h
theorem x_Stocks_plan_b45 (N : Nat) {d : Nat} (hd : 4 ≤ d) {Q : ai_Q} {R : sh_H → Prop} (hR : ∀ h, R h → Q none (sh_E h))   (l1 : Nat) (l2 : Int32) (l3 : Int32) (l4 : Int32) (l5 : Int32) (l6 : Int32) {d7 d8 d9 d10 : Option ai_V} (h : sh_H) (H : sh_ok (f_Stocks_plan_b45 N l1 l2 l3 l4 l5 l6 h) R) : wq_111 d Q 45 [oR 8 0, oR 9 l1, oI l2, oI l3, oI l4, oI l5, oI l6, d7, d8, d9, d10] [] (sh_E h) := by
  refine ai_WP_steps mc_111 (sh_CM d) 6 ?_
  exact x_Stocks_plan_l54 N hd hR (f_Stocks_plan_b117 N) (fun {e0} {e1} {e2} {e3} {e4} {e5} {e6} {e7} {e8} {e9} {e10} h H => x_Stocks_plan_b117 N hd hR  h H) N l1 l2 l3 l4 l6 (1 : Int64) (l5 - (1 : Int32)) h H
def f_Stocks_plan (N : Nat)  (l1 : Nat) (l2 : Int32) (l3 : Int32) (l4 : Int32) (l5 : Int32) (l6 : Int32) (h : sh_H) : Option sh_H := f_Stocks_plan_l3 N (f_Stocks_plan_b45 N) N l1 l2 l3 l4 l5 l6 (0 : Int32) h
theorem x_Stocks_plan (N : Nat) {d : Nat} (hd : 5 ≤ d) (l1 : Nat) (l2 : Int32) (l3 : Int32) (l4 : Int32) (l5 : Int32) (l6 : Int32) (h : sh_H) {Q : ai_Q} {R : sh_H → Prop} (H : sh_ok (f_Stocks_plan N l1 l2 l3 l4 l5 l6 h) R) (hR : ∀ h, R h → Q none (sh_E h)) : ai_Ex sh_T d 111 [aR 8 0, aR 9 l1, aI l2, aI l3, aI l4, aI l5, aI l6] (sh_E h) Q := by
  obtain ⟨d, rfl⟩ : ∃ e, d = e + 1 := ⟨d - 1, by omega⟩
  replace hd : 4 ≤ d := by omega
  refine And.intro (Nat.le_of_ble_eq_true rfl) ?_
  show wq_111 d Q 0 [oR 8 0, oR 9 l1, oI l2, oI l3, oI l4, oI l5, oI l6, none, none, none, none] [] (sh_E h)
  refine ai_WP_steps mc_111 (sh_CM d) 2 ?_
  exact x_Stocks_plan_l3 N hd hR (f_Stocks_plan_b45 N) (fun z0 z1 z2 z3 z4 z5 {e7} {e8} {e9} {e10} h H => x_Stocks_plan_b45 N hd hR z0 z1 z2 z3 z4 z5 h H) N l1 l2 l3 l4 l5 l6 (0 : Int32) h H
def f_Stocks_brings_b22    (h : sh_H) : Option Int32 := (some (0 : Int32))
theorem x_Stocks_brings_b22 {d : Nat} (hd : 0 ≤ d) (h : sh_H) {Q : ai_Q} {R : Int32 → Prop} (hR : ∀ r, R r → Q (some (aI r)) (sh_E h))    {d0 d1 : Option ai_V} (H : sh_ok (f_Stocks_brings_b22 h) R) : wq_116 d Q 22 [d0, d1] [] (sh_E h) := by
  exact ai_WP_steps mc_116 (sh_CM d) 2 (hR (0 : Int32) H)
def f_Stocks_brings  (l1 : Int32) (h : sh_H) : Option Int32 := (if l1 < 0 then f_Stocks_brings_b22 h else (if l1 < (Int32.ofNat 61) then (if ai_in l1 61 then (some (h.1 13 37 l1.toNatClampNeg)) else none) else f_Stocks_brings_b22 h))
theorem x_Stocks_brings {d : Nat} (hd : 1 ≤ d) (l1 : Int32) (h : sh_H) {Q : ai_Q} {R : Int32 → Prop} (H : sh_ok (f_Stocks_brings l1 h) R) (hR : ∀ r, R r → Q (some (aI r)) (sh_E h)) : ai_Ex sh_T d 116 [aR 8 0, aI l1] (sh_E h) Q := by
  obtain ⟨d, rfl⟩ : ∃ e, d = e + 1 := ⟨d - 1, by omega⟩
  replace hd : 0 ≤ d := by omega
  refine And.intro (Nat.le_of_ble_eq_true rfl) ?_
  show wq_116 d Q 0 [oR 8 0, oI l1] [] (sh_E h)
  refine ai_WP_steps mc_116 (sh_CM d) 2 (And.intro (fun c => ?_) (fun c => ?_))
  · replace H := sh_okT c H
    exact x_Stocks_brings_b22 hd h hR H
  · replace H := sh_okF c H
    show wq_116 d Q 4 [oR 8 0, oI l1] [] (sh_E h)
    refine ai_WP_steps mc_116 (sh_CM d) 5 (And.intro (fun c => ?_) (fun c => ?_))
    · replace H := sh_okT c H
      show wq_116 d Q 13 [oR 8 0, oI l1] [] (sh_E h)
      have c := sh_okG H
      replace H := sh_okH H
      refine ai_WP_steps mc_116 (sh_CM d) 4 (And.intro c ?_)
      show wq_116 d Q 19 [oR 8 0, oI l1] [aI (h.1 13 37 l1.toNatClampNeg)] (sh_E h)
      exact ai_WP_steps mc_116 (sh_CM d) 2 (hR (h.1 13 37 l1.toNatClampNeg) H)
    · replace H := sh_okF c H
      exact x_Stocks_brings_b22 hd h hR H
def f_Stocks_isIn  (l0 : Int32) (l1 : Int32) (h : sh_H) : Option Int32 := (if ((l0 >>> ((l1 - (1 : Int32)) &&& 31)) &&& (1 : Int32)) = 0 then (some (ai_nar 1 (0 : Int32))) else (some (ai_nar 1 (1 : Int32))))
theorem x_Stocks_isIn {d : Nat} (hd : 1 ≤ d) (l0 : Int32) (l1 : Int32) (h : sh_H) {Q : ai_Q} {R : Int32 → Prop} (H : sh_ok (f_Stocks_isIn l0 l1 h) R) (hR : ∀ r, R r → Q (some (aI r)) (sh_E h)) : ai_Ex sh_T d 120 [aI l0, aI l1] (sh_E h) Q := by
  obtain ⟨d, rfl⟩ : ∃ e, d = e + 1 := ⟨d - 1, by omega⟩
  replace hd : 0 ≤ d := by omega
  refine And.intro (Nat.le_of_ble_eq_true rfl) ?_
  show wq_120 d Q 0 [oI l0, oI l1] [] (sh_E h)
  refine ai_WP_steps mc_120 (sh_CM d) 8 (And.intro (fun c => ?_) (fun c => ?_))
  · replace H := sh_okT c H
    show wq_120 d Q 14 [oI l0, oI l1] [] (sh_E h)
    exact ai_WP_steps mc_120 (sh_CM d) 2 (hR (ai_nar 1 (0 : Int32)) H)
  · replace H := sh_okF c H
    show wq_120 d Q 10 [oI l0, oI l1] [] (sh_E h)
    exact ai_WP_steps mc_120 (sh_CM d) 3 (hR (ai_nar 1 (1 : Int32)) H)
def f_Stocks_mostHarmed_b43 (N : Nat)  (k4 : Nat → Int32 → Int32 → Int32 → sh_H → Option Int32) (l0 : Nat) (l1 : Int32) (l2 : Int32) (l3 : Int32) (h : sh_H) : Option Int32 := k4 l0 l1 l2 (l3 + (1 : Int32)) h
theorem x_Stocks_mostHarmed_b43 (N : Nat) {d : Nat} (hd : 3 ≤ d) (h : sh_H) {Q : ai_Q} {R : Int32 → Prop} (hR : ∀ r, R r → Q (some (aI r)) (sh_E h))  (k4 : Nat → Int32 → Int32 → Int32 → sh_H → Option Int32) (hk4 : ∀ (l0 : Nat) (l1 : Int32) (l2 : Int32) (l3 : Int32), sh_ok (k4 l0 l1 l2 l3 h) R → wq_119 d Q 4 [oR 9 l0, oI l1, oI l2, oI l3] [] (sh_E h)) (l0 : Nat) (l1 : Int32) (l2 : Int32) (l3 : Int32) (H : sh_ok (f_Stocks_mostHarmed_b43 N k4 l0 l1 l2 l3 h) R) : wq_119 d Q 43 [oR 9 l0, oI l1, oI l2, oI l3] [] (sh_E h) := by
  refine ai_WP_steps mc_119 (sh_CM d) 2 ?_
  exact hk4 l0 l1 l2 (l3 + (1 : Int32)) H
def f_Stocks_mostHarmed_b41 (N : Nat)  (k4 : Nat → Int32 → Int32 → Int32 → sh_H → Option Int32) (l0 : Nat) (l1 : Int32) (l3 : Int32) (h : sh_H) : Option Int32 := f_Stocks_mostHarmed_b43 N k4 l0 l1 l3 l3 h
theorem x_Stocks_mostHarmed_b41 (N : Nat) {d : Nat} (hd : 3 ≤ d) (h : sh_H) {Q : ai_Q} {R : Int32 → Prop} (hR : ∀ r, R r → Q (some (aI r)) (sh_E h))  (k4 : Nat → Int32 → Int32 → Int32 → sh_H → Option Int32) (hk4 : ∀ (l0 : Nat) (l1 : Int32) (l2 : Int32) (l3 : Int32), sh_ok (k4 l0 l1 l2 l3 h) R → wq_119 d Q 4 [oR 9 l0, oI l1, oI l2, oI l3] [] (sh_E h)) (l0 : Nat) (l1 : Int32) (l3 : Int32) {d2 : Option ai_V} (H : sh_ok (f_Stocks_mostHarmed_b41 N k4 l0 l1 l3 h) R) : wq_119 d Q 41 [oR 9 l0, oI l1, d2, oI l3] [] (sh_E h) := by
  refine ai_WP_steps mc_119 (sh_CM d) 2 ?_
  exact x_Stocks_mostHarmed_b43 N hd h hR k4 hk4 l0 l1 l3 l3 H
def f_Stocks_mostHarmed_l4 (N : Nat)  (k49 : Int32 → sh_H → Option Int32) (n : Nat) : Nat → Int32 → Int32 → Int32 → sh_H → Option Int32 := Nat.rec (motive := fun _ => Nat → Int32 → Int32 → Int32 → sh_H → Option Int32) (fun _ _ _ _ _ => none) (fun _ k4 l0 l1 l2 l3 h => (Option.bind (f_Rows_size (7 * l0 + 1) h) (fun v1 => (if v1 < l3 then k49 l2 h else (Option.bind (f_Stocks_isIn l1 l3 h) (fun v2 => (if v2 = 0 then f_Stocks_mostHarmed_b43 N k4 l0 l1 l2 l3 h else (if l2 = (-1 : Int32) then f_Stocks_mostHarmed_b41 N k4 l0 l1 l3 h else (Option.bind (f_Text_harmOf l0 l3 h) (fun v3 => (Option.bind (f_Text_harmOf l0 l2 h) (fun v4 => (if v4 < v3 then f_Stocks_mostHarmed_b41 N k4 l0 l1 l3 h else f_Stocks_mostHarmed_b43 N k4 l0 l1 l2 l3 h))))))))))))) n
theorem x_Stocks_mostHarmed_l4 (N : Nat) {d : Nat} (hd : 3 ≤ d) (h : sh_H) {Q : ai_Q} {R : Int32 → Prop} (hR : ∀ r, R r → Q (some (aI r)) (sh_E h))  (k49 : Int32 → sh_H → Option Int32) (hk49 : ∀ (l2 : Int32) {d0 d1 d3 : Option ai_V}, sh_ok (k49 l2 h) R → wq_119 d Q 49 [d0, d1, oI l2, d3] [] (sh_E h)) (n : Nat) : ∀ (l0 : Nat) (l1 : Int32) (l2 : Int32) (l3 : Int32), sh_ok (f_Stocks_mostHarmed_l4 N k49 n l0 l1 l2 l3 h) R → wq_119 d Q 4 [oR 9 l0, oI l1, oI l2, oI l3] [] (sh_E h) := by
  induction n with
  | zero => intro l0 l1 l2 l3 H; exact H.elim
  | succ n ih =>
    intro l0 l1 l2 l3 H
    have hk4 := @ih
    revert hk4 H
    show sh_ok ((fun k4 l0 l1 l2 l3 h => (Option.bind (f_Rows_size (7 * l0 + 1) h) (fun v1 => (if v1 < l3 then k49 l2 h else (Option.bind (f_Stocks_isIn l1 l3 h) (fun v2 => (if v2 = 0 then f_Stocks_mostHarmed_b43 N k4 l0 l1 l2 l3 h else (if l2 = (-1 : Int32) then f_Stocks_mostHarmed_b41 N k4 l0 l1 l3 h else (Option.bind (f_Text_harmOf l0 l3 h) (fun v3 => (Option.bind (f_Text_harmOf l0 l2 h) (fun v4 => (if v4 < v3 then f_Stocks_mostHarmed_b41 N k4 l0 l1 l3 h else f_Stocks_mostHarmed_b43 N k4 l0 l1 l2 l3 h))))))))))))) (f_Stocks_mostHarmed_l4 N k49 n) l0 l1 l2 l3 h) R → _
    generalize f_Stocks_mostHarmed_l4 N k49 n = k4
    intro H hk4
    refine ai_WP_steps mc_119 (sh_CM d) 4 (And.intro (Nat.le_of_ble_eq_true rfl) (x_Rows_size (Nat.le_trans (Nat.le_of_ble_eq_true rfl) hd) (7 * l0 + 1) h (sh_okB H) (fun v1 H => ?_)))
    show wq_119 d Q 12 [oR 9 l0, oI l1, oI l2, oI l3] [aI v1, aI l3] (sh_E h)
    refine ai_WP_steps mc_119 (sh_CM d) 1 (And.intro (fun c => ?_) (fun c => ?_))
    · replace H := sh_okT c H
      exact hk49 l2 H
    · replace H := sh_okF c H
      show wq_119 d Q 15 [oR 9 l0, oI l1, oI l2, oI l3] [] (sh_E h)
      refine ai_WP_steps mc_119 (sh_CM d) 3 (And.intro (Nat.le_of_ble_eq_true rfl) (x_Stocks_isIn (Nat.le_trans (Nat.le_of_ble_eq_true rfl) hd) l1 l3 h (sh_okB H) (fun v2 H => ?_)))
      show wq_119 d Q 20 [oR 9 l0, oI l1, oI l2, oI l3] [aI v2] (sh_E h)
      refine ai_WP_steps mc_119 (sh_CM d) 1 (And.intro (fun c => ?_) (fun c => ?_))
      · replace H := sh_okT c H
        exact x_Stocks_mostHarmed_b43 N hd h hR k4 hk4 l0 l1 l2 l3 H
      · replace H := sh_okF c H
        show wq_119 d Q 23 [oR 9 l0, oI l1, oI l2, oI l3] [] (sh_E h)
        refine ai_WP_steps mc_119 (sh_CM d) 3 (And.intro (fun c => ?_) (fun c => ?_))
        · replace H := sh_okT c H
          exact x_Stocks_mostHarmed_b41 N hd h hR k4 hk4 l0 l1 l3 H
        · replace H := sh_okF c H
          show wq_119 d Q 28 [oR 9 l0, oI l1, oI l2, oI l3] [] (sh_E h)
          refine ai_WP_steps mc_119 (sh_CM d) 3 (And.intro (Nat.le_of_ble_eq_true rfl) (x_Text_harmOf (Nat.le_trans (Nat.le_of_ble_eq_true rfl) hd) l0 l3 h (sh_okB H) (fun v3 H => ?_)))
          show wq_119 d Q 33 [oR 9 l0, oI l1, oI l2, oI l3] [aI v3] (sh_E h)
          refine ai_WP_steps mc_119 (sh_CM d) 3 (And.intro (Nat.le_of_ble_eq_true rfl) (x_Text_harmOf (Nat.le_trans (Nat.le_of_ble_eq_true rfl) hd) l0 l2 h (sh_okB H) (fun v4 H => ?_)))
          show wq_119 d Q 38 [oR 9 l0, oI l1, oI l2, oI l3] [aI v4, aI v3] (sh_E h)
          refine ai_WP_steps mc_119 (sh_CM d) 1 (And.intro (fun c => ?_) (fun c => ?_))
          · replace H := sh_okT c H
            exact x_Stocks_mostHarmed_b41 N hd h hR k4 hk4 l0 l1 l3 H
          · replace H := sh_okF c H
            exact x_Stocks_mostHarmed_b43 N hd h hR k4 hk4 l0 l1 l2 l3 H
def f_Stocks_mostHarmed_b49 (N : Nat)   (l2 : Int32) (h : sh_H) : Option Int32 := (some l2)
theorem x_Stocks_mostHarmed_b49 (N : Nat) {d : Nat} (hd : 3 ≤ d) (h : sh_H) {Q : ai_Q} {R : Int32 → Prop} (hR : ∀ r, R r → Q (some (aI r)) (sh_E h))   (l2 : Int32) {d0 d1 d3 : Option ai_V} (H : sh_ok (f_Stocks_mostHarmed_b49 N l2 h) R) : wq_119 d Q 49 [d0, d1, oI l2, d3] [] (sh_E h) := by
  exact ai_WP_steps mc_119 (sh_CM d) 2 (hR l2 H)
def f_Stocks_mostHarmed (N : Nat)  (l0 : Nat) (l1 : Int32) (h : sh_H) : Option Int32 := f_Stocks_mostHarmed_l4 N (f_Stocks_mostHarmed_b49 N) N l0 l1 (-1 : Int32) (1 : Int32) h
theorem x_Stocks_mostHarmed (N : Nat) {d : Nat} (hd : 4 ≤ d) (l0 : Nat) (l1 : Int32) (h : sh_H) {Q : ai_Q} {R : Int32 → Prop} (H : sh_ok (f_Stocks_mostHarmed N l0 l1 h) R) (hR : ∀ r, R r → Q (some (aI r)) (sh_E h)) : ai_Ex sh_T d 119 [aR 9 l0, aI l1] (sh_E h) Q := by
  obtain ⟨d, rfl⟩ : ∃ e, d = e + 1 := ⟨d - 1, by omega⟩
  replace hd : 3 ≤ d := by omega
  refine And.intro (Nat.le_of_ble_eq_true rfl) ?_
  show wq_119 d Q 0 [oR 9 l0, oI l1, none, none] [] (sh_E h)
  refine ai_WP_steps mc_119 (sh_CM d) 4 ?_
  exact x_Stocks_mostHarmed_l4 N hd h hR (f_Stocks_mostHarmed_b49 N) (fun z0 {e0} {e1} {e3} H => x_Stocks_mostHarmed_b49 N hd h hR z0 H) N l0 l1 (-1 : Int32) (1 : Int32) H
def f_Stocks_harm_b41 (N : Nat)  (k6 : Nat → Nat → Int32 → Int32 → Int32 → Int32 → Int32 → sh_H → Option (Int32 × sh_H)) (l0 : Nat) (l1 : Nat) (l2 : Int32) (l3 : Int32) (l4 : Int32) (l6 : Int32) (s0 : Int32) (s1 : Int32) (h : sh_H) : Option (Int32 × sh_H) := k6 l0 l1 l2 l3 l4 (s0 + s1) (l6 + (1 : Int32)) h
theorem x_Stocks_harm_b41 (N : Nat) {d : Nat} (hd : 4 ≤ d) {Q : ai_Q} {R : Int32 × sh_H → Prop} (hR : ∀ r h, R (r, h) → Q (some (aI r)) (sh_E h))  (k6 : Nat → Nat → Int32 → Int32 → Int32 → Int32 → Int32 → sh_H → Option (Int32 × sh_H)) (hk6 : ∀ (l0 : Nat) (l1 : Nat) (l2 : Int32) (l3 : Int32) (l4 : Int32) (l5 : Int32) (l6 : Int32) {d7 d8 d9 d10 d11 : Option ai_V} (h : sh_H), sh_ok (k6 l0 l1 l2 l3 l4 l5 l6 h) R → wq_118 d Q 6 [oR 9 l0, oR 4 l1, oI l2, oI l3, oI l4, oI l5, oI l6, d7, d8, d9, d10, d11] [] (sh_E h)) (l0 : Nat) (l1 : Nat) (l2 : Int32) (l3 : Int32) (l4 : Int32) (l6 : Int32) (s0 : Int32) (s1 : Int32) {d5 d7 d8 d9 d10 d11 : Option ai_V} (h : sh_H) (H : sh_ok (f_Stocks_harm_b41 N k6 l0 l1 l2 l3 l4 l6 s0 s1 h) R) : wq_118 d Q 41 [oR 9 l0, oR 4 l1, oI l2, oI l3, oI l4, d5, oI l6, d7, d8, d9, d10, d11] [aI s1, aI s0] (sh_E h) := by
  refine ai_WP_steps mc_118 (sh_CM d) 4 ?_
  exact hk6 l0 l1 l2 l3 l4 (s0 + s1) (l6 + (1 : Int32)) h H
def f_Stocks_harm_l6 (N : Nat)  (k50 : Nat → Int32 → Int32 → Int32 → Int32 → sh_H → Option (Int32 × sh_H)) (n : Nat) : Nat → Nat → Int32 → Int32 → Int32 → Int32 → Int32 → sh_H → Option (Int32 × sh_H) := Nat.rec (motive := fun _ => Nat → Nat → Int32 → Int32 → Int32 → Int32 → Int32 → sh_H → Option (Int32 × sh_H)) (fun _ _ _ _ _ _ _ _ => none) (fun _ k6 l0 l1 l2 l3 l4 l5 l6 h => (Option.bind (f_Rows_size (7 * l0 + 1) h) (fun v1 => (if v1 < l6 then k50 l0 l2 l3 l4 l5 h else (Option.bind (f_Stocks_isIn l4 l6 h) (fun v2 => (if v2 = 0 then f_Stocks_harm_b41 N k6 l0 l1 l2 l3 l4 l6 l5 (0 : Int32) h else (Option.bind (f_Pieces_all N l1 l6 l2 h) (fun v3 => f_Stocks_harm_b41 N k6 l0 l1 l2 l3 l4 l6 l5 v3 h))))))))) n
theorem x_Stocks_harm_l6 (N : Nat) {d : Nat} (hd : 4 ≤ d) {Q : ai_Q} {R : Int32 × sh_H → Prop} (hR : ∀ r h, R (r, h) → Q (some (aI r)) (sh_E h))  (k50 : Nat → Int32 → Int32 → Int32 → Int32 → sh_H → Option (Int32 × sh_H)) (hk50 : ∀ (l0 : Nat) (l2 : Int32) (l3 : Int32) (l4 : Int32) (l5 : Int32) {d1 d6 d7 d8 d9 d10 d11 : Option ai_V} (h : sh_H), sh_ok (k50 l0 l2 l3 l4 l5 h) R → wq_118 d Q 50 [oR 9 l0, d1, oI l2, oI l3, oI l4, oI l5, d6, d7, d8, d9, d10, d11] [] (sh_E h)) (n : Nat) : ∀ (l0 : Nat) (l1 : Nat) (l2 : Int32) (l3 : Int32) (l4 : Int32) (l5 : Int32) (l6 : Int32) {d7 d8 d9 d10 d11 : Option ai_V} (h : sh_H), sh_ok (f_Stocks_harm_l6 N k50 n l0 l1 l2 l3 l4 l5 l6 h) R → wq_118 d Q 6 [oR 9 l0, oR 4 l1, oI l2, oI l3, oI l4, oI l5, oI l6, d7, d8, d9, d10, d11] [] (sh_E h) := by
  induction n with
  | zero => intro l0 l1 l2 l3 l4 l5 l6 d7 d8 d9 d10 d11 h H; exact H.elim
  | succ n ih =>
    intro l0 l1 l2 l3 l4 l5 l6 d7 d8 d9 d10 d11 h H
    have hk6 := @ih
    revert hk6 H
    show sh_ok ((fun k6 l0 l1 l2 l3 l4 l5 l6 h => (Option.bind (f_Rows_size (7 * l0 + 1) h) (fun v1 => (if v1 < l6 then k50 l0 l2 l3 l4 l5 h else (Option.bind (f_Stocks_isIn l4 l6 h) (fun v2 => (if v2 = 0 then f_Stocks_harm_b41 N k6 l0 l1 l2 l3 l4 l6 l5 (0 : Int32) h else (Option.bind (f_Pieces_all N l1 l6 l2 h) (fun v3 => f_Stocks_harm_b41 N k6 l0 l1 l2 l3 l4 l6 l5 v3 h))))))))) (f_Stocks_harm_l6 N k50 n) l0 l1 l2 l3 l4 l5 l6 h) R → _
    generalize f_Stocks_harm_l6 N k50 n = k6
    intro H hk6
    refine ai_WP_steps mc_118 (sh_CM d) 4 (And.intro (Nat.le_of_ble_eq_true rfl) (x_Rows_size (Nat.le_trans (Nat.le_of_ble_eq_true rfl) hd) (7 * l0 + 1) h (sh_okB H) (fun v1 H => ?_)))
    show wq_118 d Q 15 [oR 9 l0, oR 4 l1, oI l2, oI l3, oI l4, oI l5, oI l6, _, _, _, _, _] [aI v1, aI l6] (sh_E h)
    refine ai_WP_steps mc_118 (sh_CM d) 1 (And.intro (fun c => ?_) (fun c => ?_))
    · replace H := sh_okT c H
      exact hk50 l0 l2 l3 l4 l5 h H
    · replace H := sh_okF c H
      show wq_118 d Q 18 [oR 9 l0, oR 4 l1, oI l2, oI l3, oI l4, oI l5, oI l6, _, _, _, _, _] [] (sh_E h)
      refine ai_WP_steps mc_118 (sh_CM d) 4 (And.intro (Nat.le_of_ble_eq_true rfl) (x_Stocks_isIn (Nat.le_trans (Nat.le_of_ble_eq_true rfl) hd) l4 l6 h (sh_okB H) (fun v2 H => ?_)))
      show wq_118 d Q 27 [oR 9 l0, oR 4 l1, oI l2, oI l3, oI l4, oI l5, oI l6, _, _, _, _, _] [aI v2, aI l5] (sh_E h)
      refine ai_WP_steps mc_118 (sh_CM d) 1 (And.intro (fun c => ?_) (fun c => ?_))
      · replace H := sh_okT c H
        show wq_118 d Q 40 [oR 9 l0, oR 4 l1, oI l2, oI l3, oI l4, oI l5, oI l6, _, _, _, _, _] [aI l5] (sh_E h)
        refine ai_WP_steps mc_118 (sh_CM d) 1 ?_
        exact x_Stocks_harm_b41 N hd hR k6 hk6 l0 l1 l2 l3 l4 l6 l5 (0 : Int32) h H
      · replace H := sh_okF c H
        show wq_118 d Q 30 [oR 9 l0, oR 4 l1, oI l2, oI l3, oI l4, oI l5, oI l6, _, _, _, _, _] [aI l5] (sh_E h)
        refine ai_WP_steps mc_118 (sh_CM d) 4 (And.intro (Nat.le_of_ble_eq_true rfl) (x_Pieces_all N (Nat.le_trans (Nat.le_of_ble_eq_true rfl) hd) l1 l6 l2 h (sh_okB H) (fun v3 H => ?_)))
        show wq_118 d Q 37 [oR 9 l0, oR 4 l1, oI l2, oI l3, oI l4, oI l5, oI l6, _, _, _, _, _] [aI v3, aI l5] (sh_E h)
        refine ai_WP_steps mc_118 (sh_CM d) 1 ?_
        exact x_Stocks_harm_b41 N hd hR k6 hk6 l0 l1 l2 l3 l4 l6 l5 v3 h H
def f_Stocks_harm_b136 (N : Nat)  (k60 : Nat → Int32 → Int32 → Int32 → Int32 → Int32 → Int32 → sh_H → Option (Int32 × sh_H)) (l0 : Nat) (l2 : Int32) (l3 : Int32) (l5 : Int32) (l6 : Int32) (l7 : Int32) (l8 : Int32) (h : sh_H) : Option (Int32 × sh_H) := k60 l0 l2 l3 l5 l6 l7 (l8 + (1 : Int32)) h
theorem x_Stocks_harm_b136 (N : Nat) {d : Nat} (hd : 4 ≤ d) {Q : ai_Q} {R : Int32 × sh_H → Prop} (hR : ∀ r h, R (r, h) → Q (some (aI r)) (sh_E h))  (k60 : Nat → Int32 → Int32 → Int32 → Int32 → Int32 → Int32 → sh_H → Option (Int32 × sh_H)) (hk60 : ∀ (l0 : Nat) (l2 : Int32) (l3 : Int32) (l5 : Int32) (l6 : Int32) (l7 : Int32) (l8 : Int32) {d1 d4 d9 d10 d11 : Option ai_V} (h : sh_H), sh_ok (k60 l0 l2 l3 l5 l6 l7 l8 h) R → wq_118 d Q 60 [oR 9 l0, d1, oI l2, oI l3, d4, oI l5, oI l6, oI l7, oI l8, d9, d10, d11] [] (sh_E h)) (l0 : Nat) (l2 : Int32) (l3 : Int32) (l5 : Int32) (l6 : Int32) (l7 : Int32) (l8 : Int32) {d1 d4 d9 d10 d11 : Option ai_V} (h : sh_H) (H : sh_ok (f_Stocks_harm_b136 N k60 l0 l2 l3 l5 l6 l7 l8 h) R) : wq_118 d Q 136 [oR 9 l0, d1, oI l2, oI l3, d4, oI l5, oI l6, oI l7, oI l8, d9, d10, d11] [] (sh_E h) := by
  refine ai_WP_steps mc_118 (sh_CM d) 2 ?_
  exact hk60 l0 l2 l3 l5 l6 l7 (l8 + (1 : Int32)) h H
def f_Stocks_harm_l60 (N : Nat)  (k142 : Int32 → sh_H → Option (Int32 × sh_H)) (n : Nat) : Nat → Int32 → Int32 → Int32 → Int32 → Int32 → Int32 → sh_H → Option (Int32 × sh_H) := Nat.rec (motive := fun _ => Nat → Int32 → Int32 → Int32 → Int32 → Int32 → Int32 → sh_H → Option (Int32 × sh_H)) (fun _ _ _ _ _ _ _ _ => none) (fun _ k60 l0 l2 l3 l5 l6 l7 l8 h => (if l8 < (4 : Int32) then (Option.bind (f_Stocks_mostHarmed N l0 l7 h) (fun v4 => (if v4 = (-1 : Int32) then f_Stocks_harm_b136 N k60 l0 l2 l3 l5 l6 l7 l8 h else (sh_b2 (f_Text_wanted N l0 v4 l2 l3 h) (fun v5 h6 => (Option.bind (f_Math_min l5 v5 h6) (fun v7 => (Option.bind (f_Text_harmOf l0 v4 h6) (fun v8 => f_Stocks_harm_b136 N k60 l0 l2 l3 (l5 - v7) (l6 + ((v5 - v7) * v8)) (l7 &&& (((1 : Int32) <<< ((v4 - (1 : Int32)) &&& 31)) ^^^ (-1 : Int32))) l8 h6))))))))) else k142 l6 h)) n
theorem x_Stocks_harm_l60 (N : Nat) {d : Nat} (hd : 4 ≤ d) {Q : ai_Q} {R : Int32 × sh_H → Prop} (hR : ∀ r h, R (r, h) → Q (some (aI r)) (sh_E h))  (k142 : Int32 → sh_H → Option (Int32 × sh_H)) (hk142 : ∀ (l6 : Int32) {d0 d1 d2 d3 d4 d5 d7 d8 d9 d10 d11 : Option ai_V} (h : sh_H), sh_ok (k142 l6 h) R → wq_118 d Q 142 [d0, d1, d2, d3, d4, d5, oI l6, d7, d8, d9, d10, d11] [] (sh_E h)) (n : Nat) : ∀ (l0 : Nat) (l2 : Int32) (l3 : Int32) (l5 : Int32) (l6 : Int32) (l7 : Int32) (l8 : Int32) {d1 d4 d9 d10 d11 : Option ai_V} (h : sh_H), sh_ok (f_Stocks_harm_l60 N k142 n l0 l2 l3 l5 l6 l7 l8 h) R → wq_118 d Q 60 [oR 9 l0, d1, oI l2, oI l3, d4, oI l5, oI l6, oI l7, oI l8, d9, d10, d11] [] (sh_E h) := by
  induction n with
  | zero => intro l0 l2 l3 l5 l6 l7 l8 d1 d4 d9 d10 d11 h H; exact H.elim
  | succ n ih =>
    intro l0 l2 l3 l5 l6 l7 l8 d1 d4 d9 d10 d11 h H
    have hk60 := @ih
    revert hk60 H
    show sh_ok ((fun k60 l0 l2 l3 l5 l6 l7 l8 h => (if l8 < (4 : Int32) then (Option.bind (f_Stocks_mostHarmed N l0 l7 h) (fun v4 => (if v4 = (-1 : Int32) then f_Stocks_harm_b136 N k60 l0 l2 l3 l5 l6 l7 l8 h else (sh_b2 (f_Text_wanted N l0 v4 l2 l3 h) (fun v5 h6 => (Option.bind (f_Math_min l5 v5 h6) (fun v7 => (Option.bind (f_Text_harmOf l0 v4 h6) (fun v8 => f_Stocks_harm_b136 N k60 l0 l2 l3 (l5 - v7) (l6 + ((v5 - v7) * v8)) (l7 &&& (((1 : Int32) <<< ((v4 - (1 : Int32)) &&& 31)) ^^^ (-1 : Int32))) l8 h6))))))))) else k142 l6 h)) (f_Stocks_harm_l60 N k142 n) l0 l2 l3 l5 l6 l7 l8 h) R → _
    generalize f_Stocks_harm_l60 N k142 n = k60
    intro H hk60
    refine ai_WP_steps mc_118 (sh_CM d) 3 (And.intro (fun c => ?_) (fun c => ?_))
    · replace H := sh_okT c H
      show wq_118 d Q 66 [oR 9 l0, _, oI l2, oI l3, _, oI l5, oI l6, oI l7, oI l8, _, _, _] [] (sh_E h)
      refine ai_WP_steps mc_118 (sh_CM d) 3 (And.intro (Nat.le_of_ble_eq_true rfl) (x_Stocks_mostHarmed N (Nat.le_trans (Nat.le_of_ble_eq_true rfl) hd) l0 l7 h (sh_okB H) (fun v4 H => ?_)))
      show wq_118 d Q 72 [oR 9 l0, _, oI l2, oI l3, _, oI l5, oI l6, oI l7, oI l8, _, _, _] [aI v4] (sh_E h)
      refine ai_WP_steps mc_118 (sh_CM d) 4 (And.intro (fun c => ?_) (fun c => ?_))
      · replace H := sh_okT c H
        exact x_Stocks_harm_b136 N hd hR k60 hk60 l0 l2 l3 l5 l6 l7 l8 h H
      · replace H := sh_okF c H
        show wq_118 d Q 80 [oR 9 l0, _, oI l2, oI l3, _, oI l5, oI l6, oI l7, oI l8, oI v4, _, _] [] (sh_E h)
        refine ai_WP_steps mc_118 (sh_CM d) 5 (And.intro (Nat.le_of_ble_eq_true rfl) (x_Text_wanted N (Nat.le_trans (Nat.le_of_ble_eq_true rfl) hd) l0 v4 l2 l3 h (sh_okB H) (fun v5 h6 H => ?_)))
        show wq_118 d Q 88 [oR 9 l0, _, oI l2, oI l3, _, oI l5, oI l6, oI l7, oI l8, oI v4, _, _] [aI v5] (sh_E h6)
        refine ai_WP_steps mc_118 (sh_CM d) 4 (And.intro (Nat.le_of_ble_eq_true rfl) (x_Math_min (Nat.le_trans (Nat.le_of_ble_eq_true rfl) hd) l5 v5 h6 (sh_okB H) (fun v7 H => ?_)))
        show wq_118 d Q 97 [oR 9 l0, _, oI l2, oI l3, _, oI l5, oI l6, oI l7, oI l8, oI v4, oI v5, _] [aI v7] (sh_E h6)
        refine ai_WP_steps mc_118 (sh_CM d) 12 (And.intro (Nat.le_of_ble_eq_true rfl) (x_Text_harmOf (Nat.le_trans (Nat.le_of_ble_eq_true rfl) hd) l0 v4 h6 (sh_okB H) (fun v8 H => ?_)))
        show wq_118 d Q 119 [oR 9 l0, _, oI l2, oI l3, _, oI (l5 - v7), oI l6, oI l7, oI l8, oI v4, oI v5, oI v7] [aI v8, aI (v5 - v7), aI l6] (sh_E h6)
        refine ai_WP_steps mc_118 (sh_CM d) 13 ?_
        exact x_Stocks_harm_b136 N hd hR k60 hk60 l0 l2 l3 (l5 - v7) (l6 + ((v5 - v7) * v8)) (l7 &&& (((1 : Int32) <<< ((v4 - (1 : Int32)) &&& 31)) ^^^ (-1 : Int32))) l8 h6 H
    · replace H := sh_okF c H
      exact hk142 l6 h H
def f_Stocks_harm_b142 (N : Nat)   (l6 : Int32) (h : sh_H) : Option (Int32 × sh_H) := (some (l6, h))
theorem x_Stocks_harm_b142 (N : Nat) {d : Nat} (hd : 4 ≤ d) {Q : ai_Q} {R : Int32 × sh_H → Prop} (hR : ∀ r h, R (r, h) → Q (some (aI r)) (sh_E h))   (l6 : Int32) {d0 d1 d2 d3 d4 d5 d7 d8 d9 d10 d11 : Option ai_V} (h : sh_H) (H : sh_ok (f_Stocks_harm_b142 N l6 h) R) : wq_118 d Q 142 [d0, d1, d2, d3, d4, d5, oI l6, d7, d8, d9, d10, d11] [] (sh_E h) := by
  exact ai_WP_steps mc_118 (sh_CM d) 2 (hR l6 h H)
def f_Stocks_harm_b50 (N : Nat)   (l0 : Nat) (l2 : Int32) (l3 : Int32) (l4 : Int32) (l5 : Int32) (h : sh_H) : Option (Int32 × sh_H) := f_Stocks_harm_l60 N (f_Stocks_harm_b142 N) N l0 l2 l3 l5 (0 : Int32) l4 (0 : Int32) h
theorem x_Stocks_harm_b50 (N : Nat) {d : Nat} (hd : 4 ≤ d) {Q : ai_Q} {R : Int32 × sh_H → Prop} (hR : ∀ r h, R (r, h) → Q (some (aI r)) (sh_E h))   (l0 : Nat) (l2 : Int32) (l3 : Int32) (l4 : Int32) (l5 : Int32) {d1 d6 d7 d8 d9 d10 d11 : Option ai_V} (h : sh_H) (H : sh_ok (f_Stocks_harm_b50 N l0 l2 l3 l4 l5 h) R) : wq_118 d Q 50 [oR 9 l0, d1, oI l2, oI l3, oI l4, oI l5, d6, d7, d8, d9, d10, d11] [] (sh_E h) := by
  refine ai_WP_steps mc_118 (sh_CM d) 6 ?_
  exact x_Stocks_harm_l60 N hd hR (f_Stocks_harm_b142 N) (fun z0 {e0} {e1} {e2} {e3} {e4} {e5} {e7} {e8} {e9} {e10} {e11} h H => x_Stocks_harm_b142 N hd hR z0 h H) N l0 l2 l3 l5 (0 : Int32) l4 (0 : Int32) h H
def f_Stocks_harm (N : Nat)  (l0 : Nat) (l1 : Nat) (l2 : Int32) (l3 : Int32) (l4 : Int32) (h : sh_H) : Option (Int32 × sh_H) := f_Stocks_harm_l6 N (f_Stocks_harm_b50 N) N l0 l1 l2 l3 l4 (0 : Int32) (1 : Int32) h
theorem x_Stocks_harm (N : Nat) {d : Nat} (hd : 5 ≤ d) (l0 : Nat) (l1 : Nat) (l2 : Int32) (l3 : Int32) (l4 : Int32) (h : sh_H) {Q : ai_Q} {R : Int32 × sh_H → Prop} (H : sh_ok (f_Stocks_harm N l0 l1 l2 l3 l4 h) R) (hR : ∀ r h, R (r, h) → Q (some (aI r)) (sh_E h)) : ai_Ex sh_T d 118 [aR 9 l0, aR 4 l1, aI l2, aI l3, aI l4] (sh_E h) Q := by
  obtain ⟨d, rfl⟩ : ∃ e, d = e + 1 := ⟨d - 1, by omega⟩
  replace hd : 4 ≤ d := by omega
  refine And.intro (Nat.le_of_ble_eq_true rfl) ?_
  show wq_118 d Q 0 [oR 9 l0, oR 4 l1, oI l2, oI l3, oI l4, none, none, none, none, none, none, none] [] (sh_E h)
  refine ai_WP_steps mc_118 (sh_CM d) 4 ?_
  exact x_Stocks_harm_l6 N hd hR (f_Stocks_harm_b50 N) (fun z0 z1 z2 z3 z4 {e1} {e6} {e7} {e8} {e9} {e10} {e11} h H => x_Stocks_harm_b50 N hd hR z0 z1 z2 z3 z4 h H) N l0 l1 l2 l3 l4 (0 : Int32) (1 : Int32) h H
def f_Stocks_saving_b46 (N : Nat)  (k6 : Nat → Nat → Int32 → Int32 → Int32 → Int32 → Int32 → sh_H → Option (Int32 × sh_H)) (l0 : Nat) (l1 : Nat) (l2 : Int32) (l3 : Int32) (l4 : Int32) (l5 : Int32) (l6 : Int32) (h : sh_H) : Option (Int32 × sh_H) := k6 l0 l1 l2 l3 l4 l5 (l6 + (1 : Int32)) h
theorem x_Stocks_saving_b46 (N : Nat) {d : Nat} (hd : 5 ≤ d) {Q : ai_Q} {R : Int32 × sh_H → Prop} (hR : ∀ r h, R (r, h) → Q (some (aI r)) (sh_E h))  (k6 : Nat → Nat → Int32 → Int32 → Int32 → Int32 → Int32 → sh_H → Option (Int32 × sh_H)) (hk6 : ∀ (l0 : Nat) (l1 : Nat) (l2 : Int32) (l3 : Int32) (l4 : Int32) (l5 : Int32) (l6 : Int32) (h : sh_H), sh_ok (k6 l0 l1 l2 l3 l4 l5 l6 h) R → wq_117 d Q 6 [oR 9 l0, oR 4 l1, oI l2, oI l3, oI l4, oI l5, oI l6] [] (sh_E h)) (l0 : Nat) (l1 : Nat) (l2 : Int32) (l3 : Int32) (l4 : Int32) (l5 : Int32) (l6 : Int32) (h : sh_H) (H : sh_ok (f_Stocks_saving_b46 N k6 l0 l1 l2 l3 l4 l5 l6 h) R) : wq_117 d Q 46 [oR 9 l0, oR 4 l1, oI l2, oI l3, oI l4, oI l5, oI l6] [] (sh_E h) := by
  refine ai_WP_steps mc_117 (sh_CM d) 2 ?_
  exact hk6 l0 l1 l2 l3 l4 l5 (l6 + (1 : Int32)) h H
def f_Stocks_saving_l6 (N : Nat)  (k52 : Nat → Nat → Int32 → Int32 → Int32 → Int32 → sh_H → Option (Int32 × sh_H)) (n : Nat) : Nat → Nat → Int32 → Int32 → Int32 → Int32 → Int32 → sh_H → Option (Int32 × sh_H) := Nat.rec (motive := fun _ => Nat → Nat → Int32 → Int32 → Int32 → Int32 → Int32 → sh_H → Option (Int32 × sh_H)) (fun _ _ _ _ _ _ _ _ => none) (fun _ k6 l0 l1 l2 l3 l4 l5 l6 h => (Option.bind (f_Rows_size (7 * l0 + 1) h) (fun v1 => (if v1 < l6 then k52 l0 l1 l2 l3 l4 l5 h else (Option.bind (f_Stocks_isIn l4 l6 h) (fun v2 => (if v2 = 0 then f_Stocks_saving_b46 N k6 l0 l1 l2 l3 l4 l5 l6 h else (sh_b2 (f_Stocks_harm N l0 l1 l2 l3 ((1 : Int32) <<< ((l6 - (1 : Int32)) &&& 31)) h) (fun v3 h4 => f_Stocks_saving_b46 N k6 l0 l1 l2 l3 l4 (l5 + v3) l6 h4))))))))) n
theorem x_Stocks_saving_l6 (N : Nat) {d : Nat} (hd : 5 ≤ d) {Q : ai_Q} {R : Int32 × sh_H → Prop} (hR : ∀ r h, R (r, h) → Q (some (aI r)) (sh_E h))  (k52 : Nat → Nat → Int32 → Int32 → Int32 → Int32 → sh_H → Option (Int32 × sh_H)) (hk52 : ∀ (l0 : Nat) (l1 : Nat) (l2 : Int32) (l3 : Int32) (l4 : Int32) (l5 : Int32) {d6 : Option ai_V} (h : sh_H), sh_ok (k52 l0 l1 l2 l3 l4 l5 h) R → wq_117 d Q 52 [oR 9 l0, oR 4 l1, oI l2, oI l3, oI l4, oI l5, d6] [] (sh_E h)) (n : Nat) : ∀ (l0 : Nat) (l1 : Nat) (l2 : Int32) (l3 : Int32) (l4 : Int32) (l5 : Int32) (l6 : Int32) (h : sh_H), sh_ok (f_Stocks_saving_l6 N k52 n l0 l1 l2 l3 l4 l5 l6 h) R → wq_117 d Q 6 [oR 9 l0, oR 4 l1, oI l2, oI l3, oI l4, oI l5, oI l6] [] (sh_E h) := by
  induction n with
  | zero => intro l0 l1 l2 l3 l4 l5 l6 h H; exact H.elim
  | succ n ih =>
    intro l0 l1 l2 l3 l4 l5 l6 h H
    have hk6 := @ih
    revert hk6 H
    show sh_ok ((fun k6 l0 l1 l2 l3 l4 l5 l6 h => (Option.bind (f_Rows_size (7 * l0 + 1) h) (fun v1 => (if v1 < l6 then k52 l0 l1 l2 l3 l4 l5 h else (Option.bind (f_Stocks_isIn l4 l6 h) (fun v2 => (if v2 = 0 then f_Stocks_saving_b46 N k6 l0 l1 l2 l3 l4 l5 l6 h else (sh_b2 (f_Stocks_harm N l0 l1 l2 l3 ((1 : Int32) <<< ((l6 - (1 : Int32)) &&& 31)) h) (fun v3 h4 => f_Stocks_saving_b46 N k6 l0 l1 l2 l3 l4 (l5 + v3) l6 h4))))))))) (f_Stocks_saving_l6 N k52 n) l0 l1 l2 l3 l4 l5 l6 h) R → _
    generalize f_Stocks_saving_l6 N k52 n = k6
    intro H hk6
    refine ai_WP_steps mc_117 (sh_CM d) 4 (And.intro (Nat.le_of_ble_eq_true rfl) (x_Rows_size (Nat.le_trans (Nat.le_of_ble_eq_true rfl) hd) (7 * l0 + 1) h (sh_okB H) (fun v1 H => ?_)))
    show wq_117 d Q 15 [oR 9 l0, oR 4 l1, oI l2, oI l3, oI l4, oI l5, oI l6] [aI v1, aI l6] (sh_E h)
    refine ai_WP_steps mc_117 (sh_CM d) 1 (And.intro (fun c => ?_) (fun c => ?_))
    · replace H := sh_okT c H
      exact hk52 l0 l1 l2 l3 l4 l5 h H
    · replace H := sh_okF c H
      show wq_117 d Q 18 [oR 9 l0, oR 4 l1, oI l2, oI l3, oI l4, oI l5, oI l6] [] (sh_E h)
      refine ai_WP_steps mc_117 (sh_CM d) 3 (And.intro (Nat.le_of_ble_eq_true rfl) (x_Stocks_isIn (Nat.le_trans (Nat.le_of_ble_eq_true rfl) hd) l4 l6 h (sh_okB H) (fun v2 H => ?_)))
      show wq_117 d Q 25 [oR 9 l0, oR 4 l1, oI l2, oI l3, oI l4, oI l5, oI l6] [aI v2] (sh_E h)
      refine ai_WP_steps mc_117 (sh_CM d) 1 (And.intro (fun c => ?_) (fun c => ?_))
      · replace H := sh_okT c H
        exact x_Stocks_saving_b46 N hd hR k6 hk6 l0 l1 l2 l3 l4 l5 l6 h H
      · replace H := sh_okF c H
        show wq_117 d Q 28 [oR 9 l0, oR 4 l1, oI l2, oI l3, oI l4, oI l5, oI l6] [] (sh_E h)
        refine ai_WP_steps mc_117 (sh_CM d) 11 (And.intro (Nat.le_of_ble_eq_true rfl) (x_Stocks_harm N (Nat.le_trans (Nat.le_of_ble_eq_true rfl) hd) l0 l1 l2 l3 ((1 : Int32) <<< ((l6 - (1 : Int32)) &&& 31)) h (sh_okB H) (fun v3 h4 H => ?_)))
        show wq_117 d Q 43 [oR 9 l0, oR 4 l1, oI l2, oI l3, oI l4, oI l5, oI l6] [aI v3, aI l5] (sh_E h4)
        refine ai_WP_steps mc_117 (sh_CM d) 2 ?_
        exact x_Stocks_saving_b46 N hd hR k6 hk6 l0 l1 l2 l3 l4 (l5 + v3) l6 h4 H
def f_Stocks_saving_b52 (N : Nat)   (l0 : Nat) (l1 : Nat) (l2 : Int32) (l3 : Int32) (l4 : Int32) (l5 : Int32) (h : sh_H) : Option (Int32 × sh_H) := (sh_b2 (f_Stocks_harm N l0 l1 l2 l3 l4 h) (fun v5 h6 => (some ((l5 - v5), h6))))
theorem x_Stocks_saving_b52 (N : Nat) {d : Nat} (hd : 5 ≤ d) {Q : ai_Q} {R : Int32 × sh_H → Prop} (hR : ∀ r h, R (r, h) → Q (some (aI r)) (sh_E h))   (l0 : Nat) (l1 : Nat) (l2 : Int32) (l3 : Int32) (l4 : Int32) (l5 : Int32) {d6 : Option ai_V} (h : sh_H) (H : sh_ok (f_Stocks_saving_b52 N l0 l1 l2 l3 l4 l5 h) R) : wq_117 d Q 52 [oR 9 l0, oR 4 l1, oI l2, oI l3, oI l4, oI l5, d6] [] (sh_E h) := by
  refine ai_WP_steps mc_117 (sh_CM d) 7 (And.intro (Nat.le_of_ble_eq_true rfl) (x_Stocks_harm N (Nat.le_trans (Nat.le_of_ble_eq_true rfl) hd) l0 l1 l2 l3 l4 h (sh_okB H) (fun v5 h6 H => ?_)))
  show wq_117 d Q 63 [oR 9 l0, oR 4 l1, oI l2, oI l3, oI l4, oI l5, _] [aI v5, aI l5] (sh_E h6)
  exact ai_WP_steps mc_117 (sh_CM d) 2 (hR (l5 - v5) h6 H)
def f_Stocks_saving (N : Nat)  (l0 : Nat) (l1 : Nat) (l2 : Int32) (l3 : Int32) (l4 : Int32) (h : sh_H) : Option (Int32 × sh_H) := f_Stocks_saving_l6 N (f_Stocks_saving_b52 N) N l0 l1 l2 l3 l4 (0 : Int32) (1 : Int32) h
theorem x_Stocks_saving (N : Nat) {d : Nat} (hd : 6 ≤ d) (l0 : Nat) (l1 : Nat) (l2 : Int32) (l3 : Int32) (l4 : Int32) (h : sh_H) {Q : ai_Q} {R : Int32 × sh_H → Prop} (H : sh_ok (f_Stocks_saving N l0 l1 l2 l3 l4 h) R) (hR : ∀ r h, R (r, h) → Q (some (aI r)) (sh_E h)) : ai_Ex sh_T d 117 [aR 9 l0, aR 4 l1, aI l2, aI l3, aI l4] (sh_E h) Q := by
  obtain ⟨d, rfl⟩ : ∃ e, d = e + 1 := ⟨d - 1, by omega⟩
  replace hd : 5 ≤ d := by omega
  refine And.intro (Nat.le_of_ble_eq_true rfl) ?_
  show wq_117 d Q 0 [oR 9 l0, oR 4 l1, oI l2, oI l3, oI l4, none, none] [] (sh_E h)
  refine ai_WP_steps mc_117 (sh_CM d) 4 ?_
  exact x_Stocks_saving_l6 N hd hR (f_Stocks_saving_b52 N) (fun z0 z1 z2 z3 z4 z5 {e6} h H => x_Stocks_saving_b52 N hd hR z0 z1 z2 z3 z4 z5 h H) N l0 l1 l2 l3 l4 (0 : Int32) (1 : Int32) h H
def f_Text_isKind_b19    (h : sh_H) : Option Int32 := (some (ai_nar 1 (0 : Int32)))
theorem x_Text_isKind_b19 {d : Nat} (hd : 1 ≤ d) (h : sh_H) {Q : ai_Q} {R : Int32 → Prop} (hR : ∀ r, R r → Q (some (aI r)) (sh_E h))    {d0 d1 : Option ai_V} (H : sh_ok (f_Text_isKind_b19 h) R) : wq_123 d Q 19 [d0, d1] [] (sh_E h) := by
  exact ai_WP_steps mc_123 (sh_CM d) 2 (hR (ai_nar 1 (0 : Int32)) H)
def f_Text_isKind  (l0 : Nat) (l1 : Int32) (h : sh_H) : Option Int32 := (if l1 < 0 then f_Text_isKind_b19 h else (Option.bind (f_Rows_size (7 * l0 + 0) h) (fun v1 => (if l1 < v1 then (some (ai_nar 1 (1 : Int32))) else f_Text_isKind_b19 h))))
theorem x_Text_isKind {d : Nat} (hd : 2 ≤ d) (l0 : Nat) (l1 : Int32) (h : sh_H) {Q : ai_Q} {R : Int32 → Prop} (H : sh_ok (f_Text_isKind l0 l1 h) R) (hR : ∀ r, R r → Q (some (aI r)) (sh_E h)) : ai_Ex sh_T d 123 [aR 9 l0, aI l1] (sh_E h) Q := by
  obtain ⟨d, rfl⟩ : ∃ e, d = e + 1 := ⟨d - 1, by omega⟩
  replace hd : 1 ≤ d := by omega
  refine And.intro (Nat.le_of_ble_eq_true rfl) ?_
  show wq_123 d Q 0 [oR 9 l0, oI l1] [] (sh_E h)
  refine ai_WP_steps mc_123 (sh_CM d) 2 (And.intro (fun c => ?_) (fun c => ?_))
  · replace H := sh_okT c H
    exact x_Text_isKind_b19 hd h hR H
  · replace H := sh_okF c H
    show wq_123 d Q 4 [oR 9 l0, oI l1] [] (sh_E h)
    refine ai_WP_steps mc_123 (sh_CM d) 4 (And.intro (Nat.le_of_ble_eq_true rfl) (x_Rows_size (Nat.le_trans (Nat.le_of_ble_eq_true rfl) hd) (7 * l0 + 0) h (sh_okB H) (fun v1 H => ?_)))
    show wq_123 d Q 12 [oR 9 l0, oI l1] [aI v1, aI l1] (sh_E h)
    refine ai_WP_steps mc_123 (sh_CM d) 1 (And.intro (fun c => ?_) (fun c => ?_))
    · replace H := sh_okT c H
      show wq_123 d Q 15 [oR 9 l0, oI l1] [] (sh_E h)
      exact ai_WP_steps mc_123 (sh_CM d) 3 (hR (ai_nar 1 (1 : Int32)) H)
    · replace H := sh_okF c H
      exact x_Text_isKind_b19 hd h hR H
def f_Text_isIsland_b20    (h : sh_H) : Option Int32 := (some (ai_nar 1 (0 : Int32)))
theorem x_Text_isIsland_b20 {d : Nat} (hd : 1 ≤ d) (h : sh_H) {Q : ai_Q} {R : Int32 → Prop} (hR : ∀ r, R r → Q (some (aI r)) (sh_E h))    {d0 d1 : Option ai_V} (H : sh_ok (f_Text_isIsland_b20 h) R) : wq_124 d Q 20 [d0, d1] [] (sh_E h) := by
  exact ai_WP_steps mc_124 (sh_CM d) 2 (hR (ai_nar 1 (0 : Int32)) H)
def f_Text_isIsland  (l0 : Nat) (l1 : Int32) (h : sh_H) : Option Int32 := (if l1 < (1 : Int32) then f_Text_isIsland_b20 h else (Option.bind (f_Rows_size (7 * l0 + 1) h) (fun v1 => (if v1 < l1 then f_Text_isIsland_b20 h else (some (ai_nar 1 (1 : Int32)))))))
theorem x_Text_isIsland {d : Nat} (hd : 2 ≤ d) (l0 : Nat) (l1 : Int32) (h : sh_H) {Q : ai_Q} {R : Int32 → Prop} (H : sh_ok (f_Text_isIsland l0 l1 h) R) (hR : ∀ r, R r → Q (some (aI r)) (sh_E h)) : ai_Ex sh_T d 124 [aR 9 l0, aI l1] (sh_E h) Q := by
  obtain ⟨d, rfl⟩ : ∃ e, d = e + 1 := ⟨d - 1, by omega⟩
  replace hd : 1 ≤ d := by omega
  refine And.intro (Nat.le_of_ble_eq_true rfl) ?_
  show wq_124 d Q 0 [oR 9 l0, oI l1] [] (sh_E h)
  refine ai_WP_steps mc_124 (sh_CM d) 3 (And.intro (fun c => ?_) (fun c => ?_))
  · replace H := sh_okT c H
    exact x_Text_isIsland_b20 hd h hR H
  · replace H := sh_okF c H
    show wq_124 d Q 5 [oR 9 l0, oI l1] [] (sh_E h)
    refine ai_WP_steps mc_124 (sh_CM d) 4 (And.intro (Nat.le_of_ble_eq_true rfl) (x_Rows_size (Nat.le_trans (Nat.le_of_ble_eq_true rfl) hd) (7 * l0 + 1) h (sh_okB H) (fun v1 H => ?_)))
    show wq_124 d Q 13 [oR 9 l0, oI l1] [aI v1, aI l1] (sh_E h)
    refine ai_WP_steps mc_124 (sh_CM d) 1 (And.intro (fun c => ?_) (fun c => ?_))
    · replace H := sh_okT c H
      exact x_Text_isIsland_b20 hd h hR H
    · replace H := sh_okF c H
      show wq_124 d Q 16 [oR 9 l0, oI l1] [] (sh_E h)
      exact ai_WP_steps mc_124 (sh_CM d) 3 (hR (ai_nar 1 (1 : Int32)) H)
def f_Text_isPlace_b19    (h : sh_H) : Option Int32 := (some (ai_nar 1 (0 : Int32)))
theorem x_Text_isPlace_b19 {d : Nat} (hd : 1 ≤ d) (h : sh_H) {Q : ai_Q} {R : Int32 → Prop} (hR : ∀ r, R r → Q (some (aI r)) (sh_E h))    {d0 d1 : Option ai_V} (H : sh_ok (f_Text_isPlace_b19 h) R) : wq_125 d Q 19 [d0, d1] [] (sh_E h) := by
  exact ai_WP_steps mc_125 (sh_CM d) 2 (hR (ai_nar 1 (0 : Int32)) H)
def f_Text_isPlace  (l0 : Nat) (l1 : Int32) (h : sh_H) : Option Int32 := (if l1 < 0 then f_Text_isPlace_b19 h else (Option.bind (f_Rows_size (7 * l0 + 1) h) (fun v1 => (if v1 < l1 then f_Text_isPlace_b19 h else (some (ai_nar 1 (1 : Int32)))))))
theorem x_Text_isPlace {d : Nat} (hd : 2 ≤ d) (l0 : Nat) (l1 : Int32) (h : sh_H) {Q : ai_Q} {R : Int32 → Prop} (H : sh_ok (f_Text_isPlace l0 l1 h) R) (hR : ∀ r, R r → Q (some (aI r)) (sh_E h)) : ai_Ex sh_T d 125 [aR 9 l0, aI l1] (sh_E h) Q := by
  obtain ⟨d, rfl⟩ : ∃ e, d = e + 1 := ⟨d - 1, by omega⟩
  replace hd : 1 ≤ d := by omega
  refine And.intro (Nat.le_of_ble_eq_true rfl) ?_
  show wq_125 d Q 0 [oR 9 l0, oI l1] [] (sh_E h)
  refine ai_WP_steps mc_125 (sh_CM d) 2 (And.intro (fun c => ?_) (fun c => ?_))
  · replace H := sh_okT c H
    exact x_Text_isPlace_b19 hd h hR H
  · replace H := sh_okF c H
    show wq_125 d Q 4 [oR 9 l0, oI l1] [] (sh_E h)
    refine ai_WP_steps mc_125 (sh_CM d) 4 (And.intro (Nat.le_of_ble_eq_true rfl) (x_Rows_size (Nat.le_trans (Nat.le_of_ble_eq_true rfl) hd) (7 * l0 + 1) h (sh_okB H) (fun v1 H => ?_)))
    show wq_125 d Q 12 [oR 9 l0, oI l1] [aI v1, aI l1] (sh_E h)
    refine ai_WP_steps mc_125 (sh_CM d) 1 (And.intro (fun c => ?_) (fun c => ?_))
    · replace H := sh_okT c H
      exact x_Text_isPlace_b19 hd h hR H
    · replace H := sh_okF c H
      show wq_125 d Q 15 [oR 9 l0, oI l1] [] (sh_E h)
      exact ai_WP_steps mc_125 (sh_CM d) 3 (hR (ai_nar 1 (1 : Int32)) H)
def f_CB_append_b49 (N : Nat)  (k3 : Int32 → Int32 → sh_H → Option sh_H) (l1 : Int32) (l2 : Int32) (h : sh_H) : Option sh_H := k3 l1 (l2 + (-8 : Int32)) h
theorem x_CB_append_b49 (N : Nat) {d : Nat} (hd : 0 ≤ d) {Q : ai_Q} {R : sh_H → Prop} (hR : ∀ h, R h → Q none (sh_E h))  (k3 : Int32 → Int32 → sh_H → Option sh_H) (hk3 : ∀ (l1 : Int32) (l2 : Int32) (h : sh_H), sh_ok (k3 l1 l2 h) R → wq_148 d Q 3 [oR 11 0, oI l1, oI l2] [] (sh_E h)) (l1 : Int32) (l2 : Int32) (h : sh_H) (H : sh_ok (f_CB_append_b49 N k3 l1 l2 h) R) : wq_148 d Q 49 [oR 11 0, oI l1, oI l2] [] (sh_E h) := by
  refine ai_WP_steps mc_148 (sh_CM d) 2 ?_
  exact hk3 l1 (l2 + (-8 : Int32)) h H
def f_CB_append_l3 (N : Nat)  (k55 : sh_H → Option sh_H) (n : Nat) : Int32 → Int32 → sh_H → Option sh_H := Nat.rec (motive := fun _ => Int32 → Int32 → sh_H → Option sh_H) (fun _ _ _ => none) (fun _ k3 l1 l2 h => (if l2 < 0 then k55 h else (if (h.1 11 0 1) < 0 then f_CB_append_b49 N k3 l1 l2 h else (if (h.1 11 0 1) < (Int32.ofNat 2000) then (if ai_in (h.1 11 0 1) 2000 then (sh_let (sh_pI h 15 0 (h.1 11 0 1).toNatClampNeg (l1 >>> (l2 &&& 31)).toInt8.toInt32.toInt8.toInt32) (fun h1 => (sh_let (sh_pI h1 11 0 1 ((h1.1 11 0 1) + (1 : Int32))) (fun h2 => f_CB_append_b49 N k3 l1 l2 h2)))) else none) else f_CB_append_b49 N k3 l1 l2 h)))) n
theorem x_CB_append_l3 (N : Nat) {d : Nat} (hd : 0 ≤ d) {Q : ai_Q} {R : sh_H → Prop} (hR : ∀ h, R h → Q none (sh_E h))  (k55 : sh_H → Option sh_H) (hk55 : ∀ {d0 d1 d2 : Option ai_V} (h : sh_H), sh_ok (k55 h) R → wq_148 d Q 55 [d0, d1, d2] [] (sh_E h)) (n : Nat) : ∀ (l1 : Int32) (l2 : Int32) (h : sh_H), sh_ok (f_CB_append_l3 N k55 n l1 l2 h) R → wq_148 d Q 3 [oR 11 0, oI l1, oI l2] [] (sh_E h) := by
  induction n with
  | zero => intro l1 l2 h H; exact H.elim
  | succ n ih =>
    intro l1 l2 h H
    have hk3 := @ih
    revert hk3 H
    show sh_ok ((fun k3 l1 l2 h => (if l2 < 0 then k55 h else (if (h.1 11 0 1) < 0 then f_CB_append_b49 N k3 l1 l2 h else (if (h.1 11 0 1) < (Int32.ofNat 2000) then (if ai_in (h.1 11 0 1) 2000 then (sh_let (sh_pI h 15 0 (h.1 11 0 1).toNatClampNeg (l1 >>> (l2 &&& 31)).toInt8.toInt32.toInt8.toInt32) (fun h1 => (sh_let (sh_pI h1 11 0 1 ((h1.1 11 0 1) + (1 : Int32))) (fun h2 => f_CB_append_b49 N k3 l1 l2 h2)))) else none) else f_CB_append_b49 N k3 l1 l2 h)))) (f_CB_append_l3 N k55 n) l1 l2 h) R → _
    generalize f_CB_append_l3 N k55 n = k3
    intro H hk3
    refine ai_WP_steps mc_148 (sh_CM d) 2 (And.intro (fun c => ?_) (fun c => ?_))
    · replace H := sh_okT c H
      exact hk55 h H
    · replace H := sh_okF c H
      show wq_148 d Q 7 [oR 11 0, oI l1, oI l2] [] (sh_E h)
      refine ai_WP_steps mc_148 (sh_CM d) 3 (And.intro (fun c => ?_) (fun c => ?_))
      · replace H := sh_okT c H
        exact x_CB_append_b49 N hd hR k3 hk3 l1 l2 h H
      · replace H := sh_okF c H
        show wq_148 d Q 14 [oR 11 0, oI l1, oI l2] [] (sh_E h)
        refine ai_WP_steps mc_148 (sh_CM d) 6 (And.intro (fun c => ?_) (fun c => ?_))
        · replace H := sh_okT c H
          show wq_148 d Q 26 [oR 11 0, oI l1, oI l2] [] (sh_E h)
          have c := sh_okG H
          replace H := sh_okH H
          refine ai_WP_steps mc_148 (sh_CM d) 9 (And.intro c ?_)
          show wq_148 d Q 39 [oR 11 0, oI l1, oI l2] [] (sh_E (sh_pI h 15 0 (h.1 11 0 1).toNatClampNeg (l1 >>> (l2 &&& 31)).toInt8.toInt32.toInt8.toInt32))
          replace H := sh_okL H
          generalize sh_pI h 15 0 (h.1 11 0 1).toNatClampNeg (l1 >>> (l2 &&& 31)).toInt8.toInt32.toInt8.toInt32 = h1 at H ⊢
          refine ai_WP_steps mc_148 (sh_CM d) 6 (And.intro trivial ?_)
          show wq_148 d Q 49 [oR 11 0, oI l1, oI l2] [] (sh_E (sh_pI h1 11 0 1 ((h1.1 11 0 1) + (1 : Int32))))
          replace H := sh_okL H
          generalize sh_pI h1 11 0 1 ((h1.1 11 0 1) + (1 : Int32)) = h2 at H ⊢
          exact x_CB_append_b49 N hd hR k3 hk3 l1 l2 h2 H
        · replace H := sh_okF c H
          exact x_CB_append_b49 N hd hR k3 hk3 l1 l2 h H
def f_CB_append_b55 (N : Nat)    (h : sh_H) : Option sh_H := (some h)
theorem x_CB_append_b55 (N : Nat) {d : Nat} (hd : 0 ≤ d) {Q : ai_Q} {R : sh_H → Prop} (hR : ∀ h, R h → Q none (sh_E h))    {d0 d1 d2 : Option ai_V} (h : sh_H) (H : sh_ok (f_CB_append_b55 N h) R) : wq_148 d Q 55 [d0, d1, d2] [] (sh_E h) := by
  exact ai_WP_steps mc_148 (sh_CM d) 1 (hR h H)
def f_CB_append (N : Nat)  (l1 : Int32) (h : sh_H) : Option sh_H := f_CB_append_l3 N (f_CB_append_b55 N) N l1 (24 : Int32) h
theorem x_CB_append (N : Nat) {d : Nat} (hd : 1 ≤ d) (l1 : Int32) (h : sh_H) {Q : ai_Q} {R : sh_H → Prop} (H : sh_ok (f_CB_append N l1 h) R) (hR : ∀ h, R h → Q none (sh_E h)) : ai_Ex sh_T d 148 [aR 11 0, aI l1] (sh_E h) Q := by
  obtain ⟨d, rfl⟩ : ∃ e, d = e + 1 := ⟨d - 1, by omega⟩
  replace hd : 0 ≤ d := by omega
  refine And.intro (Nat.le_of_ble_eq_true rfl) ?_
  show wq_148 d Q 0 [oR 11 0, oI l1, none] [] (sh_E h)
  refine ai_WP_steps mc_148 (sh_CM d) 2 ?_
  exact x_CB_append_l3 N hd hR (f_CB_append_b55 N) (fun {e0} {e1} {e2} h H => x_CB_append_b55 N hd hR  h H) N l1 (24 : Int32) h H
def f_CB_feed (N : Nat)  (l1 : Int32) (l2 : Int32) (l3 : Int32) (l4 : Int32) (l5 : Int32) (h : sh_H) : Option (Int32 × sh_H) := (if ((Int32.ofNat 2000) - (20 : Int32)) < (h.1 11 0 1) then (some ((-1 : Int32), h)) else (Option.bind (f_CB_append N l1 h) (fun h1 => (Option.bind (f_CB_append N l2 h1) (fun h2 => (Option.bind (f_CB_append N l3 h2) (fun h3 => (Option.bind (f_CB_append N l4 h3) (fun h4 => (Option.bind (f_CB_append N l5 h4) (fun h5 => (some ((h5.1 11 0 1), h5)))))))))))))
theorem x_CB_feed (N : Nat) {d : Nat} (hd : 2 ≤ d) (l1 : Int32) (l2 : Int32) (l3 : Int32) (l4 : Int32) (l5 : Int32) (h : sh_H) {Q : ai_Q} {R : Int32 × sh_H → Prop} (H : sh_ok (f_CB_feed N l1 l2 l3 l4 l5 h) R) (hR : ∀ r h, R (r, h) → Q (some (aI r)) (sh_E h)) : ai_Ex sh_T d 147 [aR 11 0, aI l1, aI l2, aI l3, aI l4, aI l5] (sh_E h) Q := by
  obtain ⟨d, rfl⟩ : ∃ e, d = e + 1 := ⟨d - 1, by omega⟩
  replace hd : 1 ≤ d := by omega
  refine And.intro (Nat.le_of_ble_eq_true rfl) ?_
  show wq_147 d Q 0 [oR 11 0, oI l1, oI l2, oI l3, oI l4, oI l5] [] (sh_E h)
  refine ai_WP_steps mc_147 (sh_CM d) 8 (And.intro (fun c => ?_) (fun c => ?_))
  · replace H := sh_okT c H
    show wq_147 d Q 15 [oR 11 0, oI l1, oI l2, oI l3, oI l4, oI l5] [] (sh_E h)
    exact ai_WP_steps mc_147 (sh_CM d) 2 (hR (-1 : Int32) h H)
  · replace H := sh_okF c H
    show wq_147 d Q 17 [oR 11 0, oI l1, oI l2, oI l3, oI l4, oI l5] [] (sh_E h)
    refine ai_WP_steps mc_147 (sh_CM d) 3 (And.intro (Nat.le_of_ble_eq_true rfl) (x_CB_append N (Nat.le_trans (Nat.le_of_ble_eq_true rfl) hd) l1 h (sh_okB H) (fun h1 H => ?_)))
    show wq_147 d Q 22 [oR 11 0, oI l1, oI l2, oI l3, oI l4, oI l5] [] (sh_E h1)
    refine ai_WP_steps mc_147 (sh_CM d) 3 (And.intro (Nat.le_of_ble_eq_true rfl) (x_CB_append N (Nat.le_trans (Nat.le_of_ble_eq_true rfl) hd) l2 h1 (sh_okB H) (fun h2 H => ?_)))
    show wq_147 d Q 27 [oR 11 0, oI l1, oI l2, oI l3, oI l4, oI l5] [] (sh_E h2)
    refine ai_WP_steps mc_147 (sh_CM d) 3 (And.intro (Nat.le_of_ble_eq_true rfl) (x_CB_append N (Nat.le_trans (Nat.le_of_ble_eq_true rfl) hd) l3 h2 (sh_okB H) (fun h3 H => ?_)))
    show wq_147 d Q 32 [oR 11 0, oI l1, oI l2, oI l3, oI l4, oI l5] [] (sh_E h3)
    refine ai_WP_steps mc_147 (sh_CM d) 3 (And.intro (Nat.le_of_ble_eq_true rfl) (x_CB_append N (Nat.le_trans (Nat.le_of_ble_eq_true rfl) hd) l4 h3 (sh_okB H) (fun h4 H => ?_)))
    show wq_147 d Q 38 [oR 11 0, oI l1, oI l2, oI l3, oI l4, oI l5] [] (sh_E h4)
    refine ai_WP_steps mc_147 (sh_CM d) 3 (And.intro (Nat.le_of_ble_eq_true rfl) (x_CB_append N (Nat.le_trans (Nat.le_of_ble_eq_true rfl) hd) l5 h4 (sh_okB H) (fun h5 H => ?_)))
    show wq_147 d Q 44 [oR 11 0, oI l1, oI l2, oI l3, oI l4, oI l5] [] (sh_E h5)
    exact ai_WP_steps mc_147 (sh_CM d) 3 (hR (h5.1 11 0 1) h5 H)
def f_CB_back  (l1 : Int32) (h : sh_H) : Option (Int32 × sh_H) := (if l1 < 0 then (some ((-1 : Int32), h)) else (if (h.1 11 0 1) < l1 then (some ((-1 : Int32), h)) else (sh_let (sh_pI h 11 0 1 ((h.1 11 0 1) - l1)) (fun h1 => (some ((h1.1 11 0 1), h1))))))
theorem x_CB_back {d : Nat} (hd : 1 ≤ d) (l1 : Int32) (h : sh_H) {Q : ai_Q} {R : Int32 × sh_H → Prop} (H : sh_ok (f_CB_back l1 h) R) (hR : ∀ r h, R (r, h) → Q (some (aI r)) (sh_E h)) : ai_Ex sh_T d 149 [aR 11 0, aI l1] (sh_E h) Q := by
  obtain ⟨d, rfl⟩ : ∃ e, d = e + 1 := ⟨d - 1, by omega⟩
  replace hd : 0 ≤ d := by omega
  refine And.intro (Nat.le_of_ble_eq_true rfl) ?_
  show wq_149 d Q 0 [oR 11 0, oI l1] [] (sh_E h)
  refine ai_WP_steps mc_149 (sh_CM d) 2 (And.intro (fun c => ?_) (fun c => ?_))
  · replace H := sh_okT c H
    show wq_149 d Q 12 [oR 11 0, oI l1] [] (sh_E h)
    exact ai_WP_steps mc_149 (sh_CM d) 2 (hR (-1 : Int32) h H)
  · replace H := sh_okF c H
    show wq_149 d Q 4 [oR 11 0, oI l1] [] (sh_E h)
    refine ai_WP_steps mc_149 (sh_CM d) 4 (And.intro (fun c => ?_) (fun c => ?_))
    · replace H := sh_okT c H
      show wq_149 d Q 12 [oR 11 0, oI l1] [] (sh_E h)
      exact ai_WP_steps mc_149 (sh_CM d) 2 (hR (-1 : Int32) h H)
    · replace H := sh_okF c H
      show wq_149 d Q 14 [oR 11 0, oI l1] [] (sh_E h)
      refine ai_WP_steps mc_149 (sh_CM d) 6 (And.intro trivial ?_)
      show wq_149 d Q 24 [oR 11 0, oI l1] [] (sh_E (sh_pI h 11 0 1 ((h.1 11 0 1) - l1)))
      replace H := sh_okL H
      generalize sh_pI h 11 0 1 ((h.1 11 0 1) - l1) = h1 at H ⊢
      exact ai_WP_steps mc_149 (sh_CM d) 3 (hR (h1.1 11 0 1) h1 H)
def f_CB_read (N : Nat)   (h : sh_H) : Option (Int32 × sh_H) := (sh_b2 (f_Reader_examine N (h.1 11 0 1) h.2.2.2.1 h) (fun v1 h2 => (Option.bind (f_Reader_faultPlace h2) (fun v3 => (sh_let (sh_pI h2 11 0 2 v3) (fun h4 => (sh_let (sh_pI h4 11 0 1 (0 : Int32)) (fun h5 => (if v1 = 0 then (sh_let (sh_pX h5 h5.2.2.2.1) (fun h6 => (sh_let (sh_pS h6 h5.2.2.1) (fun h7 => (Option.bind (f_State_clear N 0 h7) (fun h8 => (Option.bind (f_State_clear N 1 h8) (fun h9 => (Option.bind (f_State_clear N 2 h9) (fun h10 => (some ((0 : Int32), h10)))))))))))) else (some (v1, h5)))))))))))
theorem x_CB_read (N : Nat) {d : Nat} (hd : 67 ≤ d)  (h : sh_H) {Q : ai_Q} {R : Int32 × sh_H → Prop} (H : sh_ok (f_CB_read N h) R) (hR : ∀ r h, R (r, h) → Q (some (aI r)) (sh_E h)) : ai_Ex sh_T d 150 [aR 11 0] (sh_E h) Q := by
  obtain ⟨d, rfl⟩ : ∃ e, d = e + 1 := ⟨d - 1, by omega⟩
  replace hd : 66 ≤ d := by omega
  refine And.intro (Nat.le_of_ble_eq_true rfl) ?_
  show wq_150 d Q 0 [oR 11 0, none, none] [] (sh_E h)
  refine ai_WP_steps mc_150 (sh_CM d) 9 (And.intro (Nat.le_of_ble_eq_true rfl) (x_Reader_examine N (Nat.le_trans (Nat.le_of_ble_eq_true rfl) hd) (h.1 11 0 1) h.2.2.2.1 h (sh_okB H) (fun v1 h2 H => ?_)))
  show wq_150 d Q 19 [oR 11 0, _, _] [aI v1] (sh_E h2)
  refine ai_WP_steps mc_150 (sh_CM d) 5 (And.intro (Nat.le_of_ble_eq_true rfl) (x_Reader_faultPlace (Nat.le_trans (Nat.le_of_ble_eq_true rfl) hd) h2 (sh_okB H) (fun v3 H => ?_)))
  show wq_150 d Q 28 [oR 11 0, oI v1, _] [aI v3, aR 11 0] (sh_E h2)
  refine ai_WP_steps mc_150 (sh_CM d) 1 (And.intro trivial ?_)
  show wq_150 d Q 31 [oR 11 0, oI v1, _] [] (sh_E (sh_pI h2 11 0 2 v3))
  replace H := sh_okL H
  generalize sh_pI h2 11 0 2 v3 = h4 at H ⊢
  refine ai_WP_steps mc_150 (sh_CM d) 3 (And.intro trivial ?_)
  show wq_150 d Q 36 [oR 11 0, oI v1, _] [] (sh_E (sh_pI h4 11 0 1 (0 : Int32)))
  replace H := sh_okL H
  generalize sh_pI h4 11 0 1 (0 : Int32) = h5 at H ⊢
  refine ai_WP_steps mc_150 (sh_CM d) 2 (And.intro (fun c => ?_) (fun c => ?_))
  · replace H := sh_okT c H
    show wq_150 d Q 42 [oR 11 0, oI v1, _] [] (sh_E h5)
    refine ai_WP_steps mc_150 (sh_CM d) 7 ?_
    show ai_WP cd_150 (ai_Ex sh_T d) Q 0 0 55 [oR 11 0, _, oR 9 h5.2.2.1] [] ((sh_E h5).1, (sh_E h5).2.1, ai_up3 (sh_E h5).2.2.1 11 0 3 (h5.2.2.2.1 + 1), (sh_E h5).2.2.2)
    rw [sh_E_pX]
    show wq_150 d Q 55 [oR 11 0, _, oR 9 h5.2.2.1] [] (sh_E (sh_pX h5 h5.2.2.2.1))
    replace H := sh_okL H
    generalize sh_pX h5 h5.2.2.2.1 = h6 at H ⊢
    refine ai_WP_steps mc_150 (sh_CM d) 3 ?_
    show ai_WP cd_150 (ai_Ex sh_T d) Q 0 0 60 [oR 11 0, _, oR 9 h5.2.2.1] [] ((sh_E h6).1, (sh_E h6).2.1, ai_up3 (sh_E h6).2.2.1 11 0 4 (h5.2.2.1 + 1), (sh_E h6).2.2.2)
    rw [sh_E_pS]
    show wq_150 d Q 60 [oR 11 0, _, oR 9 h5.2.2.1] [] (sh_E (sh_pS h6 h5.2.2.1))
    replace H := sh_okL H
    generalize sh_pS h6 h5.2.2.1 = h7 at H ⊢
    refine ai_WP_steps mc_150 (sh_CM d) 3 (And.intro (Nat.le_of_ble_eq_true rfl) (x_State_clear N (Nat.le_trans (Nat.le_of_ble_eq_true rfl) hd) 0 h7 (sh_okB H) (fun h8 H => ?_)))
    show wq_150 d Q 67 [oR 11 0, _, oR 9 h5.2.2.1] [] (sh_E h8)
    refine ai_WP_steps mc_150 (sh_CM d) 3 (And.intro (Nat.le_of_ble_eq_true rfl) (x_State_clear N (Nat.le_trans (Nat.le_of_ble_eq_true rfl) hd) 1 h8 (sh_okB H) (fun h9 H => ?_)))
    show wq_150 d Q 74 [oR 11 0, _, oR 9 h5.2.2.1] [] (sh_E h9)
    refine ai_WP_steps mc_150 (sh_CM d) 3 (And.intro (Nat.le_of_ble_eq_true rfl) (x_State_clear N (Nat.le_trans (Nat.le_of_ble_eq_true rfl) hd) 2 h9 (sh_okB H) (fun h10 H => ?_)))
    show wq_150 d Q 81 [oR 11 0, _, oR 9 h5.2.2.1] [] (sh_E h10)
    exact ai_WP_steps mc_150 (sh_CM d) 2 (hR (0 : Int32) h10 H)
  · replace H := sh_okF c H
    show wq_150 d Q 40 [oR 11 0, oI v1, _] [] (sh_E h5)
    exact ai_WP_steps mc_150 (sh_CM d) 2 (hR v1 h5 H)
def f_CB_place   (h : sh_H) : Option Int32 := (some (h.1 11 0 2))
theorem x_CB_place {d : Nat} (hd : 1 ≤ d)  (h : sh_H) {Q : ai_Q} {R : Int32 → Prop} (H : sh_ok (f_CB_place h) R) (hR : ∀ r, R r → Q (some (aI r)) (sh_E h)) : ai_Ex sh_T d 151 [aR 11 0] (sh_E h) Q := by
  obtain ⟨d, rfl⟩ : ∃ e, d = e + 1 := ⟨d - 1, by omega⟩
  replace hd : 0 ≤ d := by omega
  refine And.intro (Nat.le_of_ble_eq_true rfl) ?_
  show wq_151 d Q 0 [oR 11 0] [] (sh_E h)
  exact ai_WP_steps mc_151 (sh_CM d) 3 (hR (h.1 11 0 2) H)
def f_CB_within_b14    (h : sh_H) : Option Int32 := (some (ai_nar 1 (0 : Int32)))
theorem x_CB_within_b14 {d : Nat} (hd : 0 ≤ d) (h : sh_H) {Q : ai_Q} {R : Int32 → Prop} (hR : ∀ r, R r → Q (some (aI r)) (sh_E h))    {d0 d1 d2 : Option ai_V} (H : sh_ok (f_CB_within_b14 h) R) : wq_204 d Q 14 [d0, d1, d2] [] (sh_E h) := by
  exact ai_WP_steps mc_204 (sh_CM d) 2 (hR (ai_nar 1 (0 : Int32)) H)
def f_CB_within  (l0 : Int32) (l1 : Int32) (l2 : Int32) (h : sh_H) : Option Int32 := (if l0 < l1 then f_CB_within_b14 h else (if l2 < l0 then f_CB_within_b14 h else (some (ai_nar 1 (1 : Int32)))))
theorem x_CB_within {d : Nat} (hd : 1 ≤ d) (l0 : Int32) (l1 : Int32) (l2 : Int32) (h : sh_H) {Q : ai_Q} {R : Int32 → Prop} (H : sh_ok (f_CB_within l0 l1 l2 h) R) (hR : ∀ r, R r → Q (some (aI r)) (sh_E h)) : ai_Ex sh_T d 204 [aI l0, aI l1, aI l2] (sh_E h) Q := by
  obtain ⟨d, rfl⟩ : ∃ e, d = e + 1 := ⟨d - 1, by omega⟩
  replace hd : 0 ≤ d := by omega
  refine And.intro (Nat.le_of_ble_eq_true rfl) ?_
  show wq_204 d Q 0 [oI l0, oI l1, oI l2] [] (sh_E h)
  refine ai_WP_steps mc_204 (sh_CM d) 3 (And.intro (fun c => ?_) (fun c => ?_))
  · replace H := sh_okT c H
    exact x_CB_within_b14 hd h hR H
  · replace H := sh_okF c H
    show wq_204 d Q 5 [oI l0, oI l1, oI l2] [] (sh_E h)
    refine ai_WP_steps mc_204 (sh_CM d) 3 (And.intro (fun c => ?_) (fun c => ?_))
    · replace H := sh_okT c H
      exact x_CB_within_b14 hd h hR H
    · replace H := sh_okF c H
      show wq_204 d Q 10 [oI l0, oI l1, oI l2] [] (sh_E h)
      exact ai_WP_steps mc_204 (sh_CM d) 3 (hR (ai_nar 1 (1 : Int32)) H)
def f_CB_kind_b25   (l1 : Int32) (l2 : Int32) (s0 : Int32) (h : sh_H) : Option Int32 := (if s0 = 0 then (some (-1 : Int32)) else (Option.bind (f_Rows_get (7 * h.2.2.1 + 0) l1 l2 h) (fun v1 => (some v1))))
theorem x_CB_kind_b25 {d : Nat} (hd : 2 ≤ d) (h : sh_H) {Q : ai_Q} {R : Int32 → Prop} (hR : ∀ r, R r → Q (some (aI r)) (sh_E h))   (l1 : Int32) (l2 : Int32) (s0 : Int32) {d3 : Option ai_V} (H : sh_ok (f_CB_kind_b25 l1 l2 s0 h) R) : wq_152 d Q 25 [oR 11 0, oI l1, oI l2, d3] [aI s0] (sh_E h) := by
  refine ai_WP_steps mc_152 (sh_CM d) 3 (And.intro (fun c => ?_) (fun c => ?_))
  · replace H := sh_okT c H
    show wq_152 d Q 45 [oR 11 0, oI l1, oI l2, oI s0] [] (sh_E h)
    exact ai_WP_steps mc_152 (sh_CM d) 2 (hR (-1 : Int32) H)
  · replace H := sh_okF c H
    show wq_152 d Q 30 [oR 11 0, oI l1, oI l2, oI s0] [] (sh_E h)
    refine ai_WP_steps mc_152 (sh_CM d) 6 (And.intro (Nat.le_of_ble_eq_true rfl) (x_Rows_get (Nat.le_trans (Nat.le_of_ble_eq_true rfl) hd) (7 * h.2.2.1 + 0) l1 l2 h (sh_okB H) (fun v1 H => ?_)))
    show wq_152 d Q 42 [oR 11 0, oI l1, oI l2, oI s0] [aI v1] (sh_E h)
    exact ai_WP_steps mc_152 (sh_CM d) 2 (hR v1 H)
def f_CB_kind_b24   (l1 : Int32) (l2 : Int32) (h : sh_H) : Option Int32 := f_CB_kind_b25 l1 l2 (0 : Int32) h
theorem x_CB_kind_b24 {d : Nat} (hd : 2 ≤ d) (h : sh_H) {Q : ai_Q} {R : Int32 → Prop} (hR : ∀ r, R r → Q (some (aI r)) (sh_E h))   (l1 : Int32) (l2 : Int32) {d3 : Option ai_V} (H : sh_ok (f_CB_kind_b24 l1 l2 h) R) : wq_152 d Q 24 [oR 11 0, oI l1, oI l2, d3] [] (sh_E h) := by
  refine ai_WP_steps mc_152 (sh_CM d) 1 ?_
  exact x_CB_kind_b25 hd h hR l1 l2 (0 : Int32) H
def f_CB_kind  (l1 : Int32) (l2 : Int32) (h : sh_H) : Option Int32 := (Option.bind (f_Text_isKind h.2.2.1 l1 h) (fun v2 => (if v2 = 0 then f_CB_kind_b24 l1 l2 h else (Option.bind (f_CB_within l2 (0 : Int32) (2 : Int32) h) (fun v3 => (if v3 = 0 then f_CB_kind_b24 l1 l2 h else f_CB_kind_b25 l1 l2 (1 : Int32) h))))))
theorem x_CB_kind {d : Nat} (hd : 3 ≤ d) (l1 : Int32) (l2 : Int32) (h : sh_H) {Q : ai_Q} {R : Int32 → Prop} (H : sh_ok (f_CB_kind l1 l2 h) R) (hR : ∀ r, R r → Q (some (aI r)) (sh_E h)) : ai_Ex sh_T d 152 [aR 11 0, aI l1, aI l2] (sh_E h) Q := by
  obtain ⟨d, rfl⟩ : ∃ e, d = e + 1 := ⟨d - 1, by omega⟩
  replace hd : 2 ≤ d := by omega
  refine And.intro (Nat.le_of_ble_eq_true rfl) ?_
  show wq_152 d Q 0 [oR 11 0, oI l1, oI l2, none] [] (sh_E h)
  refine ai_WP_steps mc_152 (sh_CM d) 4 (And.intro (Nat.le_of_ble_eq_true rfl) (x_Text_isKind (Nat.le_trans (Nat.le_of_ble_eq_true rfl) hd) h.2.2.1 l1 h (sh_okB H) (fun v2 H => ?_)))
  show wq_152 d Q 8 [oR 11 0, oI l1, oI l2, _] [aI v2] (sh_E h)
  refine ai_WP_steps mc_152 (sh_CM d) 1 (And.intro (fun c => ?_) (fun c => ?_))
  · replace H := sh_okT c H
    exact x_CB_kind_b24 hd h hR l1 l2 H
  · replace H := sh_okF c H
    show wq_152 d Q 11 [oR 11 0, oI l1, oI l2, _] [] (sh_E h)
    refine ai_WP_steps mc_152 (sh_CM d) 4 (And.intro (Nat.le_of_ble_eq_true rfl) (x_CB_within (Nat.le_trans (Nat.le_of_ble_eq_true rfl) hd) l2 (0 : Int32) (2 : Int32) h (sh_okB H) (fun v3 H => ?_)))
    show wq_152 d Q 17 [oR 11 0, oI l1, oI l2, _] [aI v3] (sh_E h)
    refine ai_WP_steps mc_152 (sh_CM d) 1 (And.intro (fun c => ?_) (fun c => ?_))
    · replace H := sh_okT c H
      exact x_CB_kind_b24 hd h hR l1 l2 H
    · replace H := sh_okF c H
      show wq_152 d Q 20 [oR 11 0, oI l1, oI l2, _] [] (sh_E h)
      refine ai_WP_steps mc_152 (sh_CM d) 2 ?_
      exact x_CB_kind_b25 hd h hR l1 l2 (1 : Int32) H
def f_CB_island_b25   (l1 : Int32) (l2 : Int32) (s0 : Int32) (h : sh_H) : Option Int32 := (if s0 = 0 then (some (-1 : Int32)) else (Option.bind (f_Rows_get (7 * h.2.2.1 + 1) (l1 - (1 : Int32)) l2 h) (fun v1 => (some v1))))
theorem x_CB_island_b25 {d : Nat} (hd : 2 ≤ d) (h : sh_H) {Q : ai_Q} {R : Int32 → Prop} (hR : ∀ r, R r → Q (some (aI r)) (sh_E h))   (l1 : Int32) (l2 : Int32) (s0 : Int32) {d3 : Option ai_V} (H : sh_ok (f_CB_island_b25 l1 l2 s0 h) R) : wq_153 d Q 25 [oR 11 0, oI l1, oI l2, d3] [aI s0] (sh_E h) := by
  refine ai_WP_steps mc_153 (sh_CM d) 3 (And.intro (fun c => ?_) (fun c => ?_))
  · replace H := sh_okT c H
    show wq_153 d Q 47 [oR 11 0, oI l1, oI l2, oI s0] [] (sh_E h)
    exact ai_WP_steps mc_153 (sh_CM d) 2 (hR (-1 : Int32) H)
  · replace H := sh_okF c H
    show wq_153 d Q 30 [oR 11 0, oI l1, oI l2, oI s0] [] (sh_E h)
    refine ai_WP_steps mc_153 (sh_CM d) 8 (And.intro (Nat.le_of_ble_eq_true rfl) (x_Rows_get (Nat.le_trans (Nat.le_of_ble_eq_true rfl) hd) (7 * h.2.2.1 + 1) (l1 - (1 : Int32)) l2 h (sh_okB H) (fun v1 H => ?_)))
    show wq_153 d Q 44 [oR 11 0, oI l1, oI l2, oI s0] [aI v1] (sh_E h)
    exact ai_WP_steps mc_153 (sh_CM d) 2 (hR v1 H)
def f_CB_island_b24   (l1 : Int32) (l2 : Int32) (h : sh_H) : Option Int32 := f_CB_island_b25 l1 l2 (0 : Int32) h
theorem x_CB_island_b24 {d : Nat} (hd : 2 ≤ d) (h : sh_H) {Q : ai_Q} {R : Int32 → Prop} (hR : ∀ r, R r → Q (some (aI r)) (sh_E h))   (l1 : Int32) (l2 : Int32) {d3 : Option ai_V} (H : sh_ok (f_CB_island_b24 l1 l2 h) R) : wq_153 d Q 24 [oR 11 0, oI l1, oI l2, d3] [] (sh_E h) := by
  refine ai_WP_steps mc_153 (sh_CM d) 1 ?_
  exact x_CB_island_b25 hd h hR l1 l2 (0 : Int32) H
def f_CB_island  (l1 : Int32) (l2 : Int32) (h : sh_H) : Option Int32 := (Option.bind (f_Text_isIsland h.2.2.1 l1 h) (fun v2 => (if v2 = 0 then f_CB_island_b24 l1 l2 h else (Option.bind (f_CB_within l2 (0 : Int32) (1 : Int32) h) (fun v3 => (if v3 = 0 then f_CB_island_b24 l1 l2 h else f_CB_island_b25 l1 l2 (1 : Int32) h))))))
theorem x_CB_island {d : Nat} (hd : 3 ≤ d) (l1 : Int32) (l2 : Int32) (h : sh_H) {Q : ai_Q} {R : Int32 → Prop} (H : sh_ok (f_CB_island l1 l2 h) R) (hR : ∀ r, R r → Q (some (aI r)) (sh_E h)) : ai_Ex sh_T d 153 [aR 11 0, aI l1, aI l2] (sh_E h) Q := by
  obtain ⟨d, rfl⟩ : ∃ e, d = e + 1 := ⟨d - 1, by omega⟩
  replace hd : 2 ≤ d := by omega
  refine And.intro (Nat.le_of_ble_eq_true rfl) ?_
  show wq_153 d Q 0 [oR 11 0, oI l1, oI l2, none] [] (sh_E h)
  refine ai_WP_steps mc_153 (sh_CM d) 4 (And.intro (Nat.le_of_ble_eq_true rfl) (x_Text_isIsland (Nat.le_trans (Nat.le_of_ble_eq_true rfl) hd) h.2.2.1 l1 h (sh_okB H) (fun v2 H => ?_)))
  show wq_153 d Q 8 [oR 11 0, oI l1, oI l2, _] [aI v2] (sh_E h)
  refine ai_WP_steps mc_153 (sh_CM d) 1 (And.intro (fun c => ?_) (fun c => ?_))
  · replace H := sh_okT c H
    exact x_CB_island_b24 hd h hR l1 l2 H
  · replace H := sh_okF c H
    show wq_153 d Q 11 [oR 11 0, oI l1, oI l2, _] [] (sh_E h)
    refine ai_WP_steps mc_153 (sh_CM d) 4 (And.intro (Nat.le_of_ble_eq_true rfl) (x_CB_within (Nat.le_trans (Nat.le_of_ble_eq_true rfl) hd) l2 (0 : Int32) (1 : Int32) h (sh_okB H) (fun v3 H => ?_)))
    show wq_153 d Q 17 [oR 11 0, oI l1, oI l2, _] [aI v3] (sh_E h)
    refine ai_WP_steps mc_153 (sh_CM d) 1 (And.intro (fun c => ?_) (fun c => ?_))
    · replace H := sh_okT c H
      exact x_CB_island_b24 hd h hR l1 l2 H
    · replace H := sh_okF c H
      show wq_153 d Q 20 [oR 11 0, oI l1, oI l2, _] [] (sh_E h)
      refine ai_WP_steps mc_153 (sh_CM d) 2 ?_
      exact x_CB_island_b25 hd h hR l1 l2 (1 : Int32) H
def f_CB_isMonth  (l0 : Int32) (h : sh_H) : Option Int32 := (Option.bind (f_CB_within l0 (0 : Int32) (11 : Int32) h) (fun v1 => (some (ai_nar 1 v1))))
theorem x_CB_isMonth {d : Nat} (hd : 2 ≤ d) (l0 : Int32) (h : sh_H) {Q : ai_Q} {R : Int32 → Prop} (H : sh_ok (f_CB_isMonth l0 h) R) (hR : ∀ r, R r → Q (some (aI r)) (sh_E h)) : ai_Ex sh_T d 203 [aI l0] (sh_E h) Q := by
  obtain ⟨d, rfl⟩ : ∃ e, d = e + 1 := ⟨d - 1, by omega⟩
  replace hd : 1 ≤ d := by omega
  refine And.intro (Nat.le_of_ble_eq_true rfl) ?_
  show wq_203 d Q 0 [oI l0] [] (sh_E h)
  refine ai_WP_steps mc_203 (sh_CM d) 4 (And.intro (Nat.le_of_ble_eq_true rfl) (x_CB_within (Nat.le_trans (Nat.le_of_ble_eq_true rfl) hd) l0 (0 : Int32) (11 : Int32) h (sh_okB H) (fun v1 H => ?_)))
  show wq_203 d Q 7 [oI l0] [aI v1] (sh_E h)
  exact ai_WP_steps mc_203 (sh_CM d) 1 (hR (ai_nar 1 v1) H)
def f_CB_boat (N : Nat)  (l1 : Int32) (l2 : Int32) (h : sh_H) : Option Int32 := (Option.bind (f_Text_isIsland h.2.2.1 l1 h) (fun v1 => (if v1 = 0 then (some (-1 : Int32)) else (Option.bind (f_CB_isMonth l2 h) (fun v2 => (if v2 = 0 then (some (-1 : Int32)) else (Option.bind (f_Text_boatOf N h.2.2.1 l1 l2 h) (fun v3 => (if v3 = (-1 : Int32) then (some (-2 : Int32)) else (some v3))))))))))
theorem x_CB_boat (N : Nat) {d : Nat} (hd : 4 ≤ d) (l1 : Int32) (l2 : Int32) (h : sh_H) {Q : ai_Q} {R : Int32 → Prop} (H : sh_ok (f_CB_boat N l1 l2 h) R) (hR : ∀ r, R r → Q (some (aI r)) (sh_E h)) : ai_Ex sh_T d 154 [aR 11 0, aI l1, aI l2] (sh_E h) Q := by
  obtain ⟨d, rfl⟩ : ∃ e, d = e + 1 := ⟨d - 1, by omega⟩
  replace hd : 3 ≤ d := by omega
  refine And.intro (Nat.le_of_ble_eq_true rfl) ?_
  show wq_154 d Q 0 [oR 11 0, oI l1, oI l2, none] [] (sh_E h)
  refine ai_WP_steps mc_154 (sh_CM d) 4 (And.intro (Nat.le_of_ble_eq_true rfl) (x_Text_isIsland (Nat.le_trans (Nat.le_of_ble_eq_true rfl) hd) h.2.2.1 l1 h (sh_okB H) (fun v1 H => ?_)))
  show wq_154 d Q 8 [oR 11 0, oI l1, oI l2, _] [aI v1] (sh_E h)
  refine ai_WP_steps mc_154 (sh_CM d) 1 (And.intro (fun c => ?_) (fun c => ?_))
  · replace H := sh_okT c H
    show wq_154 d Q 18 [oR 11 0, oI l1, oI l2, _] [] (sh_E h)
    exact ai_WP_steps mc_154 (sh_CM d) 2 (hR (-1 : Int32) H)
  · replace H := sh_okF c H
    show wq_154 d Q 11 [oR 11 0, oI l1, oI l2, _] [] (sh_E h)
    refine ai_WP_steps mc_154 (sh_CM d) 2 (And.intro (Nat.le_of_ble_eq_true rfl) (x_CB_isMonth (Nat.le_trans (Nat.le_of_ble_eq_true rfl) hd) l2 h (sh_okB H) (fun v2 H => ?_)))
    show wq_154 d Q 15 [oR 11 0, oI l1, oI l2, _] [aI v2] (sh_E h)
    refine ai_WP_steps mc_154 (sh_CM d) 1 (And.intro (fun c => ?_) (fun c => ?_))
    · replace H := sh_okT c H
      show wq_154 d Q 18 [oR 11 0, oI l1, oI l2, _] [] (sh_E h)
      exact ai_WP_steps mc_154 (sh_CM d) 2 (hR (-1 : Int32) H)
    · replace H := sh_okF c H
      show wq_154 d Q 20 [oR 11 0, oI l1, oI l2, _] [] (sh_E h)
      refine ai_WP_steps mc_154 (sh_CM d) 5 (And.intro (Nat.le_of_ble_eq_true rfl) (x_Text_boatOf N (Nat.le_trans (Nat.le_of_ble_eq_true rfl) hd) h.2.2.1 l1 l2 h (sh_okB H) (fun v3 H => ?_)))
      show wq_154 d Q 29 [oR 11 0, oI l1, oI l2, _] [aI v3] (sh_E h)
      refine ai_WP_steps mc_154 (sh_CM d) 4 (And.intro (fun c => ?_) (fun c => ?_))
      · replace H := sh_okT c H
        show wq_154 d Q 35 [oR 11 0, oI l1, _, oI v3] [] (sh_E h)
        exact ai_WP_steps mc_154 (sh_CM d) 3 (hR (-2 : Int32) H)
      · replace H := sh_okF c H
        show wq_154 d Q 40 [oR 11 0, oI l1, _, oI v3] [] (sh_E h)
        exact ai_WP_steps mc_154 (sh_CM d) 2 (hR v3 H)
def f_CB_isOf_b26    (h : sh_H) : Option Int32 := (some (ai_nar 1 (0 : Int32)))
theorem x_CB_isOf_b26 {d : Nat} (hd : 2 ≤ d) (h : sh_H) {Q : ai_Q} {R : Int32 → Prop} (hR : ∀ r, R r → Q (some (aI r)) (sh_E h))    {d0 d1 d2 : Option ai_V} (H : sh_ok (f_CB_isOf_b26 h) R) : wq_196 d Q 26 [d0, d1, d2] [] (sh_E h) := by
  exact ai_WP_steps mc_196 (sh_CM d) 2 (hR (ai_nar 1 (0 : Int32)) H)
def f_CB_isOf  (l1 : Int32) (l2 : Int32) (h : sh_H) : Option Int32 := (Option.bind (f_Text_isIsland h.2.2.1 l1 h) (fun v1 => (if v1 = 0 then f_CB_isOf_b26 h else (Option.bind (f_Text_isKind h.2.2.1 l2 h) (fun v2 => (if v2 = 0 then f_CB_isOf_b26 h else (some (ai_nar 1 (1 : Int32)))))))))
theorem x_CB_isOf {d : Nat} (hd : 3 ≤ d) (l1 : Int32) (l2 : Int32) (h : sh_H) {Q : ai_Q} {R : Int32 → Prop} (H : sh_ok (f_CB_isOf l1 l2 h) R) (hR : ∀ r, R r → Q (some (aI r)) (sh_E h)) : ai_Ex sh_T d 196 [aR 11 0, aI l1, aI l2] (sh_E h) Q := by
  obtain ⟨d, rfl⟩ : ∃ e, d = e + 1 := ⟨d - 1, by omega⟩
  replace hd : 2 ≤ d := by omega
  refine And.intro (Nat.le_of_ble_eq_true rfl) ?_
  show wq_196 d Q 0 [oR 11 0, oI l1, oI l2] [] (sh_E h)
  refine ai_WP_steps mc_196 (sh_CM d) 4 (And.intro (Nat.le_of_ble_eq_true rfl) (x_Text_isIsland (Nat.le_trans (Nat.le_of_ble_eq_true rfl) hd) h.2.2.1 l1 h (sh_okB H) (fun v1 H => ?_)))
  show wq_196 d Q 8 [oR 11 0, oI l1, oI l2] [aI v1] (sh_E h)
  refine ai_WP_steps mc_196 (sh_CM d) 1 (And.intro (fun c => ?_) (fun c => ?_))
  · replace H := sh_okT c H
    exact x_CB_isOf_b26 hd h hR H
  · replace H := sh_okF c H
    show wq_196 d Q 11 [oR 11 0, oI l1, oI l2] [] (sh_E h)
    refine ai_WP_steps mc_196 (sh_CM d) 4 (And.intro (Nat.le_of_ble_eq_true rfl) (x_Text_isKind (Nat.le_trans (Nat.le_of_ble_eq_true rfl) hd) h.2.2.1 l2 h (sh_okB H) (fun v2 H => ?_)))
    show wq_196 d Q 19 [oR 11 0, oI l1, oI l2] [aI v2] (sh_E h)
    refine ai_WP_steps mc_196 (sh_CM d) 1 (And.intro (fun c => ?_) (fun c => ?_))
    · replace H := sh_okT c H
      exact x_CB_isOf_b26 hd h hR H
    · replace H := sh_okF c H
      show wq_196 d Q 22 [oR 11 0, oI l1, oI l2] [] (sh_E h)
      exact ai_WP_steps mc_196 (sh_CM d) 3 (hR (ai_nar 1 (1 : Int32)) H)
def f_CB_want_b21 (N : Nat)   (l1 : Int32) (l2 : Int32) (l3 : Int32) (s0 : Int32) (h : sh_H) : Option (Int32 × sh_H) := (if s0 = 0 then (some ((-1 : Int32), h)) else (sh_b2 (f_Text_wanted N h.2.2.1 l1 l2 l3 h) (fun v1 h2 => (some (v1, h2)))))
theorem x_CB_want_b21 (N : Nat) {d : Nat} (hd : 4 ≤ d) {Q : ai_Q} {R : Int32 × sh_H → Prop} (hR : ∀ r h, R (r, h) → Q (some (aI r)) (sh_E h))   (l1 : Int32) (l2 : Int32) (l3 : Int32) (s0 : Int32) {d4 : Option ai_V} (h : sh_H) (H : sh_ok (f_CB_want_b21 N l1 l2 l3 s0 h) R) : wq_155 d Q 21 [oR 11 0, oI l1, oI l2, oI l3, d4] [aI s0] (sh_E h) := by
  refine ai_WP_steps mc_155 (sh_CM d) 3 (And.intro (fun c => ?_) (fun c => ?_))
  · replace H := sh_okT c H
    show wq_155 d Q 41 [oR 11 0, oI l1, oI l2, oI l3, oI s0] [] (sh_E h)
    exact ai_WP_steps mc_155 (sh_CM d) 2 (hR (-1 : Int32) h H)
  · replace H := sh_okF c H
    show wq_155 d Q 28 [oR 11 0, oI l1, oI l2, oI l3, oI s0] [] (sh_E h)
    refine ai_WP_steps mc_155 (sh_CM d) 6 (And.intro (Nat.le_of_ble_eq_true rfl) (x_Text_wanted N (Nat.le_trans (Nat.le_of_ble_eq_true rfl) hd) h.2.2.1 l1 l2 l3 h (sh_okB H) (fun v1 h2 H => ?_)))
    show wq_155 d Q 38 [oR 11 0, oI l1, oI l2, oI l3, oI s0] [aI v1] (sh_E h2)
    exact ai_WP_steps mc_155 (sh_CM d) 2 (hR v1 h2 H)
def f_CB_want_b20 (N : Nat)   (l1 : Int32) (l2 : Int32) (l3 : Int32) (h : sh_H) : Option (Int32 × sh_H) := f_CB_want_b21 N l1 l2 l3 (0 : Int32) h
theorem x_CB_want_b20 (N : Nat) {d : Nat} (hd : 4 ≤ d) {Q : ai_Q} {R : Int32 × sh_H → Prop} (hR : ∀ r h, R (r, h) → Q (some (aI r)) (sh_E h))   (l1 : Int32) (l2 : Int32) (l3 : Int32) {d4 : Option ai_V} (h : sh_H) (H : sh_ok (f_CB_want_b20 N l1 l2 l3 h) R) : wq_155 d Q 20 [oR 11 0, oI l1, oI l2, oI l3, d4] [] (sh_E h) := by
  refine ai_WP_steps mc_155 (sh_CM d) 1 ?_
  exact x_CB_want_b21 N hd hR l1 l2 l3 (0 : Int32) h H
def f_CB_want (N : Nat)  (l1 : Int32) (l2 : Int32) (l3 : Int32) (h : sh_H) : Option (Int32 × sh_H) := (Option.bind (f_CB_isOf l1 l2 h) (fun v3 => (if v3 = 0 then f_CB_want_b20 N l1 l2 l3 h else (Option.bind (f_CB_isMonth l3 h) (fun v4 => (if v4 = 0 then f_CB_want_b20 N l1 l2 l3 h else f_CB_want_b21 N l1 l2 l3 (1 : Int32) h))))))
theorem x_CB_want (N : Nat) {d : Nat} (hd : 5 ≤ d) (l1 : Int32) (l2 : Int32) (l3 : Int32) (h : sh_H) {Q : ai_Q} {R : Int32 × sh_H → Prop} (H : sh_ok (f_CB_want N l1 l2 l3 h) R) (hR : ∀ r h, R (r, h) → Q (some (aI r)) (sh_E h)) : ai_Ex sh_T d 155 [aR 11 0, aI l1, aI l2, aI l3] (sh_E h) Q := by
  obtain ⟨d, rfl⟩ : ∃ e, d = e + 1 := ⟨d - 1, by omega⟩
  replace hd : 4 ≤ d := by omega
  refine And.intro (Nat.le_of_ble_eq_true rfl) ?_
  show wq_155 d Q 0 [oR 11 0, oI l1, oI l2, oI l3, none] [] (sh_E h)
  refine ai_WP_steps mc_155 (sh_CM d) 4 (And.intro (Nat.le_of_ble_eq_true rfl) (x_CB_isOf (Nat.le_trans (Nat.le_of_ble_eq_true rfl) hd) l1 l2 h (sh_okB H) (fun v3 H => ?_)))
  show wq_155 d Q 6 [oR 11 0, oI l1, oI l2, oI l3, _] [aI v3] (sh_E h)
  refine ai_WP_steps mc_155 (sh_CM d) 1 (And.intro (fun c => ?_) (fun c => ?_))
  · replace H := sh_okT c H
    exact x_CB_want_b20 N hd hR l1 l2 l3 h H
  · replace H := sh_okF c H
    show wq_155 d Q 9 [oR 11 0, oI l1, oI l2, oI l3, _] [] (sh_E h)
    refine ai_WP_steps mc_155 (sh_CM d) 2 (And.intro (Nat.le_of_ble_eq_true rfl) (x_CB_isMonth (Nat.le_trans (Nat.le_of_ble_eq_true rfl) hd) l3 h (sh_okB H) (fun v4 H => ?_)))
    show wq_155 d Q 13 [oR 11 0, oI l1, oI l2, oI l3, _] [aI v4] (sh_E h)
    refine ai_WP_steps mc_155 (sh_CM d) 1 (And.intro (fun c => ?_) (fun c => ?_))
    · replace H := sh_okT c H
      exact x_CB_want_b20 N hd hR l1 l2 l3 h H
    · replace H := sh_okF c H
      show wq_155 d Q 16 [oR 11 0, oI l1, oI l2, oI l3, _] [] (sh_E h)
      refine ai_WP_steps mc_155 (sh_CM d) 2 ?_
      exact x_CB_want_b21 N hd hR l1 l2 l3 (1 : Int32) h H
def f_CB_strike (N : Nat)  (l1 : Int32) (l2 : Int32) (h : sh_H) : Option (Int32 × sh_H) := (Option.bind (f_Text_isKind h.2.2.1 l1 h) (fun v1 => (if v1 = 0 then (some ((-1 : Int32), h)) else (Option.bind (f_CB_within l2 (1 : Int32) (9999 : Int32) h) (fun v2 => (if v2 = 0 then (some ((-1 : Int32), h)) else (Option.bind (f_Pieces_get 0 (0 : Int32) l1 (0 : Int32) h) (fun v3 => (if ((999999 : Int32) - l2) < v3 then (some ((-1 : Int32), h)) else (Option.bind (f_Pieces_add 0 (0 : Int32) l1 (0 : Int32) l2 h) (fun h4 => (Option.bind (f_Rows_get (7 * h4.2.2.1 + 0) l1 (2 : Int32) h4) (fun v5 => (sh_let (sh_pJ h4 7 0 7 ((h4.2.1 7 0 7) + (l2.toInt64 * v5.toInt64))) (fun h6 => (Option.bind (f_Pieces_all N 0 (0 : Int32) l1 h6) (fun v7 => (some (v7, h6)))))))))))))))))))
theorem x_CB_strike (N : Nat) {d : Nat} (hd : 5 ≤ d) (l1 : Int32) (l2 : Int32) (h : sh_H) {Q : ai_Q} {R : Int32 × sh_H → Prop} (H : sh_ok (f_CB_strike N l1 l2 h) R) (hR : ∀ r h, R (r, h) → Q (some (aI r)) (sh_E h)) : ai_Ex sh_T d 156 [aR 11 0, aI l1, aI l2] (sh_E h) Q := by
  obtain ⟨d, rfl⟩ : ∃ e, d = e + 1 := ⟨d - 1, by omega⟩
  replace hd : 4 ≤ d := by omega
  refine And.intro (Nat.le_of_ble_eq_true rfl) ?_
  show wq_156 d Q 0 [oR 11 0, oI l1, oI l2] [] (sh_E h)
  refine ai_WP_steps mc_156 (sh_CM d) 4 (And.intro (Nat.le_of_ble_eq_true rfl) (x_Text_isKind (Nat.le_trans (Nat.le_of_ble_eq_true rfl) hd) h.2.2.1 l1 h (sh_okB H) (fun v1 H => ?_)))
  show wq_156 d Q 8 [oR 11 0, oI l1, oI l2] [aI v1] (sh_E h)
  refine ai_WP_steps mc_156 (sh_CM d) 1 (And.intro (fun c => ?_) (fun c => ?_))
  · replace H := sh_okT c H
    show wq_156 d Q 42 [oR 11 0, oI l1, oI l2] [] (sh_E h)
    exact ai_WP_steps mc_156 (sh_CM d) 2 (hR (-1 : Int32) h H)
  · replace H := sh_okF c H
    show wq_156 d Q 11 [oR 11 0, oI l1, oI l2] [] (sh_E h)
    refine ai_WP_steps mc_156 (sh_CM d) 4 (And.intro (Nat.le_of_ble_eq_true rfl) (x_CB_within (Nat.le_trans (Nat.le_of_ble_eq_true rfl) hd) l2 (1 : Int32) (9999 : Int32) h (sh_okB H) (fun v2 H => ?_)))
    show wq_156 d Q 19 [oR 11 0, oI l1, oI l2] [aI v2] (sh_E h)
    refine ai_WP_steps mc_156 (sh_CM d) 1 (And.intro (fun c => ?_) (fun c => ?_))
    · replace H := sh_okT c H
      show wq_156 d Q 42 [oR 11 0, oI l1, oI l2] [] (sh_E h)
      exact ai_WP_steps mc_156 (sh_CM d) 2 (hR (-1 : Int32) h H)
    · replace H := sh_okF c H
      show wq_156 d Q 22 [oR 11 0, oI l1, oI l2] [] (sh_E h)
      refine ai_WP_steps mc_156 (sh_CM d) 7 (And.intro (Nat.le_of_ble_eq_true rfl) (x_Pieces_get (Nat.le_trans (Nat.le_of_ble_eq_true rfl) hd) 0 (0 : Int32) l1 (0 : Int32) h (sh_okB H) (fun v3 H => ?_)))
      show wq_156 d Q 35 [oR 11 0, oI l1, oI l2] [aI v3] (sh_E h)
      refine ai_WP_steps mc_156 (sh_CM d) 4 (And.intro (fun c => ?_) (fun c => ?_))
      · replace H := sh_okT c H
        show wq_156 d Q 42 [oR 11 0, oI l1, oI l2] [] (sh_E h)
        exact ai_WP_steps mc_156 (sh_CM d) 2 (hR (-1 : Int32) h H)
      · replace H := sh_okF c H
        show wq_156 d Q 44 [oR 11 0, oI l1, oI l2] [] (sh_E h)
        refine ai_WP_steps mc_156 (sh_CM d) 8 (And.intro (Nat.le_of_ble_eq_true rfl) (x_Pieces_add (Nat.le_trans (Nat.le_of_ble_eq_true rfl) hd) 0 (0 : Int32) l1 (0 : Int32) l2 h (sh_okB H) (fun h4 H => ?_)))
        show wq_156 d Q 58 [oR 11 0, oI l1, oI l2] [] (sh_E h4)
        refine ai_WP_steps mc_156 (sh_CM d) 12 (And.intro (Nat.le_of_ble_eq_true rfl) (x_Rows_get (Nat.le_trans (Nat.le_of_ble_eq_true rfl) hd) (7 * h4.2.2.1 + 0) l1 (2 : Int32) h4 (sh_okB H) (fun v5 H => ?_)))
        show wq_156 d Q 80 [oR 11 0, oI l1, oI l2] [aI v5, aL l2.toInt64, aL (h4.2.1 7 0 7), aR 7 0] (sh_E h4)
        refine ai_WP_steps mc_156 (sh_CM d) 4 ?_
        show wq_156 d Q 86 [oR 11 0, oI l1, oI l2] [] (sh_E (sh_pJ h4 7 0 7 ((h4.2.1 7 0 7) + (l2.toInt64 * v5.toInt64))))
        replace H := sh_okL H
        generalize sh_pJ h4 7 0 7 ((h4.2.1 7 0 7) + (l2.toInt64 * v5.toInt64)) = h6 at H ⊢
        refine ai_WP_steps mc_156 (sh_CM d) 6 (And.intro (Nat.le_of_ble_eq_true rfl) (x_Pieces_all N (Nat.le_trans (Nat.le_of_ble_eq_true rfl) hd) 0 (0 : Int32) l1 h6 (sh_okB H) (fun v7 H => ?_)))
        show wq_156 d Q 98 [oR 11 0, oI l1, oI l2] [aI v7] (sh_E h6)
        exact ai_WP_steps mc_156 (sh_CM d) 1 (hR v7 h6 H)
def f_CB_burn_l27 (N : Nat)  (k77 : Int32 → sh_H → Option (Int32 × sh_H)) (n : Nat) : Int32 → Int32 → Int32 → sh_H → Option (Int32 × sh_H) := Nat.rec (motive := fun _ => Int32 → Int32 → Int32 → sh_H → Option (Int32 × sh_H)) (fun _ _ _ _ => none) (fun _ k27 l1 l3 l4 h => (if l4 < (4 : Int32) then (Option.bind (f_Pieces_get 0 (0 : Int32) l1 l4 h) (fun v1 => (Option.bind (f_Pieces_add 0 (0 : Int32) l1 l4 (-v1) h) (fun h2 => k27 l1 (l3 + v1) (l4 + (1 : Int32)) h2)))) else k77 l3 h)) n
theorem x_CB_burn_l27 (N : Nat) {d : Nat} (hd : 3 ≤ d) {Q : ai_Q} {R : Int32 × sh_H → Prop} (hR : ∀ r h, R (r, h) → Q (some (aI r)) (sh_E h))  (k77 : Int32 → sh_H → Option (Int32 × sh_H)) (hk77 : ∀ (l3 : Int32) {d0 d1 d2 d4 d5 : Option ai_V} (h : sh_H), sh_ok (k77 l3 h) R → wq_157 d Q 77 [d0, d1, d2, oI l3, d4, d5] [] (sh_E h)) (n : Nat) : ∀ (l1 : Int32) (l3 : Int32) (l4 : Int32) {d2 d5 : Option ai_V} (h : sh_H), sh_ok (f_CB_burn_l27 N k77 n l1 l3 l4 h) R → wq_157 d Q 27 [oR 11 0, oI l1, d2, oI l3, oI l4, d5] [] (sh_E h) := by
  induction n with
  | zero => intro l1 l3 l4 d2 d5 h H; exact H.elim
  | succ n ih =>
    intro l1 l3 l4 d2 d5 h H
    have hk27 := @ih
    revert hk27 H
    show sh_ok ((fun k27 l1 l3 l4 h => (if l4 < (4 : Int32) then (Option.bind (f_Pieces_get 0 (0 : Int32) l1 l4 h) (fun v1 => (Option.bind (f_Pieces_add 0 (0 : Int32) l1 l4 (-v1) h) (fun h2 => k27 l1 (l3 + v1) (l4 + (1 : Int32)) h2)))) else k77 l3 h)) (f_CB_burn_l27 N k77 n) l1 l3 l4 h) R → _
    generalize f_CB_burn_l27 N k77 n = k27
    intro H hk27
    refine ai_WP_steps mc_157 (sh_CM d) 3 (And.intro (fun c => ?_) (fun c => ?_))
    · replace H := sh_okT c H
      show wq_157 d Q 33 [oR 11 0, oI l1, _, oI l3, oI l4, _] [] (sh_E h)
      refine ai_WP_steps mc_157 (sh_CM d) 7 (And.intro (Nat.le_of_ble_eq_true rfl) (x_Pieces_get (Nat.le_trans (Nat.le_of_ble_eq_true rfl) hd) 0 (0 : Int32) l1 l4 h (sh_okB H) (fun v1 H => ?_)))
      show wq_157 d Q 47 [oR 11 0, oI l1, _, oI l3, oI l4, _] [aI v1] (sh_E h)
      refine ai_WP_steps mc_157 (sh_CM d) 10 (And.intro (Nat.le_of_ble_eq_true rfl) (x_Pieces_add (Nat.le_trans (Nat.le_of_ble_eq_true rfl) hd) 0 (0 : Int32) l1 l4 (-v1) h (sh_okB H) (fun h2 H => ?_)))
      show wq_157 d Q 66 [oR 11 0, oI l1, _, oI l3, oI l4, oI v1] [] (sh_E h2)
      refine ai_WP_steps mc_157 (sh_CM d) 6 ?_
      exact hk27 l1 (l3 + v1) (l4 + (1 : Int32)) h2 H
    · replace H := sh_okF c H
      exact hk77 l3 h H
def f_CB_burn_b77 (N : Nat)   (l3 : Int32) (h : sh_H) : Option (Int32 × sh_H) := (some (l3, h))
theorem x_CB_burn_b77 (N : Nat) {d : Nat} (hd : 3 ≤ d) {Q : ai_Q} {R : Int32 × sh_H → Prop} (hR : ∀ r h, R (r, h) → Q (some (aI r)) (sh_E h))   (l3 : Int32) {d0 d1 d2 d4 d5 : Option ai_V} (h : sh_H) (H : sh_ok (f_CB_burn_b77 N l3 h) R) : wq_157 d Q 77 [d0, d1, d2, oI l3, d4, d5] [] (sh_E h) := by
  exact ai_WP_steps mc_157 (sh_CM d) 2 (hR l3 h H)
def f_CB_burn (N : Nat)  (l1 : Int32) (l2 : Int32) (h : sh_H) : Option (Int32 × sh_H) := (Option.bind (f_Text_isKind h.2.2.1 l1 h) (fun v3 => (if v3 = 0 then (some ((-1 : Int32), h)) else (Option.bind (f_CB_within l2 (0 : Int32) (3 : Int32) h) (fun v4 => (if v4 = 0 then (some ((-1 : Int32), h)) else f_CB_burn_l27 N (f_CB_burn_b77 N) N l1 (0 : Int32) l2 h))))))
theorem x_CB_burn (N : Nat) {d : Nat} (hd : 4 ≤ d) (l1 : Int32) (l2 : Int32) (h : sh_H) {Q : ai_Q} {R : Int32 × sh_H → Prop} (H : sh_ok (f_CB_burn N l1 l2 h) R) (hR : ∀ r h, R (r, h) → Q (some (aI r)) (sh_E h)) : ai_Ex sh_T d 157 [aR 11 0, aI l1, aI l2] (sh_E h) Q := by
  obtain ⟨d, rfl⟩ : ∃ e, d = e + 1 := ⟨d - 1, by omega⟩
  replace hd : 3 ≤ d := by omega
  refine And.intro (Nat.le_of_ble_eq_true rfl) ?_
  show wq_157 d Q 0 [oR 11 0, oI l1, oI l2, none, none, none] [] (sh_E h)
  refine ai_WP_steps mc_157 (sh_CM d) 4 (And.intro (Nat.le_of_ble_eq_true rfl) (x_Text_isKind (Nat.le_trans (Nat.le_of_ble_eq_true rfl) hd) h.2.2.1 l1 h (sh_okB H) (fun v3 H => ?_)))
  show wq_157 d Q 8 [oR 11 0, oI l1, oI l2, _, _, _] [aI v3] (sh_E h)
  refine ai_WP_steps mc_157 (sh_CM d) 1 (And.intro (fun c => ?_) (fun c => ?_))
  · replace H := sh_okT c H
    show wq_157 d Q 20 [oR 11 0, oI l1, oI l2, _, _, _] [] (sh_E h)
    exact ai_WP_steps mc_157 (sh_CM d) 2 (hR (-1 : Int32) h H)
  · replace H := sh_okF c H
    show wq_157 d Q 11 [oR 11 0, oI l1, oI l2, _, _, _] [] (sh_E h)
    refine ai_WP_steps mc_157 (sh_CM d) 4 (And.intro (Nat.le_of_ble_eq_true rfl) (x_CB_within (Nat.le_trans (Nat.le_of_ble_eq_true rfl) hd) l2 (0 : Int32) (3 : Int32) h (sh_okB H) (fun v4 H => ?_)))
    show wq_157 d Q 17 [oR 11 0, oI l1, oI l2, _, _, _] [aI v4] (sh_E h)
    refine ai_WP_steps mc_157 (sh_CM d) 1 (And.intro (fun c => ?_) (fun c => ?_))
    · replace H := sh_okT c H
      show wq_157 d Q 20 [oR 11 0, oI l1, oI l2, _, _, _] [] (sh_E h)
      exact ai_WP_steps mc_157 (sh_CM d) 2 (hR (-1 : Int32) h H)
    · replace H := sh_okF c H
      show wq_157 d Q 22 [oR 11 0, oI l1, oI l2, _, _, _] [] (sh_E h)
      refine ai_WP_steps mc_157 (sh_CM d) 4 ?_
      exact x_CB_burn_l27 N hd hR (f_CB_burn_b77 N) (fun z0 {e0} {e1} {e2} {e4} {e5} h H => x_CB_burn_b77 N hd hR z0 h H) N l1 (0 : Int32) l2 h H
def f_CB_lay  (l1 : Int32) (l2 : Int32) (l3 : Int32) (l4 : Int32) (h : sh_H) : Option (Int32 × sh_H) := (Option.bind (f_Text_isPlace h.2.2.1 l1 h) (fun v1 => (if v1 = 0 then (some ((-1 : Int32), h)) else (Option.bind (f_Text_isKind h.2.2.1 l2 h) (fun v2 => (if v2 = 0 then (some ((-1 : Int32), h)) else (Option.bind (f_CB_within l3 (0 : Int32) (3 : Int32) h) (fun v3 => (if v3 = 0 then (some ((-1 : Int32), h)) else (Option.bind (f_CB_within l4 (0 : Int32) (9999 : Int32) h) (fun v4 => (if v4 = 0 then (some ((-1 : Int32), h)) else (Option.bind (f_Pieces_get 0 l1 l2 l3 h) (fun v5 => (if ((999999 : Int32) - l4) < v5 then (some ((-1 : Int32), h)) else (Option.bind (f_Pieces_add 0 l1 l2 l3 l4 h) (fun h6 => (Option.bind (f_Pieces_get 0 l1 l2 l3 h6) (fun v7 => (some (v7, h6)))))))))))))))))))))
theorem x_CB_lay {d : Nat} (hd : 4 ≤ d) (l1 : Int32) (l2 : Int32) (l3 : Int32) (l4 : Int32) (h : sh_H) {Q : ai_Q} {R : Int32 × sh_H → Prop} (H : sh_ok (f_CB_lay l1 l2 l3 l4 h) R) (hR : ∀ r h, R (r, h) → Q (some (aI r)) (sh_E h)) : ai_Ex sh_T d 158 [aR 11 0, aI l1, aI l2, aI l3, aI l4] (sh_E h) Q := by
  obtain ⟨d, rfl⟩ : ∃ e, d = e + 1 := ⟨d - 1, by omega⟩
  replace hd : 3 ≤ d := by omega
  refine And.intro (Nat.le_of_ble_eq_true rfl) ?_
  show wq_158 d Q 0 [oR 11 0, oI l1, oI l2, oI l3, oI l4] [] (sh_E h)
  refine ai_WP_steps mc_158 (sh_CM d) 4 (And.intro (Nat.le_of_ble_eq_true rfl) (x_Text_isPlace (Nat.le_trans (Nat.le_of_ble_eq_true rfl) hd) h.2.2.1 l1 h (sh_okB H) (fun v1 H => ?_)))
  show wq_158 d Q 8 [oR 11 0, oI l1, oI l2, oI l3, oI l4] [aI v1] (sh_E h)
  refine ai_WP_steps mc_158 (sh_CM d) 1 (And.intro (fun c => ?_) (fun c => ?_))
  · replace H := sh_okT c H
    show wq_158 d Q 64 [oR 11 0, oI l1, oI l2, oI l3, oI l4] [] (sh_E h)
    exact ai_WP_steps mc_158 (sh_CM d) 2 (hR (-1 : Int32) h H)
  · replace H := sh_okF c H
    show wq_158 d Q 11 [oR 11 0, oI l1, oI l2, oI l3, oI l4] [] (sh_E h)
    refine ai_WP_steps mc_158 (sh_CM d) 4 (And.intro (Nat.le_of_ble_eq_true rfl) (x_Text_isKind (Nat.le_trans (Nat.le_of_ble_eq_true rfl) hd) h.2.2.1 l2 h (sh_okB H) (fun v2 H => ?_)))
    show wq_158 d Q 19 [oR 11 0, oI l1, oI l2, oI l3, oI l4] [aI v2] (sh_E h)
    refine ai_WP_steps mc_158 (sh_CM d) 1 (And.intro (fun c => ?_) (fun c => ?_))
    · replace H := sh_okT c H
      show wq_158 d Q 64 [oR 11 0, oI l1, oI l2, oI l3, oI l4] [] (sh_E h)
      exact ai_WP_steps mc_158 (sh_CM d) 2 (hR (-1 : Int32) h H)
    · replace H := sh_okF c H
      show wq_158 d Q 22 [oR 11 0, oI l1, oI l2, oI l3, oI l4] [] (sh_E h)
      refine ai_WP_steps mc_158 (sh_CM d) 4 (And.intro (Nat.le_of_ble_eq_true rfl) (x_CB_within (Nat.le_trans (Nat.le_of_ble_eq_true rfl) hd) l3 (0 : Int32) (3 : Int32) h (sh_okB H) (fun v3 H => ?_)))
      show wq_158 d Q 28 [oR 11 0, oI l1, oI l2, oI l3, oI l4] [aI v3] (sh_E h)
      refine ai_WP_steps mc_158 (sh_CM d) 1 (And.intro (fun c => ?_) (fun c => ?_))
      · replace H := sh_okT c H
        show wq_158 d Q 64 [oR 11 0, oI l1, oI l2, oI l3, oI l4] [] (sh_E h)
        exact ai_WP_steps mc_158 (sh_CM d) 2 (hR (-1 : Int32) h H)
      · replace H := sh_okF c H
        show wq_158 d Q 31 [oR 11 0, oI l1, oI l2, oI l3, oI l4] [] (sh_E h)
        refine ai_WP_steps mc_158 (sh_CM d) 4 (And.intro (Nat.le_of_ble_eq_true rfl) (x_CB_within (Nat.le_trans (Nat.le_of_ble_eq_true rfl) hd) l4 (0 : Int32) (9999 : Int32) h (sh_okB H) (fun v4 H => ?_)))
        show wq_158 d Q 40 [oR 11 0, oI l1, oI l2, oI l3, oI l4] [aI v4] (sh_E h)
        refine ai_WP_steps mc_158 (sh_CM d) 1 (And.intro (fun c => ?_) (fun c => ?_))
        · replace H := sh_okT c H
          show wq_158 d Q 64 [oR 11 0, oI l1, oI l2, oI l3, oI l4] [] (sh_E h)
          exact ai_WP_steps mc_158 (sh_CM d) 2 (hR (-1 : Int32) h H)
        · replace H := sh_okF c H
          show wq_158 d Q 43 [oR 11 0, oI l1, oI l2, oI l3, oI l4] [] (sh_E h)
          refine ai_WP_steps mc_158 (sh_CM d) 7 (And.intro (Nat.le_of_ble_eq_true rfl) (x_Pieces_get (Nat.le_trans (Nat.le_of_ble_eq_true rfl) hd) 0 l1 l2 l3 h (sh_okB H) (fun v5 H => ?_)))
          show wq_158 d Q 56 [oR 11 0, oI l1, oI l2, oI l3, oI l4] [aI v5] (sh_E h)
          refine ai_WP_steps mc_158 (sh_CM d) 4 (And.intro (fun c => ?_) (fun c => ?_))
          · replace H := sh_okT c H
            show wq_158 d Q 64 [oR 11 0, oI l1, oI l2, oI l3, oI l4] [] (sh_E h)
            exact ai_WP_steps mc_158 (sh_CM d) 2 (hR (-1 : Int32) h H)
          · replace H := sh_okF c H
            show wq_158 d Q 66 [oR 11 0, oI l1, oI l2, oI l3, oI l4] [] (sh_E h)
            refine ai_WP_steps mc_158 (sh_CM d) 8 (And.intro (Nat.le_of_ble_eq_true rfl) (x_Pieces_add (Nat.le_trans (Nat.le_of_ble_eq_true rfl) hd) 0 l1 l2 l3 l4 h (sh_okB H) (fun h6 H => ?_)))
            show wq_158 d Q 81 [oR 11 0, oI l1, oI l2, oI l3, oI l4] [] (sh_E h6)
            refine ai_WP_steps mc_158 (sh_CM d) 7 (And.intro (Nat.le_of_ble_eq_true rfl) (x_Pieces_get (Nat.le_trans (Nat.le_of_ble_eq_true rfl) hd) 0 l1 l2 l3 h6 (sh_okB H) (fun v7 H => ?_)))
            show wq_158 d Q 94 [oR 11 0, oI l1, oI l2, oI l3, oI l4] [aI v7] (sh_E h6)
            exact ai_WP_steps mc_158 (sh_CM d) 1 (hR v7 h6 H)
def f_CB_has (N : Nat)  (l1 : Int32) (l2 : Int32) (l3 : Int32) (h : sh_H) : Option Int32 := (Option.bind (f_Text_isPlace h.2.2.1 l1 h) (fun v1 => (if v1 = 0 then (some (-1 : Int32)) else (Option.bind (f_Text_isKind h.2.2.1 l2 h) (fun v2 => (if v2 = 0 then (some (-1 : Int32)) else (Option.bind (f_CB_within l3 (-1 : Int32) (3 : Int32) h) (fun v3 => (if v3 = 0 then (some (-1 : Int32)) else (if l3 = (-1 : Int32) then (Option.bind (f_Pieces_all N 0 l1 l2 h) (fun v4 => (some v4))) else (Option.bind (f_Pieces_get 0 l1 l2 l3 h) (fun v5 => (some v5)))))))))))))
theorem x_CB_has (N : Nat) {d : Nat} (hd : 5 ≤ d) (l1 : Int32) (l2 : Int32) (l3 : Int32) (h : sh_H) {Q : ai_Q} {R : Int32 → Prop} (H : sh_ok (f_CB_has N l1 l2 l3 h) R) (hR : ∀ r, R r → Q (some (aI r)) (sh_E h)) : ai_Ex sh_T d 159 [aR 11 0, aI l1, aI l2, aI l3] (sh_E h) Q := by
  obtain ⟨d, rfl⟩ : ∃ e, d = e + 1 := ⟨d - 1, by omega⟩
  replace hd : 4 ≤ d := by omega
  refine And.intro (Nat.le_of_ble_eq_true rfl) ?_
  show wq_159 d Q 0 [oR 11 0, oI l1, oI l2, oI l3] [] (sh_E h)
  refine ai_WP_steps mc_159 (sh_CM d) 4 (And.intro (Nat.le_of_ble_eq_true rfl) (x_Text_isPlace (Nat.le_trans (Nat.le_of_ble_eq_true rfl) hd) h.2.2.1 l1 h (sh_okB H) (fun v1 H => ?_)))
  show wq_159 d Q 8 [oR 11 0, oI l1, oI l2, oI l3] [aI v1] (sh_E h)
  refine ai_WP_steps mc_159 (sh_CM d) 1 (And.intro (fun c => ?_) (fun c => ?_))
  · replace H := sh_okT c H
    show wq_159 d Q 31 [oR 11 0, oI l1, oI l2, oI l3] [] (sh_E h)
    exact ai_WP_steps mc_159 (sh_CM d) 2 (hR (-1 : Int32) H)
  · replace H := sh_okF c H
    show wq_159 d Q 11 [oR 11 0, oI l1, oI l2, oI l3] [] (sh_E h)
    refine ai_WP_steps mc_159 (sh_CM d) 4 (And.intro (Nat.le_of_ble_eq_true rfl) (x_Text_isKind (Nat.le_trans (Nat.le_of_ble_eq_true rfl) hd) h.2.2.1 l2 h (sh_okB H) (fun v2 H => ?_)))
    show wq_159 d Q 19 [oR 11 0, oI l1, oI l2, oI l3] [aI v2] (sh_E h)
    refine ai_WP_steps mc_159 (sh_CM d) 1 (And.intro (fun c => ?_) (fun c => ?_))
    · replace H := sh_okT c H
      show wq_159 d Q 31 [oR 11 0, oI l1, oI l2, oI l3] [] (sh_E h)
      exact ai_WP_steps mc_159 (sh_CM d) 2 (hR (-1 : Int32) H)
    · replace H := sh_okF c H
      show wq_159 d Q 22 [oR 11 0, oI l1, oI l2, oI l3] [] (sh_E h)
      refine ai_WP_steps mc_159 (sh_CM d) 4 (And.intro (Nat.le_of_ble_eq_true rfl) (x_CB_within (Nat.le_trans (Nat.le_of_ble_eq_true rfl) hd) l3 (-1 : Int32) (3 : Int32) h (sh_okB H) (fun v3 H => ?_)))
      show wq_159 d Q 28 [oR 11 0, oI l1, oI l2, oI l3] [aI v3] (sh_E h)
      refine ai_WP_steps mc_159 (sh_CM d) 1 (And.intro (fun c => ?_) (fun c => ?_))
      · replace H := sh_okT c H
        show wq_159 d Q 31 [oR 11 0, oI l1, oI l2, oI l3] [] (sh_E h)
        exact ai_WP_steps mc_159 (sh_CM d) 2 (hR (-1 : Int32) H)
      · replace H := sh_okF c H
        show wq_159 d Q 33 [oR 11 0, oI l1, oI l2, oI l3] [] (sh_E h)
        refine ai_WP_steps mc_159 (sh_CM d) 3 (And.intro (fun c => ?_) (fun c => ?_))
        · replace H := sh_okT c H
          show wq_159 d Q 38 [oR 11 0, oI l1, oI l2, oI l3] [] (sh_E h)
          refine ai_WP_steps mc_159 (sh_CM d) 6 (And.intro (Nat.le_of_ble_eq_true rfl) (x_Pieces_all N (Nat.le_trans (Nat.le_of_ble_eq_true rfl) hd) 0 l1 l2 h (sh_okB H) (fun v4 H => ?_)))
          show wq_159 d Q 50 [oR 11 0, oI l1, oI l2, oI l3] [aI v4] (sh_E h)
          exact ai_WP_steps mc_159 (sh_CM d) 2 (hR v4 H)
        · replace H := sh_okF c H
          show wq_159 d Q 53 [oR 11 0, oI l1, oI l2, oI l3] [] (sh_E h)
          refine ai_WP_steps mc_159 (sh_CM d) 7 (And.intro (Nat.le_of_ble_eq_true rfl) (x_Pieces_get (Nat.le_trans (Nat.le_of_ble_eq_true rfl) hd) 0 l1 l2 l3 h (sh_okB H) (fun v5 H => ?_)))
          show wq_159 d Q 66 [oR 11 0, oI l1, oI l2, oI l3] [aI v5] (sh_E h)
          exact ai_WP_steps mc_159 (sh_CM d) 1 (hR v5 H)
def f_CB_send_b142 (N : Nat)   (l6 : Int32) (s0 : Nat) (s1 : Int32) (s2 : Int32) (s3 : Int32) (h : sh_H) : Option (Int32 × sh_H) := (Option.bind (f_Rows_put s0 s1 s2 s3 h) (fun h1 => (Option.bind (f_Rows_put (4 * 0 + 15) l6 (5 : Int32) (-2 : Int32) h1) (fun h2 => (some (l6, h2))))))
theorem x_CB_send_b142 (N : Nat) {d : Nat} (hd : 3 ≤ d) {Q : ai_Q} {R : Int32 × sh_H → Prop} (hR : ∀ r h, R (r, h) → Q (some (aI r)) (sh_E h))   (l6 : Int32) (s0 : Nat) (s1 : Int32) (s2 : Int32) (s3 : Int32) {d1 d2 d3 d4 d5 : Option ai_V} (h : sh_H) (H : sh_ok (f_CB_send_b142 N l6 s0 s1 s2 s3 h) R) : wq_160 d Q 142 [oR 11 0, d1, d2, d3, d4, d5, oI l6] [aI s3, aI s2, aI s1, aR 6 s0] (sh_E h) := by
  refine ai_WP_steps mc_160 (sh_CM d) 1 (And.intro (Nat.le_of_ble_eq_true rfl) (x_Rows_put (Nat.le_trans (Nat.le_of_ble_eq_true rfl) hd) s0 s1 s2 s3 h (sh_okB H) (fun h1 H => ?_)))
  show wq_160 d Q 145 [oR 11 0, _, _, _, _, _, oI l6] [] (sh_E h1)
  refine ai_WP_steps mc_160 (sh_CM d) 7 (And.intro (Nat.le_of_ble_eq_true rfl) (x_Rows_put (Nat.le_trans (Nat.le_of_ble_eq_true rfl) hd) (4 * 0 + 15) l6 (5 : Int32) (-2 : Int32) h1 (sh_okB H) (fun h2 H => ?_)))
  show wq_160 d Q 160 [oR 11 0, _, _, _, _, _, oI l6] [] (sh_E h2)
  exact ai_WP_steps mc_160 (sh_CM d) 2 (hR l6 h2 H)
def f_CB_send (N : Nat)  (l1 : Int32) (l2 : Int32) (l3 : Int32) (l4 : Int32) (l5 : Int32) (h : sh_H) : Option (Int32 × sh_H) := (Option.bind (f_CB_within l1 (h.1 7 0 4) (239 : Int32) h) (fun v3 => (if v3 = 0 then (some ((-1 : Int32), h)) else (Option.bind (f_CB_isOf l2 l3 h) (fun v4 => (if v4 = 0 then (some ((-1 : Int32), h)) else (Option.bind (f_CB_within l4 (1 : Int32) (9999 : Int32) h) (fun v5 => (if v5 = 0 then (some ((-1 : Int32), h)) else (Option.bind (f_Rows_isFull (4 * 0 + 15) h) (fun v6 => (if v6 = 0 then (sh_b2 (f_Rows_add N (4 * 0 + 15) h) (fun v7 h8 => (Option.bind (f_Rows_put (4 * 0 + 15) v7 (0 : Int32) l2 h8) (fun h9 => (Option.bind (f_Rows_put (4 * 0 + 15) v7 (1 : Int32) l3 h9) (fun h10 => (Option.bind (f_Rows_put (4 * 0 + 15) v7 (2 : Int32) l1 h10) (fun h11 => (Option.bind (f_Rows_put (4 * 0 + 15) v7 (3 : Int32) l4 h11) (fun h12 => (if l5 = 0 then f_CB_send_b142 N v7 (4 * 0 + 15) v7 (4 : Int32) (0 : Int32) h12 else f_CB_send_b142 N v7 (4 * 0 + 15) v7 (4 : Int32) (1 : Int32) h12))))))))))) else (some ((-1 : Int32), h))))))))))))))
theorem x_CB_send (N : Nat) {d : Nat} (hd : 4 ≤ d) (l1 : Int32) (l2 : Int32) (l3 : Int32) (l4 : Int32) (l5 : Int32) (h : sh_H) {Q : ai_Q} {R : Int32 × sh_H → Prop} (H : sh_ok (f_CB_send N l1 l2 l3 l4 l5 h) R) (hR : ∀ r h, R (r, h) → Q (some (aI r)) (sh_E h)) : ai_Ex sh_T d 160 [aR 11 0, aI l1, aI l2, aI l3, aI l4, aI l5] (sh_E h) Q := by
  obtain ⟨d, rfl⟩ : ∃ e, d = e + 1 := ⟨d - 1, by omega⟩
  replace hd : 3 ≤ d := by omega
  refine And.intro (Nat.le_of_ble_eq_true rfl) ?_
  show wq_160 d Q 0 [oR 11 0, oI l1, oI l2, oI l3, oI l4, oI l5, none] [] (sh_E h)
  refine ai_WP_steps mc_160 (sh_CM d) 6 (And.intro (Nat.le_of_ble_eq_true rfl) (x_CB_within (Nat.le_trans (Nat.le_of_ble_eq_true rfl) hd) l1 (h.1 7 0 4) (239 : Int32) h (sh_okB H) (fun v3 H => ?_)))
  show wq_160 d Q 14 [oR 11 0, oI l1, oI l2, oI l3, oI l4, oI l5, _] [aI v3] (sh_E h)
  refine ai_WP_steps mc_160 (sh_CM d) 1 (And.intro (fun c => ?_) (fun c => ?_))
  · replace H := sh_okT c H
    show wq_160 d Q 51 [oR 11 0, oI l1, oI l2, oI l3, oI l4, oI l5, _] [] (sh_E h)
    exact ai_WP_steps mc_160 (sh_CM d) 2 (hR (-1 : Int32) h H)
  · replace H := sh_okF c H
    show wq_160 d Q 17 [oR 11 0, oI l1, oI l2, oI l3, oI l4, oI l5, _] [] (sh_E h)
    refine ai_WP_steps mc_160 (sh_CM d) 4 (And.intro (Nat.le_of_ble_eq_true rfl) (x_CB_isOf (Nat.le_trans (Nat.le_of_ble_eq_true rfl) hd) l2 l3 h (sh_okB H) (fun v4 H => ?_)))
    show wq_160 d Q 23 [oR 11 0, oI l1, oI l2, oI l3, oI l4, oI l5, _] [aI v4] (sh_E h)
    refine ai_WP_steps mc_160 (sh_CM d) 1 (And.intro (fun c => ?_) (fun c => ?_))
    · replace H := sh_okT c H
      show wq_160 d Q 51 [oR 11 0, oI l1, oI l2, oI l3, oI l4, oI l5, _] [] (sh_E h)
      exact ai_WP_steps mc_160 (sh_CM d) 2 (hR (-1 : Int32) h H)
    · replace H := sh_okF c H
      show wq_160 d Q 26 [oR 11 0, oI l1, oI l2, oI l3, oI l4, oI l5, _] [] (sh_E h)
      refine ai_WP_steps mc_160 (sh_CM d) 4 (And.intro (Nat.le_of_ble_eq_true rfl) (x_CB_within (Nat.le_trans (Nat.le_of_ble_eq_true rfl) hd) l4 (1 : Int32) (9999 : Int32) h (sh_okB H) (fun v5 H => ?_)))
      show wq_160 d Q 35 [oR 11 0, oI l1, oI l2, oI l3, oI l4, oI l5, _] [aI v5] (sh_E h)
      refine ai_WP_steps mc_160 (sh_CM d) 1 (And.intro (fun c => ?_) (fun c => ?_))
      · replace H := sh_okT c H
        show wq_160 d Q 51 [oR 11 0, oI l1, oI l2, oI l3, oI l4, oI l5, _] [] (sh_E h)
        exact ai_WP_steps mc_160 (sh_CM d) 2 (hR (-1 : Int32) h H)
      · replace H := sh_okF c H
        show wq_160 d Q 38 [oR 11 0, oI l1, oI l2, oI l3, oI l4, oI l5, _] [] (sh_E h)
        refine ai_WP_steps mc_160 (sh_CM d) 4 (And.intro (Nat.le_of_ble_eq_true rfl) (x_Rows_isFull (Nat.le_trans (Nat.le_of_ble_eq_true rfl) hd) (4 * 0 + 15) h (sh_okB H) (fun v6 H => ?_)))
        show wq_160 d Q 48 [oR 11 0, oI l1, oI l2, oI l3, oI l4, oI l5, _] [aI v6] (sh_E h)
        refine ai_WP_steps mc_160 (sh_CM d) 1 (And.intro (fun c => ?_) (fun c => ?_))
        · replace H := sh_okT c H
          show wq_160 d Q 53 [oR 11 0, oI l1, oI l2, oI l3, oI l4, oI l5, _] [] (sh_E h)
          refine ai_WP_steps mc_160 (sh_CM d) 4 (And.intro (Nat.le_of_ble_eq_true rfl) (x_Rows_add N (Nat.le_trans (Nat.le_of_ble_eq_true rfl) hd) (4 * 0 + 15) h (sh_okB H) (fun v7 h8 H => ?_)))
          show wq_160 d Q 63 [oR 11 0, oI l1, oI l2, oI l3, oI l4, oI l5, _] [aI v7] (sh_E h8)
          refine ai_WP_steps mc_160 (sh_CM d) 8 (And.intro (Nat.le_of_ble_eq_true rfl) (x_Rows_put (Nat.le_trans (Nat.le_of_ble_eq_true rfl) hd) (4 * 0 + 15) v7 (0 : Int32) l2 h8 (sh_okB H) (fun h9 H => ?_)))
          show wq_160 d Q 79 [oR 11 0, oI l1, oI l2, oI l3, oI l4, oI l5, oI v7] [] (sh_E h9)
          refine ai_WP_steps mc_160 (sh_CM d) 7 (And.intro (Nat.le_of_ble_eq_true rfl) (x_Rows_put (Nat.le_trans (Nat.le_of_ble_eq_true rfl) hd) (4 * 0 + 15) v7 (1 : Int32) l3 h9 (sh_okB H) (fun h10 H => ?_)))
          show wq_160 d Q 93 [oR 11 0, oI l1, oI l2, oI l3, oI l4, oI l5, oI v7] [] (sh_E h10)
          refine ai_WP_steps mc_160 (sh_CM d) 7 (And.intro (Nat.le_of_ble_eq_true rfl) (x_Rows_put (Nat.le_trans (Nat.le_of_ble_eq_true rfl) hd) (4 * 0 + 15) v7 (2 : Int32) l1 h10 (sh_okB H) (fun h11 H => ?_)))
          show wq_160 d Q 107 [oR 11 0, oI l1, oI l2, oI l3, oI l4, oI l5, oI v7] [] (sh_E h11)
          refine ai_WP_steps mc_160 (sh_CM d) 7 (And.intro (Nat.le_of_ble_eq_true rfl) (x_Rows_put (Nat.le_trans (Nat.le_of_ble_eq_true rfl) hd) (4 * 0 + 15) v7 (3 : Int32) l4 h11 (sh_okB H) (fun h12 H => ?_)))
          show wq_160 d Q 122 [oR 11 0, oI l1, oI l2, oI l3, oI l4, oI l5, oI v7] [] (sh_E h12)
          refine ai_WP_steps mc_160 (sh_CM d) 7 (And.intro (fun c => ?_) (fun c => ?_))
          · replace H := sh_okT c H
            show wq_160 d Q 141 [oR 11 0, oI l1, oI l2, oI l3, oI l4, oI l5, oI v7] [aI (4 : Int32), aI v7, aR 6 (4 * 0 + 15)] (sh_E h12)
            refine ai_WP_steps mc_160 (sh_CM d) 1 ?_
            exact x_CB_send_b142 N hd hR v7 (4 * 0 + 15) v7 (4 : Int32) (0 : Int32) h12 H
          · replace H := sh_okF c H
            show wq_160 d Q 137 [oR 11 0, oI l1, oI l2, oI l3, oI l4, oI l5, oI v7] [aI (4 : Int32), aI v7, aR 6 (4 * 0 + 15)] (sh_E h12)
            refine ai_WP_steps mc_160 (sh_CM d) 2 ?_
            exact x_CB_send_b142 N hd hR v7 (4 * 0 + 15) v7 (4 : Int32) (1 : Int32) h12 H
        · replace H := sh_okF c H
          show wq_160 d Q 51 [oR 11 0, oI l1, oI l2, oI l3, oI l4, oI l5, _] [] (sh_E h)
          exact ai_WP_steps mc_160 (sh_CM d) 2 (hR (-1 : Int32) h H)
def f_CB_done_b23   (l1 : Int32) (s0 : Int32) (h : sh_H) : Option Int32 := (if s0 = 0 then (some (-1 : Int32)) else (Option.bind (f_Rows_get (4 * 0 + 15) l1 (5 : Int32) h) (fun v1 => (some v1))))
theorem x_CB_done_b23 {d : Nat} (hd : 2 ≤ d) (h : sh_H) {Q : ai_Q} {R : Int32 → Prop} (hR : ∀ r, R r → Q (some (aI r)) (sh_E h))   (l1 : Int32) (s0 : Int32) {d2 : Option ai_V} (H : sh_ok (f_CB_done_b23 l1 s0 h) R) : wq_161 d Q 23 [oR 11 0, oI l1, d2] [aI s0] (sh_E h) := by
  refine ai_WP_steps mc_161 (sh_CM d) 3 (And.intro (fun c => ?_) (fun c => ?_))
  · replace H := sh_okT c H
    show wq_161 d Q 43 [oR 11 0, oI l1, oI s0] [] (sh_E h)
    exact ai_WP_steps mc_161 (sh_CM d) 2 (hR (-1 : Int32) H)
  · replace H := sh_okF c H
    show wq_161 d Q 28 [oR 11 0, oI l1, oI s0] [] (sh_E h)
    refine ai_WP_steps mc_161 (sh_CM d) 6 (And.intro (Nat.le_of_ble_eq_true rfl) (x_Rows_get (Nat.le_trans (Nat.le_of_ble_eq_true rfl) hd) (4 * 0 + 15) l1 (5 : Int32) h (sh_okB H) (fun v1 H => ?_)))
    show wq_161 d Q 40 [oR 11 0, oI l1, oI s0] [aI v1] (sh_E h)
    exact ai_WP_steps mc_161 (sh_CM d) 2 (hR v1 H)
def f_CB_done_b22   (l1 : Int32) (h : sh_H) : Option Int32 := f_CB_done_b23 l1 (0 : Int32) h
theorem x_CB_done_b22 {d : Nat} (hd : 2 ≤ d) (h : sh_H) {Q : ai_Q} {R : Int32 → Prop} (hR : ∀ r, R r → Q (some (aI r)) (sh_E h))   (l1 : Int32) {d2 : Option ai_V} (H : sh_ok (f_CB_done_b22 l1 h) R) : wq_161 d Q 22 [oR 11 0, oI l1, d2] [] (sh_E h) := by
  refine ai_WP_steps mc_161 (sh_CM d) 1 ?_
  exact x_CB_done_b23 hd h hR l1 (0 : Int32) H
def f_CB_done  (l1 : Int32) (h : sh_H) : Option Int32 := (if l1 < 0 then f_CB_done_b22 l1 h else (Option.bind (f_Rows_size (4 * 0 + 15) h) (fun v2 => (if l1 < v2 then f_CB_done_b23 l1 (1 : Int32) h else f_CB_done_b22 l1 h))))
theorem x_CB_done {d : Nat} (hd : 3 ≤ d) (l1 : Int32) (h : sh_H) {Q : ai_Q} {R : Int32 → Prop} (H : sh_ok (f_CB_done l1 h) R) (hR : ∀ r, R r → Q (some (aI r)) (sh_E h)) : ai_Ex sh_T d 161 [aR 11 0, aI l1] (sh_E h) Q := by
  obtain ⟨d, rfl⟩ : ∃ e, d = e + 1 := ⟨d - 1, by omega⟩
  replace hd : 2 ≤ d := by omega
  refine And.intro (Nat.le_of_ble_eq_true rfl) ?_
  show wq_161 d Q 0 [oR 11 0, oI l1, none] [] (sh_E h)
  refine ai_WP_steps mc_161 (sh_CM d) 2 (And.intro (fun c => ?_) (fun c => ?_))
  · replace H := sh_okT c H
    exact x_CB_done_b22 hd h hR l1 H
  · replace H := sh_okF c H
    show wq_161 d Q 4 [oR 11 0, oI l1, _] [] (sh_E h)
    refine ai_WP_steps mc_161 (sh_CM d) 5 (And.intro (Nat.le_of_ble_eq_true rfl) (x_Rows_size (Nat.le_trans (Nat.le_of_ble_eq_true rfl) hd) (4 * 0 + 15) h (sh_okB H) (fun v2 H => ?_)))
    show wq_161 d Q 15 [oR 11 0, oI l1, _] [aI v2, aI l1] (sh_E h)
    refine ai_WP_steps mc_161 (sh_CM d) 1 (And.intro (fun c => ?_) (fun c => ?_))
    · replace H := sh_okT c H
      show wq_161 d Q 18 [oR 11 0, oI l1, _] [] (sh_E h)
      refine ai_WP_steps mc_161 (sh_CM d) 2 ?_
      exact x_CB_done_b23 hd h hR l1 (1 : Int32) H
    · replace H := sh_okF c H
      exact x_CB_done_b22 hd h hR l1 H
def f_CB_judge (N : Nat)   (h : sh_H) : Option (Int32 × sh_H) := (sh_b2 (f_Calendar_firstUndone N h.2.2.1 0 h) (fun v1 h2 => (some (v1, h2))))
theorem x_CB_judge (N : Nat) {d : Nat} (hd : 7 ≤ d)  (h : sh_H) {Q : ai_Q} {R : Int32 × sh_H → Prop} (H : sh_ok (f_CB_judge N h) R) (hR : ∀ r h, R (r, h) → Q (some (aI r)) (sh_E h)) : ai_Ex sh_T d 162 [aR 11 0] (sh_E h) Q := by
  obtain ⟨d, rfl⟩ : ∃ e, d = e + 1 := ⟨d - 1, by omega⟩
  replace hd : 6 ≤ d := by omega
  refine And.intro (Nat.le_of_ble_eq_true rfl) ?_
  show wq_162 d Q 0 [oR 11 0] [] (sh_E h)
  refine ai_WP_steps mc_162 (sh_CM d) 7 (And.intro (Nat.le_of_ble_eq_true rfl) (x_Calendar_firstUndone N (Nat.le_trans (Nat.le_of_ble_eq_true rfl) hd) h.2.2.1 0 h (sh_okB H) (fun v1 h2 H => ?_)))
  show wq_162 d Q 15 [oR 11 0] [aI v1] (sh_E h2)
  exact ai_WP_steps mc_162 (sh_CM d) 1 (hR v1 h2 H)
def f_CB_why (N : Nat)   (h : sh_H) : Option (Int32 × sh_H) := (sh_b2 (f_Calendar_firstUndone N h.2.2.1 0 h) (fun v1 h2 => (Option.bind (f_Calendar_reason h2) (fun v3 => (some (v3, h2))))))
theorem x_CB_why (N : Nat) {d : Nat} (hd : 7 ≤ d)  (h : sh_H) {Q : ai_Q} {R : Int32 × sh_H → Prop} (H : sh_ok (f_CB_why N h) R) (hR : ∀ r h, R (r, h) → Q (some (aI r)) (sh_E h)) : ai_Ex sh_T d 163 [aR 11 0] (sh_E h) Q := by
  obtain ⟨d, rfl⟩ : ∃ e, d = e + 1 := ⟨d - 1, by omega⟩
  replace hd : 6 ≤ d := by omega
  refine And.intro (Nat.le_of_ble_eq_true rfl) ?_
  show wq_163 d Q 0 [oR 11 0] [] (sh_E h)
  refine ai_WP_steps mc_163 (sh_CM d) 7 (And.intro (Nat.le_of_ble_eq_true rfl) (x_Calendar_firstUndone N (Nat.le_trans (Nat.le_of_ble_eq_true rfl) hd) h.2.2.1 0 h (sh_okB H) (fun v1 h2 H => ?_)))
  show wq_163 d Q 15 [oR 11 0] [aI v1] (sh_E h2)
  refine ai_WP_steps mc_163 (sh_CM d) 4 (And.intro (Nat.le_of_ble_eq_true rfl) (x_Calendar_reason (Nat.le_trans (Nat.le_of_ble_eq_true rfl) hd) h2 (sh_okB H) (fun v3 H => ?_)))
  show wq_163 d Q 23 [oR 11 0] [aI v3] (sh_E h2)
  exact ai_WP_steps mc_163 (sh_CM d) 1 (hR v3 h2 H)
def f_CB_months_l32 (N : Nat)  (k63 : Int32 → sh_H → Option (Int32 × sh_H)) (n : Nat) : Int32 → Int32 → Int32 → Int32 → sh_H → Option (Int32 × sh_H) := Nat.rec (motive := fun _ => Int32 → Int32 → Int32 → Int32 → sh_H → Option (Int32 × sh_H)) (fun _ _ _ _ _ => none) (fun _ k32 l1 l2 l3 l4 h => (if l4 < l2 then (sh_b2 (f_Calendar_pass N h.2.2.1 0 l1 h) (fun v1 h2 => k32 l1 l2 (l3 + v1) (l4 + (1 : Int32)) h2)) else k63 l3 h)) n
theorem x_CB_months_l32 (N : Nat) {d : Nat} (hd : 7 ≤ d) {Q : ai_Q} {R : Int32 × sh_H → Prop} (hR : ∀ r h, R (r, h) → Q (some (aI r)) (sh_E h))  (k63 : Int32 → sh_H → Option (Int32 × sh_H)) (hk63 : ∀ (l3 : Int32) {d0 d1 d2 d4 : Option ai_V} (h : sh_H), sh_ok (k63 l3 h) R → wq_164 d Q 63 [d0, d1, d2, oI l3, d4] [] (sh_E h)) (n : Nat) : ∀ (l1 : Int32) (l2 : Int32) (l3 : Int32) (l4 : Int32) (h : sh_H), sh_ok (f_CB_months_l32 N k63 n l1 l2 l3 l4 h) R → wq_164 d Q 32 [oR 11 0, oI l1, oI l2, oI l3, oI l4] [] (sh_E h) := by
  induction n with
  | zero => intro l1 l2 l3 l4 h H; exact H.elim
  | succ n ih =>
    intro l1 l2 l3 l4 h H
    have hk32 := @ih
    revert hk32 H
    show sh_ok ((fun k32 l1 l2 l3 l4 h => (if l4 < l2 then (sh_b2 (f_Calendar_pass N h.2.2.1 0 l1 h) (fun v1 h2 => k32 l1 l2 (l3 + v1) (l4 + (1 : Int32)) h2)) else k63 l3 h)) (f_CB_months_l32 N k63 n) l1 l2 l3 l4 h) R → _
    generalize f_CB_months_l32 N k63 n = k32
    intro H hk32
    refine ai_WP_steps mc_164 (sh_CM d) 3 (And.intro (fun c => ?_) (fun c => ?_))
    · replace H := sh_okT c H
      show wq_164 d Q 38 [oR 11 0, oI l1, oI l2, oI l3, oI l4] [] (sh_E h)
      refine ai_WP_steps mc_164 (sh_CM d) 9 (And.intro (Nat.le_of_ble_eq_true rfl) (x_Calendar_pass N (Nat.le_trans (Nat.le_of_ble_eq_true rfl) hd) h.2.2.1 0 l1 h (sh_okB H) (fun v1 h2 H => ?_)))
      show wq_164 d Q 55 [oR 11 0, oI l1, oI l2, oI l3, oI l4] [aI v1, aI l3] (sh_E h2)
      refine ai_WP_steps mc_164 (sh_CM d) 4 ?_
      exact hk32 l1 l2 (l3 + v1) (l4 + (1 : Int32)) h2 H
    · replace H := sh_okF c H
      exact hk63 l3 h H
def f_CB_months_b63 (N : Nat)   (l3 : Int32) (h : sh_H) : Option (Int32 × sh_H) := (some (l3, h))
theorem x_CB_months_b63 (N : Nat) {d : Nat} (hd : 7 ≤ d) {Q : ai_Q} {R : Int32 × sh_H → Prop} (hR : ∀ r h, R (r, h) → Q (some (aI r)) (sh_E h))   (l3 : Int32) {d0 d1 d2 d4 : Option ai_V} (h : sh_H) (H : sh_ok (f_CB_months_b63 N l3 h) R) : wq_164 d Q 63 [d0, d1, d2, oI l3, d4] [] (sh_E h) := by
  exact ai_WP_steps mc_164 (sh_CM d) 2 (hR l3 h H)
def f_CB_months (N : Nat)  (l1 : Int32) (l2 : Int32) (h : sh_H) : Option (Int32 × sh_H) := (Option.bind (f_CB_within l2 (1 : Int32) (24 : Int32) h) (fun v3 => (if v3 = 0 then (some ((-1 : Int32), h)) else (if (240 : Int32) < ((h.1 7 0 4) + l2) then (some ((-1 : Int32), h)) else f_CB_months_l32 N (f_CB_months_b63 N) N l1 l2 (0 : Int32) (0 : Int32) h))))
theorem x_CB_months (N : Nat) {d : Nat} (hd : 8 ≤ d) (l1 : Int32) (l2 : Int32) (h : sh_H) {Q : ai_Q} {R : Int32 × sh_H → Prop} (H : sh_ok (f_CB_months N l1 l2 h) R) (hR : ∀ r h, R (r, h) → Q (some (aI r)) (sh_E h)) : ai_Ex sh_T d 164 [aR 11 0, aI l1, aI l2] (sh_E h) Q := by
  obtain ⟨d, rfl⟩ : ∃ e, d = e + 1 := ⟨d - 1, by omega⟩
  replace hd : 7 ≤ d := by omega
  refine And.intro (Nat.le_of_ble_eq_true rfl) ?_
  show wq_164 d Q 0 [oR 11 0, oI l1, oI l2, none, none] [] (sh_E h)
  refine ai_WP_steps mc_164 (sh_CM d) 4 (And.intro (Nat.le_of_ble_eq_true rfl) (x_CB_within (Nat.le_trans (Nat.le_of_ble_eq_true rfl) hd) l2 (1 : Int32) (24 : Int32) h (sh_okB H) (fun v3 H => ?_)))
  show wq_164 d Q 7 [oR 11 0, oI l1, oI l2, _, _] [aI v3] (sh_E h)
  refine ai_WP_steps mc_164 (sh_CM d) 1 (And.intro (fun c => ?_) (fun c => ?_))
  · replace H := sh_okT c H
    show wq_164 d Q 25 [oR 11 0, oI l1, oI l2, _, _] [] (sh_E h)
    exact ai_WP_steps mc_164 (sh_CM d) 2 (hR (-1 : Int32) h H)
  · replace H := sh_okF c H
    show wq_164 d Q 10 [oR 11 0, oI l1, oI l2, _, _] [] (sh_E h)
    refine ai_WP_steps mc_164 (sh_CM d) 7 (And.intro (fun c => ?_) (fun c => ?_))
    · replace H := sh_okT c H
      show wq_164 d Q 25 [oR 11 0, oI l1, oI l2, _, _] [] (sh_E h)
      exact ai_WP_steps mc_164 (sh_CM d) 2 (hR (-1 : Int32) h H)
    · replace H := sh_okF c H
      show wq_164 d Q 27 [oR 11 0, oI l1, oI l2, _, _] [] (sh_E h)
      refine ai_WP_steps mc_164 (sh_CM d) 4 ?_
      exact x_CB_months_l32 N hd hR (f_CB_months_b63 N) (fun z0 {e0} {e1} {e2} {e4} h H => x_CB_months_b63 N hd hR z0 h H) N l1 l2 (0 : Int32) (0 : Int32) h H
def f_CB_lacks  (l1 : Int32) (l2 : Int32) (h : sh_H) : Option Int32 := (Option.bind (f_CB_isOf l1 l2 h) (fun v1 => (if v1 = 0 then (some (-1 : Int32)) else (Option.bind (f_Rows_get (4 * 0 + 17) (l1 - (1 : Int32)) l2 h) (fun v2 => (some v2))))))
theorem x_CB_lacks {d : Nat} (hd : 4 ≤ d) (l1 : Int32) (l2 : Int32) (h : sh_H) {Q : ai_Q} {R : Int32 → Prop} (H : sh_ok (f_CB_lacks l1 l2 h) R) (hR : ∀ r, R r → Q (some (aI r)) (sh_E h)) : ai_Ex sh_T d 165 [aR 11 0, aI l1, aI l2] (sh_E h) Q := by
  obtain ⟨d, rfl⟩ : ∃ e, d = e + 1 := ⟨d - 1, by omega⟩
  replace hd : 3 ≤ d := by omega
  refine And.intro (Nat.le_of_ble_eq_true rfl) ?_
  show wq_165 d Q 0 [oR 11 0, oI l1, oI l2] [] (sh_E h)
  refine ai_WP_steps mc_165 (sh_CM d) 4 (And.intro (Nat.le_of_ble_eq_true rfl) (x_CB_isOf (Nat.le_trans (Nat.le_of_ble_eq_true rfl) hd) l1 l2 h (sh_okB H) (fun v1 H => ?_)))
  show wq_165 d Q 6 [oR 11 0, oI l1, oI l2] [aI v1] (sh_E h)
  refine ai_WP_steps mc_165 (sh_CM d) 1 (And.intro (fun c => ?_) (fun c => ?_))
  · replace H := sh_okT c H
    show wq_165 d Q 26 [oR 11 0, oI l1, oI l2] [] (sh_E h)
    exact ai_WP_steps mc_165 (sh_CM d) 2 (hR (-1 : Int32) H)
  · replace H := sh_okF c H
    show wq_165 d Q 9 [oR 11 0, oI l1, oI l2] [] (sh_E h)
    refine ai_WP_steps mc_165 (sh_CM d) 8 (And.intro (Nat.le_of_ble_eq_true rfl) (x_Rows_get (Nat.le_trans (Nat.le_of_ble_eq_true rfl) hd) (4 * 0 + 17) (l1 - (1 : Int32)) l2 h (sh_okB H) (fun v2 H => ?_)))
    show wq_165 d Q 23 [oR 11 0, oI l1, oI l2] [aI v2] (sh_E h)
    exact ai_WP_steps mc_165 (sh_CM d) 2 (hR v2 H)
def f_CB_spent  (l1 : Int32) (h : sh_H) : Option Int64 := (if l1 = (0 : Int32) then (some (((h.2.1 7 0 5) + (h.2.1 7 0 6)) + (h.2.1 7 0 7))) else (if l1 = (1 : Int32) then (some (h.2.1 7 0 5)) else (if l1 = (2 : Int32) then (some (h.2.1 7 0 6)) else (if l1 = (3 : Int32) then (some (h.2.1 7 0 7)) else (some (-1 : Int64))))))
theorem x_CB_spent {d : Nat} (hd : 1 ≤ d) (l1 : Int32) (h : sh_H) {Q : ai_Q} {R : Int64 → Prop} (H : sh_ok (f_CB_spent l1 h) R) (hR : ∀ r, R r → Q (some (aL r)) (sh_E h)) : ai_Ex sh_T d 166 [aR 11 0, aI l1] (sh_E h) Q := by
  obtain ⟨d, rfl⟩ : ∃ e, d = e + 1 := ⟨d - 1, by omega⟩
  replace hd : 0 ≤ d := by omega
  refine And.intro (Nat.le_of_ble_eq_true rfl) ?_
  show wq_166 d Q 0 [oR 11 0, oI l1] [] (sh_E h)
  refine ai_WP_steps mc_166 (sh_CM d) 2 (And.intro (fun c => ?_) (fun c => ?_))
  · replace H := sh_okT c H
    show wq_166 d Q 32 [oR 11 0, oI l1] [] (sh_E h)
    exact ai_WP_steps mc_166 (sh_CM d) 12 (hR (((h.2.1 7 0 5) + (h.2.1 7 0 6)) + (h.2.1 7 0 7)) H)
  replace H := sh_okF c H
  refine And.intro (fun c => ?_) (fun c => ?_)
  · replace H := sh_okT c H
    show wq_166 d Q 56 [oR 11 0, oI l1] [] (sh_E h)
    exact ai_WP_steps mc_166 (sh_CM d) 4 (hR (h.2.1 7 0 5) H)
  replace H := sh_okF c H
  refine And.intro (fun c => ?_) (fun c => ?_)
  · replace H := sh_okT c H
    show wq_166 d Q 64 [oR 11 0, oI l1] [] (sh_E h)
    exact ai_WP_steps mc_166 (sh_CM d) 4 (hR (h.2.1 7 0 6) H)
  replace H := sh_okF c H
  refine And.intro (fun c => ?_) (fun c => ?_)
  · replace H := sh_okT c H
    show wq_166 d Q 72 [oR 11 0, oI l1] [] (sh_E h)
    exact ai_WP_steps mc_166 (sh_CM d) 4 (hR (h.2.1 7 0 7) H)
  replace H := sh_okF c H
  show wq_166 d Q 80 [oR 11 0, oI l1] [] (sh_E h)
  exact ai_WP_steps mc_166 (sh_CM d) 2 (hR (-1 : Int64) H)
def f_CB_isSum  (l0 : Int32) (h : sh_H) : Option Int32 := (Option.bind (f_CB_within l0 (1 : Int32) (2000 : Int32) h) (fun v1 => (some (ai_nar 1 v1))))
theorem x_CB_isSum {d : Nat} (hd : 2 ≤ d) (l0 : Int32) (h : sh_H) {Q : ai_Q} {R : Int32 → Prop} (H : sh_ok (f_CB_isSum l0 h) R) (hR : ∀ r, R r → Q (some (aI r)) (sh_E h)) : ai_Ex sh_T d 202 [aI l0] (sh_E h) Q := by
  obtain ⟨d, rfl⟩ : ∃ e, d = e + 1 := ⟨d - 1, by omega⟩
  replace hd : 1 ≤ d := by omega
  refine And.intro (Nat.le_of_ble_eq_true rfl) ?_
  show wq_202 d Q 0 [oI l0] [] (sh_E h)
  refine ai_WP_steps mc_202 (sh_CM d) 4 (And.intro (Nat.le_of_ble_eq_true rfl) (x_CB_within (Nat.le_trans (Nat.le_of_ble_eq_true rfl) hd) l0 (1 : Int32) (2000 : Int32) h (sh_okB H) (fun v1 H => ?_)))
  show wq_202 d Q 8 [oI l0] [aI v1] (sh_E h)
  exact ai_WP_steps mc_202 (sh_CM d) 1 (hR (ai_nar 1 v1) H)
def f_CB_pay_b38 (N : Nat)   (l1 : Int32) (l2 : Int32) (l3 : Int32) (h : sh_H) : Option (Int32 × sh_H) := (Option.bind (f_Coins_look N h.2.2.1 0 l1 (0 : Int32) h) (fun h1 => (sh_b2 (f_Coins_fewestOfTill N l2 h1) (fun v2 h3 => (if v2 = (-2 : Int32) then (some (v2, h3)) else (if l3 = 0 then (some (v2, h3)) else (sh_b2 (f_Coins_ofTill N l2 (l3 - (10 : Int32)) h3) (fun v4 h5 => (some (v4, h5))))))))))
theorem x_CB_pay_b38 (N : Nat) {d : Nat} (hd : 5 ≤ d) {Q : ai_Q} {R : Int32 × sh_H → Prop} (hR : ∀ r h, R (r, h) → Q (some (aI r)) (sh_E h))   (l1 : Int32) (l2 : Int32) (l3 : Int32) {d4 : Option ai_V} (h : sh_H) (H : sh_ok (f_CB_pay_b38 N l1 l2 l3 h) R) : wq_167 d Q 38 [oR 11 0, oI l1, oI l2, oI l3, d4] [] (sh_E h) := by
  refine ai_WP_steps mc_167 (sh_CM d) 10 (And.intro (Nat.le_of_ble_eq_true rfl) (x_Coins_look N (Nat.le_trans (Nat.le_of_ble_eq_true rfl) hd) h.2.2.1 0 l1 (0 : Int32) h (sh_okB H) (fun h1 H => ?_)))
  show wq_167 d Q 58 [oR 11 0, oI l1, oI l2, oI l3, _] [] (sh_E h1)
  refine ai_WP_steps mc_167 (sh_CM d) 4 (And.intro (Nat.le_of_ble_eq_true rfl) (x_Coins_fewestOfTill N (Nat.le_trans (Nat.le_of_ble_eq_true rfl) hd) l2 h1 (sh_okB H) (fun v2 h3 H => ?_)))
  show wq_167 d Q 66 [oR 11 0, oI l1, oI l2, oI l3, _] [aI v2] (sh_E h3)
  refine ai_WP_steps mc_167 (sh_CM d) 4 (And.intro (fun c => ?_) (fun c => ?_))
  · replace H := sh_okT c H
    show wq_167 d Q 79 [oR 11 0, oI l1, oI l2, oI l3, oI v2] [] (sh_E h3)
    exact ai_WP_steps mc_167 (sh_CM d) 2 (hR v2 h3 H)
  · replace H := sh_okF c H
    show wq_167 d Q 75 [oR 11 0, oI l1, oI l2, oI l3, oI v2] [] (sh_E h3)
    refine ai_WP_steps mc_167 (sh_CM d) 2 (And.intro (fun c => ?_) (fun c => ?_))
    · replace H := sh_okT c H
      show wq_167 d Q 79 [oR 11 0, oI l1, oI l2, oI l3, oI v2] [] (sh_E h3)
      exact ai_WP_steps mc_167 (sh_CM d) 2 (hR v2 h3 H)
    · replace H := sh_okF c H
      show wq_167 d Q 82 [oR 11 0, oI l1, oI l2, oI l3, oI v2] [] (sh_E h3)
      refine ai_WP_steps mc_167 (sh_CM d) 7 (And.intro (Nat.le_of_ble_eq_true rfl) (x_Coins_ofTill N (Nat.le_trans (Nat.le_of_ble_eq_true rfl) hd) l2 (l3 - (10 : Int32)) h3 (sh_okB H) (fun v4 h5 H => ?_)))
      show wq_167 d Q 94 [oR 11 0, oI l1, oI l2, oI l3, oI v2] [aI v4] (sh_E h5)
      exact ai_WP_steps mc_167 (sh_CM d) 1 (hR v4 h5 H)
def f_CB_pay (N : Nat)  (l1 : Int32) (l2 : Int32) (l3 : Int32) (h : sh_H) : Option (Int32 × sh_H) := (Option.bind (f_Text_isPlace h.2.2.1 l1 h) (fun v6 => (if v6 = 0 then (some ((-1 : Int32), h)) else (Option.bind (f_CB_isSum l2 h) (fun v7 => (if v7 = 0 then (some ((-1 : Int32), h)) else (if l3 = 0 then f_CB_pay_b38 N l1 l2 l3 h else (Option.bind (f_Text_isKind h.2.2.1 (l3 - (10 : Int32)) h) (fun v8 => (if v8 = 0 then (some ((-1 : Int32), h)) else f_CB_pay_b38 N l1 l2 l3 h))))))))))
theorem x_CB_pay (N : Nat) {d : Nat} (hd : 6 ≤ d) (l1 : Int32) (l2 : Int32) (l3 : Int32) (h : sh_H) {Q : ai_Q} {R : Int32 × sh_H → Prop} (H : sh_ok (f_CB_pay N l1 l2 l3 h) R) (hR : ∀ r h, R (r, h) → Q (some (aI r)) (sh_E h)) : ai_Ex sh_T d 167 [aR 11 0, aI l1, aI l2, aI l3] (sh_E h) Q := by
  obtain ⟨d, rfl⟩ : ∃ e, d = e + 1 := ⟨d - 1, by omega⟩
  replace hd : 5 ≤ d := by omega
  refine And.intro (Nat.le_of_ble_eq_true rfl) ?_
  show wq_167 d Q 0 [oR 11 0, oI l1, oI l2, oI l3, none] [] (sh_E h)
  refine ai_WP_steps mc_167 (sh_CM d) 4 (And.intro (Nat.le_of_ble_eq_true rfl) (x_Text_isPlace (Nat.le_trans (Nat.le_of_ble_eq_true rfl) hd) h.2.2.1 l1 h (sh_okB H) (fun v6 H => ?_)))
  show wq_167 d Q 8 [oR 11 0, oI l1, oI l2, oI l3, _] [aI v6] (sh_E h)
  refine ai_WP_steps mc_167 (sh_CM d) 1 (And.intro (fun c => ?_) (fun c => ?_))
  · replace H := sh_okT c H
    show wq_167 d Q 36 [oR 11 0, oI l1, oI l2, oI l3, _] [] (sh_E h)
    exact ai_WP_steps mc_167 (sh_CM d) 2 (hR (-1 : Int32) h H)
  · replace H := sh_okF c H
    show wq_167 d Q 11 [oR 11 0, oI l1, oI l2, oI l3, _] [] (sh_E h)
    refine ai_WP_steps mc_167 (sh_CM d) 2 (And.intro (Nat.le_of_ble_eq_true rfl) (x_CB_isSum (Nat.le_trans (Nat.le_of_ble_eq_true rfl) hd) l2 h (sh_okB H) (fun v7 H => ?_)))
    show wq_167 d Q 15 [oR 11 0, oI l1, oI l2, oI l3, _] [aI v7] (sh_E h)
    refine ai_WP_steps mc_167 (sh_CM d) 1 (And.intro (fun c => ?_) (fun c => ?_))
    · replace H := sh_okT c H
      show wq_167 d Q 36 [oR 11 0, oI l1, oI l2, oI l3, _] [] (sh_E h)
      exact ai_WP_steps mc_167 (sh_CM d) 2 (hR (-1 : Int32) h H)
    · replace H := sh_okF c H
      show wq_167 d Q 18 [oR 11 0, oI l1, oI l2, oI l3, _] [] (sh_E h)
      refine ai_WP_steps mc_167 (sh_CM d) 2 (And.intro (fun c => ?_) (fun c => ?_))
      · replace H := sh_okT c H
        exact x_CB_pay_b38 N hd hR l1 l2 l3 h H
      · replace H := sh_okF c H
        show wq_167 d Q 22 [oR 11 0, oI l1, oI l2, oI l3, _] [] (sh_E h)
        refine ai_WP_steps mc_167 (sh_CM d) 6 (And.intro (Nat.le_of_ble_eq_true rfl) (x_Text_isKind (Nat.le_trans (Nat.le_of_ble_eq_true rfl) hd) h.2.2.1 (l3 - (10 : Int32)) h (sh_okB H) (fun v8 H => ?_)))
        show wq_167 d Q 33 [oR 11 0, oI l1, oI l2, oI l3, _] [aI v8] (sh_E h)
        refine ai_WP_steps mc_167 (sh_CM d) 1 (And.intro (fun c => ?_) (fun c => ?_))
        · replace H := sh_okT c H
          show wq_167 d Q 36 [oR 11 0, oI l1, oI l2, oI l3, _] [] (sh_E h)
          exact ai_WP_steps mc_167 (sh_CM d) 2 (hR (-1 : Int32) h H)
        · replace H := sh_okF c H
          exact x_CB_pay_b38 N hd hR l1 l2 l3 h H
def f_CB_change_b73 (N : Nat)   (l1 : Int32) (l2 : Int32) (l3 : Int32) (l4 : Int32) (l5 : Int32) (l6 : Int32) (h : sh_H) : Option (Int32 × sh_H) := (Option.bind (f_Coins_look N h.2.2.1 0 l1 l3 h) (fun h1 => (sh_b2 (f_Coins_leastGiven N l2 h1) (fun v2 h3 => (if v2 = (-2 : Int32) then (some ((-2 : Int32), h3)) else (if l5 = 0 then (if l6 = 0 then (Option.bind (f_Coins_bothWays h3) (fun v4 => (some (v4, h3)))) else (sh_b2 (f_Coins_ofTill N (v2 - l2) (l4 - (20 : Int32)) h3) (fun v5 h6 => (some (v5, h6))))) else (sh_b2 (f_Coins_ofPurse N v2 (l4 - (10 : Int32)) h3) (fun v7 h8 => (some (v7, h8))))))))))
theorem x_CB_change_b73 (N : Nat) {d : Nat} (hd : 5 ≤ d) {Q : ai_Q} {R : Int32 × sh_H → Prop} (hR : ∀ r h, R (r, h) → Q (some (aI r)) (sh_E h))   (l1 : Int32) (l2 : Int32) (l3 : Int32) (l4 : Int32) (l5 : Int32) (l6 : Int32) {d7 : Option ai_V} (h : sh_H) (H : sh_ok (f_CB_change_b73 N l1 l2 l3 l4 l5 l6 h) R) : wq_168 d Q 73 [oR 11 0, oI l1, oI l2, oI l3, oI l4, oI l5, oI l6, d7] [] (sh_E h) := by
  refine ai_WP_steps mc_168 (sh_CM d) 10 (And.intro (Nat.le_of_ble_eq_true rfl) (x_Coins_look N (Nat.le_trans (Nat.le_of_ble_eq_true rfl) hd) h.2.2.1 0 l1 l3 h (sh_okB H) (fun h1 H => ?_)))
  show wq_168 d Q 93 [oR 11 0, oI l1, oI l2, oI l3, oI l4, oI l5, oI l6, _] [] (sh_E h1)
  refine ai_WP_steps mc_168 (sh_CM d) 4 (And.intro (Nat.le_of_ble_eq_true rfl) (x_Coins_leastGiven N (Nat.le_trans (Nat.le_of_ble_eq_true rfl) hd) l2 h1 (sh_okB H) (fun v2 h3 H => ?_)))
  show wq_168 d Q 101 [oR 11 0, oI l1, oI l2, oI l3, oI l4, oI l5, oI l6, _] [aI v2] (sh_E h3)
  refine ai_WP_steps mc_168 (sh_CM d) 4 (And.intro (fun c => ?_) (fun c => ?_))
  · replace H := sh_okT c H
    show wq_168 d Q 110 [oR 11 0, oI l1, oI l2, oI l3, oI l4, oI l5, oI l6, oI v2] [] (sh_E h3)
    exact ai_WP_steps mc_168 (sh_CM d) 2 (hR (-2 : Int32) h3 H)
  · replace H := sh_okF c H
    show wq_168 d Q 113 [oR 11 0, oI l1, oI l2, oI l3, oI l4, oI l5, oI l6, oI v2] [] (sh_E h3)
    refine ai_WP_steps mc_168 (sh_CM d) 2 (And.intro (fun c => ?_) (fun c => ?_))
    · replace H := sh_okT c H
      show wq_168 d Q 133 [oR 11 0, oI l1, oI l2, oI l3, oI l4, oI l5, oI l6, oI v2] [] (sh_E h3)
      refine ai_WP_steps mc_168 (sh_CM d) 2 (And.intro (fun c => ?_) (fun c => ?_))
      · replace H := sh_okT c H
        show wq_168 d Q 157 [oR 11 0, oI l1, oI l2, oI l3, oI l4, oI l5, oI l6, oI v2] [] (sh_E h3)
        refine ai_WP_steps mc_168 (sh_CM d) 3 (And.intro (Nat.le_of_ble_eq_true rfl) (x_Coins_bothWays (Nat.le_trans (Nat.le_of_ble_eq_true rfl) hd) h3 (sh_okB H) (fun v4 H => ?_)))
        show wq_168 d Q 164 [oR 11 0, oI l1, oI l2, oI l3, oI l4, oI l5, oI l6, oI v2] [aI v4] (sh_E h3)
        exact ai_WP_steps mc_168 (sh_CM d) 1 (hR v4 h3 H)
      · replace H := sh_okF c H
        show wq_168 d Q 138 [oR 11 0, oI l1, oI l2, oI l3, oI l4, oI l5, oI l6, oI v2] [] (sh_E h3)
        refine ai_WP_steps mc_168 (sh_CM d) 9 (And.intro (Nat.le_of_ble_eq_true rfl) (x_Coins_ofTill N (Nat.le_trans (Nat.le_of_ble_eq_true rfl) hd) (v2 - l2) (l4 - (20 : Int32)) h3 (sh_okB H) (fun v5 h6 H => ?_)))
        show wq_168 d Q 154 [oR 11 0, oI l1, oI l2, oI l3, oI l4, oI l5, oI l6, oI v2] [aI v5] (sh_E h6)
        exact ai_WP_steps mc_168 (sh_CM d) 2 (hR v5 h6 H)
    · replace H := sh_okF c H
      show wq_168 d Q 118 [oR 11 0, oI l1, oI l2, oI l3, oI l4, oI l5, oI l6, oI v2] [] (sh_E h3)
      refine ai_WP_steps mc_168 (sh_CM d) 7 (And.intro (Nat.le_of_ble_eq_true rfl) (x_Coins_ofPurse N (Nat.le_trans (Nat.le_of_ble_eq_true rfl) hd) v2 (l4 - (10 : Int32)) h3 (sh_okB H) (fun v7 h8 H => ?_)))
      show wq_168 d Q 132 [oR 11 0, oI l1, oI l2, oI l3, oI l4, oI l5, oI l6, oI v2] [aI v7] (sh_E h8)
      exact ai_WP_steps mc_168 (sh_CM d) 1 (hR v7 h8 H)
def f_CB_change (N : Nat)  (l1 : Int32) (l2 : Int32) (l3 : Int32) (l4 : Int32) (h : sh_H) : Option (Int32 × sh_H) := (Option.bind (f_Text_isKind h.2.2.1 (l4 - (10 : Int32)) h) (fun v9 => (Option.bind (f_Text_isKind h.2.2.1 (l4 - (20 : Int32)) h) (fun v10 => (Option.bind (f_Text_isPlace h.2.2.1 l1 h) (fun v11 => (if v11 = 0 then (some ((-1 : Int32), h)) else (Option.bind (f_CB_isSum l2 h) (fun v12 => (if v12 = 0 then (some ((-1 : Int32), h)) else (Option.bind (f_CB_within l3 (0 : Int32) (9 : Int32) h) (fun v13 => (if v13 = 0 then (some ((-1 : Int32), h)) else (if l4 = 0 then f_CB_change_b73 N l1 l2 l3 l4 v9 v10 h else (if v9 = 0 then (if v10 = 0 then (some ((-1 : Int32), h)) else f_CB_change_b73 N l1 l2 l3 l4 v9 v10 h) else f_CB_change_b73 N l1 l2 l3 l4 v9 v10 h)))))))))))))))
theorem x_CB_change (N : Nat) {d : Nat} (hd : 6 ≤ d) (l1 : Int32) (l2 : Int32) (l3 : Int32) (l4 : Int32) (h : sh_H) {Q : ai_Q} {R : Int32 × sh_H → Prop} (H : sh_ok (f_CB_change N l1 l2 l3 l4 h) R) (hR : ∀ r h, R (r, h) → Q (some (aI r)) (sh_E h)) : ai_Ex sh_T d 168 [aR 11 0, aI l1, aI l2, aI l3, aI l4] (sh_E h) Q := by
  obtain ⟨d, rfl⟩ : ∃ e, d = e + 1 := ⟨d - 1, by omega⟩
  replace hd : 5 ≤ d := by omega
  refine And.intro (Nat.le_of_ble_eq_true rfl) ?_
  show wq_168 d Q 0 [oR 11 0, oI l1, oI l2, oI l3, oI l4, none, none, none] [] (sh_E h)
  refine ai_WP_steps mc_168 (sh_CM d) 6 (And.intro (Nat.le_of_ble_eq_true rfl) (x_Text_isKind (Nat.le_trans (Nat.le_of_ble_eq_true rfl) hd) h.2.2.1 (l4 - (10 : Int32)) h (sh_okB H) (fun v9 H => ?_)))
  show wq_168 d Q 12 [oR 11 0, oI l1, oI l2, oI l3, oI l4, _, _, _] [aI v9] (sh_E h)
  refine ai_WP_steps mc_168 (sh_CM d) 7 (And.intro (Nat.le_of_ble_eq_true rfl) (x_Text_isKind (Nat.le_trans (Nat.le_of_ble_eq_true rfl) hd) h.2.2.1 (l4 - (20 : Int32)) h (sh_okB H) (fun v10 H => ?_)))
  show wq_168 d Q 26 [oR 11 0, oI l1, oI l2, oI l3, oI l4, oI v9, _, _] [aI v10] (sh_E h)
  refine ai_WP_steps mc_168 (sh_CM d) 5 (And.intro (Nat.le_of_ble_eq_true rfl) (x_Text_isPlace (Nat.le_trans (Nat.le_of_ble_eq_true rfl) hd) h.2.2.1 l1 h (sh_okB H) (fun v11 H => ?_)))
  show wq_168 d Q 36 [oR 11 0, oI l1, oI l2, oI l3, oI l4, oI v9, oI v10, _] [aI v11] (sh_E h)
  refine ai_WP_steps mc_168 (sh_CM d) 1 (And.intro (fun c => ?_) (fun c => ?_))
  · replace H := sh_okT c H
    show wq_168 d Q 71 [oR 11 0, oI l1, oI l2, oI l3, oI l4, oI v9, oI v10, _] [] (sh_E h)
    exact ai_WP_steps mc_168 (sh_CM d) 2 (hR (-1 : Int32) h H)
  · replace H := sh_okF c H
    show wq_168 d Q 39 [oR 11 0, oI l1, oI l2, oI l3, oI l4, oI v9, oI v10, _] [] (sh_E h)
    refine ai_WP_steps mc_168 (sh_CM d) 2 (And.intro (Nat.le_of_ble_eq_true rfl) (x_CB_isSum (Nat.le_trans (Nat.le_of_ble_eq_true rfl) hd) l2 h (sh_okB H) (fun v12 H => ?_)))
    show wq_168 d Q 43 [oR 11 0, oI l1, oI l2, oI l3, oI l4, oI v9, oI v10, _] [aI v12] (sh_E h)
    refine ai_WP_steps mc_168 (sh_CM d) 1 (And.intro (fun c => ?_) (fun c => ?_))
    · replace H := sh_okT c H
      show wq_168 d Q 71 [oR 11 0, oI l1, oI l2, oI l3, oI l4, oI v9, oI v10, _] [] (sh_E h)
      exact ai_WP_steps mc_168 (sh_CM d) 2 (hR (-1 : Int32) h H)
    · replace H := sh_okF c H
      show wq_168 d Q 46 [oR 11 0, oI l1, oI l2, oI l3, oI l4, oI v9, oI v10, _] [] (sh_E h)
      refine ai_WP_steps mc_168 (sh_CM d) 4 (And.intro (Nat.le_of_ble_eq_true rfl) (x_CB_within (Nat.le_trans (Nat.le_of_ble_eq_true rfl) hd) l3 (0 : Int32) (9 : Int32) h (sh_okB H) (fun v13 H => ?_)))
      show wq_168 d Q 53 [oR 11 0, oI l1, oI l2, oI l3, oI l4, oI v9, oI v10, _] [aI v13] (sh_E h)
      refine ai_WP_steps mc_168 (sh_CM d) 1 (And.intro (fun c => ?_) (fun c => ?_))
      · replace H := sh_okT c H
        show wq_168 d Q 71 [oR 11 0, oI l1, oI l2, oI l3, oI l4, oI v9, oI v10, _] [] (sh_E h)
        exact ai_WP_steps mc_168 (sh_CM d) 2 (hR (-1 : Int32) h H)
      · replace H := sh_okF c H
        show wq_168 d Q 56 [oR 11 0, oI l1, oI l2, oI l3, oI l4, oI v9, oI v10, _] [] (sh_E h)
        refine ai_WP_steps mc_168 (sh_CM d) 2 (And.intro (fun c => ?_) (fun c => ?_))
        · replace H := sh_okT c H
          exact x_CB_change_b73 N hd hR l1 l2 l3 l4 v9 v10 h H
        · replace H := sh_okF c H
          show wq_168 d Q 61 [oR 11 0, oI l1, oI l2, oI l3, oI l4, oI v9, oI v10, _] [] (sh_E h)
          refine ai_WP_steps mc_168 (sh_CM d) 2 (And.intro (fun c => ?_) (fun c => ?_))
          · replace H := sh_okT c H
            show wq_168 d Q 66 [oR 11 0, oI l1, oI l2, oI l3, oI l4, oI v9, oI v10, _] [] (sh_E h)
            refine ai_WP_steps mc_168 (sh_CM d) 2 (And.intro (fun c => ?_) (fun c => ?_))
            · replace H := sh_okT c H
              show wq_168 d Q 71 [oR 11 0, oI l1, oI l2, oI l3, oI l4, oI v9, oI v10, _] [] (sh_E h)
              exact ai_WP_steps mc_168 (sh_CM d) 2 (hR (-1 : Int32) h H)
            · replace H := sh_okF c H
              exact x_CB_change_b73 N hd hR l1 l2 l3 l4 v9 v10 h H
          · replace H := sh_okF c H
            exact x_CB_change_b73 N hd hR l1 l2 l3 l4 v9 v10 h H
def f_CB_which (N : Nat)  (l1 : Int32) (l2 : Int32) (h : sh_H) : Option (Int32 × sh_H) := (Option.bind (f_CB_within l1 (1 : Int32) (400 : Int32) h) (fun v1 => (if v1 = 0 then (some ((-1 : Int32), h)) else (Option.bind (f_CB_within l2 (0 : Int32) (99 : Int32) h) (fun v2 => (if v2 = 0 then (some ((-1 : Int32), h)) else (Option.bind (f_Coins_look N h.2.2.1 0 (0 : Int32) (0 : Int32) h) (fun h3 => (sh_b2 (f_Coins_bestSet N l1 l2 h3) (fun v4 h5 => (some (v4, h5))))))))))))
theorem x_CB_which (N : Nat) {d : Nat} (hd : 6 ≤ d) (l1 : Int32) (l2 : Int32) (h : sh_H) {Q : ai_Q} {R : Int32 × sh_H → Prop} (H : sh_ok (f_CB_which N l1 l2 h) R) (hR : ∀ r h, R (r, h) → Q (some (aI r)) (sh_E h)) : ai_Ex sh_T d 169 [aR 11 0, aI l1, aI l2] (sh_E h) Q := by
  obtain ⟨d, rfl⟩ : ∃ e, d = e + 1 := ⟨d - 1, by omega⟩
  replace hd : 5 ≤ d := by omega
  refine And.intro (Nat.le_of_ble_eq_true rfl) ?_
  show wq_169 d Q 0 [oR 11 0, oI l1, oI l2] [] (sh_E h)
  refine ai_WP_steps mc_169 (sh_CM d) 4 (And.intro (Nat.le_of_ble_eq_true rfl) (x_CB_within (Nat.le_trans (Nat.le_of_ble_eq_true rfl) hd) l1 (1 : Int32) (400 : Int32) h (sh_okB H) (fun v1 H => ?_)))
  show wq_169 d Q 8 [oR 11 0, oI l1, oI l2] [aI v1] (sh_E h)
  refine ai_WP_steps mc_169 (sh_CM d) 1 (And.intro (fun c => ?_) (fun c => ?_))
  · replace H := sh_okT c H
    show wq_169 d Q 21 [oR 11 0, oI l1, oI l2] [] (sh_E h)
    exact ai_WP_steps mc_169 (sh_CM d) 2 (hR (-1 : Int32) h H)
  · replace H := sh_okF c H
    show wq_169 d Q 11 [oR 11 0, oI l1, oI l2] [] (sh_E h)
    refine ai_WP_steps mc_169 (sh_CM d) 4 (And.intro (Nat.le_of_ble_eq_true rfl) (x_CB_within (Nat.le_trans (Nat.le_of_ble_eq_true rfl) hd) l2 (0 : Int32) (99 : Int32) h (sh_okB H) (fun v2 H => ?_)))
    show wq_169 d Q 18 [oR 11 0, oI l1, oI l2] [aI v2] (sh_E h)
    refine ai_WP_steps mc_169 (sh_CM d) 1 (And.intro (fun c => ?_) (fun c => ?_))
    · replace H := sh_okT c H
      show wq_169 d Q 21 [oR 11 0, oI l1, oI l2] [] (sh_E h)
      exact ai_WP_steps mc_169 (sh_CM d) 2 (hR (-1 : Int32) h H)
    · replace H := sh_okF c H
      show wq_169 d Q 23 [oR 11 0, oI l1, oI l2] [] (sh_E h)
      refine ai_WP_steps mc_169 (sh_CM d) 10 (And.intro (Nat.le_of_ble_eq_true rfl) (x_Coins_look N (Nat.le_trans (Nat.le_of_ble_eq_true rfl) hd) h.2.2.1 0 (0 : Int32) (0 : Int32) h (sh_okB H) (fun h3 H => ?_)))
      show wq_169 d Q 43 [oR 11 0, oI l1, oI l2] [] (sh_E h3)
      refine ai_WP_steps mc_169 (sh_CM d) 5 (And.intro (Nat.le_of_ble_eq_true rfl) (x_Coins_bestSet N (Nat.le_trans (Nat.le_of_ble_eq_true rfl) hd) l1 l2 h3 (sh_okB H) (fun v4 h5 H => ?_)))
      show wq_169 d Q 52 [oR 11 0, oI l1, oI l2] [aI v4] (sh_E h5)
      exact ai_WP_steps mc_169 (sh_CM d) 1 (hR v4 h5 H)
def f_CB_whichSum (N : Nat)  (l1 : Int32) (l2 : Int32) (h : sh_H) : Option (Int32 × sh_H) := (sh_b2 (f_CB_which N l1 l2 h) (fun v1 h2 => (if v1 < 0 then (some (v1, h2)) else (sh_b2 (f_Coins_sumOf N v1 l1 l2 h2) (fun v3 h4 => (some (v3, h4)))))))
theorem x_CB_whichSum (N : Nat) {d : Nat} (hd : 7 ≤ d) (l1 : Int32) (l2 : Int32) (h : sh_H) {Q : ai_Q} {R : Int32 × sh_H → Prop} (H : sh_ok (f_CB_whichSum N l1 l2 h) R) (hR : ∀ r h, R (r, h) → Q (some (aI r)) (sh_E h)) : ai_Ex sh_T d 170 [aR 11 0, aI l1, aI l2] (sh_E h) Q := by
  obtain ⟨d, rfl⟩ : ∃ e, d = e + 1 := ⟨d - 1, by omega⟩
  replace hd : 6 ≤ d := by omega
  refine And.intro (Nat.le_of_ble_eq_true rfl) ?_
  show wq_170 d Q 0 [oR 11 0, oI l1, oI l2, none] [] (sh_E h)
  refine ai_WP_steps mc_170 (sh_CM d) 4 (And.intro (Nat.le_of_ble_eq_true rfl) (x_CB_which N (Nat.le_trans (Nat.le_of_ble_eq_true rfl) hd) l1 l2 h (sh_okB H) (fun v1 h2 H => ?_)))
  show wq_170 d Q 6 [oR 11 0, oI l1, oI l2, _] [aI v1] (sh_E h2)
  refine ai_WP_steps mc_170 (sh_CM d) 3 (And.intro (fun c => ?_) (fun c => ?_))
  · replace H := sh_okT c H
    show wq_170 d Q 11 [oR 11 0, oI l1, oI l2, oI v1] [] (sh_E h2)
    exact ai_WP_steps mc_170 (sh_CM d) 3 (hR v1 h2 H)
  · replace H := sh_okF c H
    show wq_170 d Q 15 [oR 11 0, oI l1, oI l2, oI v1] [] (sh_E h2)
    refine ai_WP_steps mc_170 (sh_CM d) 6 (And.intro (Nat.le_of_ble_eq_true rfl) (x_Coins_sumOf N (Nat.le_trans (Nat.le_of_ble_eq_true rfl) hd) v1 l1 l2 h2 (sh_okB H) (fun v3 h4 H => ?_)))
    show wq_170 d Q 25 [oR 11 0, oI l1, oI l2, oI v1] [aI v3] (sh_E h4)
    exact ai_WP_steps mc_170 (sh_CM d) 1 (hR v3 h4 H)
def f_CB_isPlan_b41    (h : sh_H) : Option Int32 := (some (ai_nar 1 (0 : Int32)))
theorem x_CB_isPlan_b41 {d : Nat} (hd : 3 ≤ d) (h : sh_H) {Q : ai_Q} {R : Int32 → Prop} (hR : ∀ r, R r → Q (some (aI r)) (sh_E h))    {d0 d1 d2 d3 d4 d5 : Option ai_V} (H : sh_ok (f_CB_isPlan_b41 h) R) : wq_198 d Q 41 [d0, d1, d2, d3, d4, d5] [] (sh_E h) := by
  exact ai_WP_steps mc_198 (sh_CM d) 2 (hR (ai_nar 1 (0 : Int32)) H)
def f_CB_isPlan  (l1 : Int32) (l2 : Int32) (l3 : Int32) (l4 : Int32) (l5 : Int32) (h : sh_H) : Option Int32 := (Option.bind (f_CB_isOf l1 l2 h) (fun v1 => (if v1 = 0 then f_CB_isPlan_b41 h else (Option.bind (f_CB_isMonth l3 h) (fun v2 => (if v2 = 0 then f_CB_isPlan_b41 h else (Option.bind (f_CB_within l4 (1 : Int32) (12 : Int32) h) (fun v3 => (if v3 = 0 then f_CB_isPlan_b41 h else (Option.bind (f_CB_within l5 (0 : Int32) (3 : Int32) h) (fun v4 => (if v4 = 0 then f_CB_isPlan_b41 h else (some (ai_nar 1 (1 : Int32)))))))))))))))
theorem x_CB_isPlan {d : Nat} (hd : 4 ≤ d) (l1 : Int32) (l2 : Int32) (l3 : Int32) (l4 : Int32) (l5 : Int32) (h : sh_H) {Q : ai_Q} {R : Int32 → Prop} (H : sh_ok (f_CB_isPlan l1 l2 l3 l4 l5 h) R) (hR : ∀ r, R r → Q (some (aI r)) (sh_E h)) : ai_Ex sh_T d 198 [aR 11 0, aI l1, aI l2, aI l3, aI l4, aI l5] (sh_E h) Q := by
  obtain ⟨d, rfl⟩ : ∃ e, d = e + 1 := ⟨d - 1, by omega⟩
  replace hd : 3 ≤ d := by omega
  refine And.intro (Nat.le_of_ble_eq_true rfl) ?_
  show wq_198 d Q 0 [oR 11 0, oI l1, oI l2, oI l3, oI l4, oI l5] [] (sh_E h)
  refine ai_WP_steps mc_198 (sh_CM d) 4 (And.intro (Nat.le_of_ble_eq_true rfl) (x_CB_isOf (Nat.le_trans (Nat.le_of_ble_eq_true rfl) hd) l1 l2 h (sh_okB H) (fun v1 H => ?_)))
  show wq_198 d Q 6 [oR 11 0, oI l1, oI l2, oI l3, oI l4, oI l5] [aI v1] (sh_E h)
  refine ai_WP_steps mc_198 (sh_CM d) 1 (And.intro (fun c => ?_) (fun c => ?_))
  · replace H := sh_okT c H
    exact x_CB_isPlan_b41 hd h hR H
  · replace H := sh_okF c H
    show wq_198 d Q 9 [oR 11 0, oI l1, oI l2, oI l3, oI l4, oI l5] [] (sh_E h)
    refine ai_WP_steps mc_198 (sh_CM d) 2 (And.intro (Nat.le_of_ble_eq_true rfl) (x_CB_isMonth (Nat.le_trans (Nat.le_of_ble_eq_true rfl) hd) l3 h (sh_okB H) (fun v2 H => ?_)))
    show wq_198 d Q 13 [oR 11 0, oI l1, oI l2, oI l3, oI l4, oI l5] [aI v2] (sh_E h)
    refine ai_WP_steps mc_198 (sh_CM d) 1 (And.intro (fun c => ?_) (fun c => ?_))
    · replace H := sh_okT c H
      exact x_CB_isPlan_b41 hd h hR H
    · replace H := sh_okF c H
      show wq_198 d Q 16 [oR 11 0, oI l1, oI l2, oI l3, oI l4, oI l5] [] (sh_E h)
      refine ai_WP_steps mc_198 (sh_CM d) 4 (And.intro (Nat.le_of_ble_eq_true rfl) (x_CB_within (Nat.le_trans (Nat.le_of_ble_eq_true rfl) hd) l4 (1 : Int32) (12 : Int32) h (sh_okB H) (fun v3 H => ?_)))
      show wq_198 d Q 24 [oR 11 0, oI l1, oI l2, oI l3, oI l4, oI l5] [aI v3] (sh_E h)
      refine ai_WP_steps mc_198 (sh_CM d) 1 (And.intro (fun c => ?_) (fun c => ?_))
      · replace H := sh_okT c H
        exact x_CB_isPlan_b41 hd h hR H
      · replace H := sh_okF c H
        show wq_198 d Q 27 [oR 11 0, oI l1, oI l2, oI l3, oI l4, oI l5] [] (sh_E h)
        refine ai_WP_steps mc_198 (sh_CM d) 4 (And.intro (Nat.le_of_ble_eq_true rfl) (x_CB_within (Nat.le_trans (Nat.le_of_ble_eq_true rfl) hd) l5 (0 : Int32) (3 : Int32) h (sh_okB H) (fun v4 H => ?_)))
        show wq_198 d Q 34 [oR 11 0, oI l1, oI l2, oI l3, oI l4, oI l5] [aI v4] (sh_E h)
        refine ai_WP_steps mc_198 (sh_CM d) 1 (And.intro (fun c => ?_) (fun c => ?_))
        · replace H := sh_okT c H
          exact x_CB_isPlan_b41 hd h hR H
        · replace H := sh_okF c H
          show wq_198 d Q 37 [oR 11 0, oI l1, oI l2, oI l3, oI l4, oI l5] [] (sh_E h)
          exact ai_WP_steps mc_198 (sh_CM d) 3 (hR (ai_nar 1 (1 : Int32)) H)
