/-! shallow functions, written by program -/
def f_M_row  (l1 : Int32) (l2 : Int32) (l3 : Int32) (l4 : Int32) (h : sh_H) : Option (Int32 × sh_H) := (if ai_in (8 : Int32) 8000 then (if (h.1 13 46 (8 : Int32).toNatClampNeg) = (60 : Int32) then (some ((-1 : Int32), h)) else (if ai_in (8 : Int32) 8000 then (if ai_in ((550 : Int32) + ((4 : Int32) * (h.1 13 46 (8 : Int32).toNatClampNeg))) 8000 then (sh_let (sh_pI h 13 46 ((550 : Int32) + ((4 : Int32) * (h.1 13 46 (8 : Int32).toNatClampNeg))).toNatClampNeg l1) (fun h1 => (if ai_in (((550 : Int32) + ((4 : Int32) * (h.1 13 46 (8 : Int32).toNatClampNeg))) + (1 : Int32)) 8000 then (sh_let (sh_pI h1 13 46 (((550 : Int32) + ((4 : Int32) * (h.1 13 46 (8 : Int32).toNatClampNeg))) + (1 : Int32)).toNatClampNeg l2) (fun h2 => (if ai_in (((550 : Int32) + ((4 : Int32) * (h.1 13 46 (8 : Int32).toNatClampNeg))) + (2 : Int32)) 8000 then (sh_let (sh_pI h2 13 46 (((550 : Int32) + ((4 : Int32) * (h.1 13 46 (8 : Int32).toNatClampNeg))) + (2 : Int32)).toNatClampNeg l3) (fun h3 => (if ai_in (((550 : Int32) + ((4 : Int32) * (h.1 13 46 (8 : Int32).toNatClampNeg))) + (3 : Int32)) 8000 then (sh_let (sh_pI h3 13 46 (((550 : Int32) + ((4 : Int32) * (h.1 13 46 (8 : Int32).toNatClampNeg))) + (3 : Int32)).toNatClampNeg l4) (fun h4 => (if ai_in (8 : Int32) 8000 then (if ai_in (8 : Int32) 8000 then (sh_let (sh_pI h4 13 46 (8 : Int32).toNatClampNeg ((h4.1 13 46 (8 : Int32).toNatClampNeg) + (1 : Int32))) (fun h5 => (if ai_in (8 : Int32) 8000 then (some (((h5.1 13 46 (8 : Int32).toNatClampNeg) - (1 : Int32)), h5)) else none))) else none) else none))) else none))) else none))) else none))) else none) else none)) else none)
theorem x_M_row {d : Nat} (hd : 1 ≤ d) (l1 : Int32) (l2 : Int32) (l3 : Int32) (l4 : Int32) (h : sh_H) {Q : ai_Q} {R : Int32 × sh_H → Prop} (H : sh_ok (f_M_row l1 l2 l3 l4 h) R) (hR : ∀ r h, R (r, h) → Q (some (aI r)) (sh_E h)) : ai_Ex sh_T d 316 [aR 12 0, aI l1, aI l2, aI l3, aI l4] (sh_E h) Q := by
  obtain ⟨d, rfl⟩ : ∃ e, d = e + 1 := ⟨d - 1, by omega⟩
  replace hd : 0 ≤ d := by omega
  refine And.intro (Nat.le_of_ble_eq_true rfl) ?_
  show wq_316 d Q 0 [oR 12 0, oI l1, oI l2, oI l3, oI l4, none] [] (sh_E h)
  have c := sh_okG H
  replace H := sh_okH H
  refine ai_WP_steps mc_316 (sh_CM d) 4 (And.intro c ?_)
  show wq_316 d Q 7 [oR 12 0, oI l1, oI l2, oI l3, oI l4, _] [aI (h.1 13 46 (8 : Int32).toNatClampNeg)] (sh_E h)
  refine ai_WP_steps mc_316 (sh_CM d) 2 (And.intro (fun c => ?_) (fun c => ?_))
  · replace H := sh_okT c H
    show wq_316 d Q 12 [oR 12 0, oI l1, oI l2, oI l3, oI l4, _] [] (sh_E h)
    exact ai_WP_steps mc_316 (sh_CM d) 2 (hR (-1 : Int32) h H)
  · replace H := sh_okF c H
    show wq_316 d Q 14 [oR 12 0, oI l1, oI l2, oI l3, oI l4, _] [] (sh_E h)
    have c := sh_okG H
    replace H := sh_okH H
    refine ai_WP_steps mc_316 (sh_CM d) 6 (And.intro c ?_)
    show wq_316 d Q 25 [oR 12 0, oI l1, oI l2, oI l3, oI l4, _] [aI (h.1 13 46 (8 : Int32).toNatClampNeg), aI (4 : Int32), aI (550 : Int32)] (sh_E h)
    have c := sh_okG H
    replace H := sh_okH H
    refine ai_WP_steps mc_316 (sh_CM d) 8 (And.intro c ?_)
    show wq_316 d Q 37 [oR 12 0, oI l1, oI l2, oI l3, oI l4, oI ((550 : Int32) + ((4 : Int32) * (h.1 13 46 (8 : Int32).toNatClampNeg)))] [] (sh_E (sh_pI h 13 46 ((550 : Int32) + ((4 : Int32) * (h.1 13 46 (8 : Int32).toNatClampNeg))).toNatClampNeg l1))
    replace H := sh_okL H
    generalize sh_pI h 13 46 ((550 : Int32) + ((4 : Int32) * (h.1 13 46 (8 : Int32).toNatClampNeg))).toNatClampNeg l1 = h1 at H ⊢
    have c := sh_okG H
    replace H := sh_okH H
    refine ai_WP_steps mc_316 (sh_CM d) 7 (And.intro c ?_)
    show wq_316 d Q 47 [oR 12 0, oI l1, oI l2, oI l3, oI l4, oI ((550 : Int32) + ((4 : Int32) * (h.1 13 46 (8 : Int32).toNatClampNeg)))] [] (sh_E (sh_pI h1 13 46 (((550 : Int32) + ((4 : Int32) * (h.1 13 46 (8 : Int32).toNatClampNeg))) + (1 : Int32)).toNatClampNeg l2))
    replace H := sh_okL H
    generalize sh_pI h1 13 46 (((550 : Int32) + ((4 : Int32) * (h.1 13 46 (8 : Int32).toNatClampNeg))) + (1 : Int32)).toNatClampNeg l2 = h2 at H ⊢
    have c := sh_okG H
    replace H := sh_okH H
    refine ai_WP_steps mc_316 (sh_CM d) 7 (And.intro c ?_)
    show wq_316 d Q 57 [oR 12 0, oI l1, oI l2, oI l3, oI l4, oI ((550 : Int32) + ((4 : Int32) * (h.1 13 46 (8 : Int32).toNatClampNeg)))] [] (sh_E (sh_pI h2 13 46 (((550 : Int32) + ((4 : Int32) * (h.1 13 46 (8 : Int32).toNatClampNeg))) + (2 : Int32)).toNatClampNeg l3))
    replace H := sh_okL H
    generalize sh_pI h2 13 46 (((550 : Int32) + ((4 : Int32) * (h.1 13 46 (8 : Int32).toNatClampNeg))) + (2 : Int32)).toNatClampNeg l3 = h3 at H ⊢
    have c := sh_okG H
    replace H := sh_okH H
    refine ai_WP_steps mc_316 (sh_CM d) 7 (And.intro c ?_)
    show wq_316 d Q 68 [oR 12 0, oI l1, oI l2, oI l3, oI l4, oI ((550 : Int32) + ((4 : Int32) * (h.1 13 46 (8 : Int32).toNatClampNeg)))] [] (sh_E (sh_pI h3 13 46 (((550 : Int32) + ((4 : Int32) * (h.1 13 46 (8 : Int32).toNatClampNeg))) + (3 : Int32)).toNatClampNeg l4))
    replace H := sh_okL H
    generalize sh_pI h3 13 46 (((550 : Int32) + ((4 : Int32) * (h.1 13 46 (8 : Int32).toNatClampNeg))) + (3 : Int32)).toNatClampNeg l4 = h4 at H ⊢
    have c := sh_okG H
    replace H := sh_okH H
    refine ai_WP_steps mc_316 (sh_CM d) 5 (And.intro c ?_)
    show wq_316 d Q 76 [oR 12 0, oI l1, oI l2, oI l3, oI l4, oI ((550 : Int32) + ((4 : Int32) * (h.1 13 46 (8 : Int32).toNatClampNeg)))] [aI (h4.1 13 46 (8 : Int32).toNatClampNeg), aI (8 : Int32), aR 13 46] (sh_E h4)
    have c := sh_okG H
    replace H := sh_okH H
    refine ai_WP_steps mc_316 (sh_CM d) 3 (And.intro c ?_)
    show wq_316 d Q 79 [oR 12 0, oI l1, oI l2, oI l3, oI l4, oI ((550 : Int32) + ((4 : Int32) * (h.1 13 46 (8 : Int32).toNatClampNeg)))] [] (sh_E (sh_pI h4 13 46 (8 : Int32).toNatClampNeg ((h4.1 13 46 (8 : Int32).toNatClampNeg) + (1 : Int32))))
    replace H := sh_okL H
    generalize sh_pI h4 13 46 (8 : Int32).toNatClampNeg ((h4.1 13 46 (8 : Int32).toNatClampNeg) + (1 : Int32)) = h5 at H ⊢
    have c := sh_okG H
    replace H := sh_okH H
    refine ai_WP_steps mc_316 (sh_CM d) 4 (And.intro c ?_)
    show wq_316 d Q 86 [oR 12 0, oI l1, oI l2, oI l3, oI l4, oI ((550 : Int32) + ((4 : Int32) * (h.1 13 46 (8 : Int32).toNatClampNeg)))] [aI (h5.1 13 46 (8 : Int32).toNatClampNeg)] (sh_E h5)
    exact ai_WP_steps mc_316 (sh_CM d) 3 (hR ((h5.1 13 46 (8 : Int32).toNatClampNeg) - (1 : Int32)) h5 H)
def f_M_book_b38   (l1 : Int32) (l2 : Int32) (l3 : Int32) (s1 : Int32) (h : sh_H) : Option (Int32 × sh_H) := (sh_b2 (f_M_row s1 l1 l2 l3 h) (fun v1 h2 => (some (v1, h2))))
theorem x_M_book_b38 {d : Nat} (hd : 1 ≤ d) {Q : ai_Q} {R : Int32 × sh_H → Prop} (hR : ∀ r h, R (r, h) → Q (some (aI r)) (sh_E h))   (l1 : Int32) (l2 : Int32) (l3 : Int32) (s1 : Int32) {d0 d4 : Option ai_V} (h : sh_H) (H : sh_ok (f_M_book_b38 l1 l2 l3 s1 h) R) : wq_317 d Q 38 [d0, oI l1, oI l2, oI l3, d4] [aI s1, aR 12 0] (sh_E h) := by
  refine ai_WP_steps mc_317 (sh_CM d) 4 (And.intro (Nat.le_of_ble_eq_true rfl) (x_M_row (Nat.le_trans (Nat.le_of_ble_eq_true rfl) hd) s1 l1 l2 l3 h (sh_okB H) (fun v1 h2 H => ?_)))
  show wq_317 d Q 44 [_, oI l1, oI l2, oI l3, _] [aI v1] (sh_E h2)
  exact ai_WP_steps mc_317 (sh_CM d) 2 (hR v1 h2 H)
def f_M_book_b47    (h : sh_H) : Option (Int32 × sh_H) := (some ((-1 : Int32), h))
theorem x_M_book_b47 {d : Nat} (hd : 1 ≤ d) {Q : ai_Q} {R : Int32 × sh_H → Prop} (hR : ∀ r h, R (r, h) → Q (some (aI r)) (sh_E h))    {d0 d1 d2 d3 d4 : Option ai_V} (h : sh_H) (H : sh_ok (f_M_book_b47 h) R) : wq_317 d Q 47 [d0, d1, d2, d3, d4] [] (sh_E h) := by
  exact ai_WP_steps mc_317 (sh_CM d) 2 (hR (-1 : Int32) h H)
def f_M_book  (l1 : Int32) (l2 : Int32) (l3 : Int32) (l4 : Int32) (h : sh_H) : Option (Int32 × sh_H) := (Option.bind (f_M_isIsland l1 h) (fun v3 => (if v3 = 0 then f_M_book_b47 h else (Option.bind (f_M_isKind l2 h) (fun v4 => (if v4 = 0 then f_M_book_b47 h else (Option.bind (f_M_isIn l3 (0 : Int32) (9999 : Int32) h) (fun v5 => (if v5 = 0 then f_M_book_b47 h else (if l4 = 0 then f_M_book_b38 l1 l2 l3 (1 : Int32) h else f_M_book_b38 l1 l2 l3 (0 : Int32) h))))))))))
theorem x_M_book {d : Nat} (hd : 2 ≤ d) (l1 : Int32) (l2 : Int32) (l3 : Int32) (l4 : Int32) (h : sh_H) {Q : ai_Q} {R : Int32 × sh_H → Prop} (H : sh_ok (f_M_book l1 l2 l3 l4 h) R) (hR : ∀ r h, R (r, h) → Q (some (aI r)) (sh_E h)) : ai_Ex sh_T d 317 [aR 12 0, aI l1, aI l2, aI l3, aI l4] (sh_E h) Q := by
  obtain ⟨d, rfl⟩ : ∃ e, d = e + 1 := ⟨d - 1, by omega⟩
  replace hd : 1 ≤ d := by omega
  refine And.intro (Nat.le_of_ble_eq_true rfl) ?_
  show wq_317 d Q 0 [oR 12 0, oI l1, oI l2, oI l3, oI l4] [] (sh_E h)
  refine ai_WP_steps mc_317 (sh_CM d) 3 (And.intro (Nat.le_of_ble_eq_true rfl) (x_M_isIsland (Nat.le_trans (Nat.le_of_ble_eq_true rfl) hd) l1 h (sh_okB H) (fun v3 H => ?_)))
  show wq_317 d Q 5 [oR 12 0, oI l1, oI l2, oI l3, oI l4] [aI v3] (sh_E h)
  refine ai_WP_steps mc_317 (sh_CM d) 1 (And.intro (fun c => ?_) (fun c => ?_))
  · replace H := sh_okT c H
    exact x_M_book_b47 hd hR h H
  · replace H := sh_okF c H
    show wq_317 d Q 8 [oR 12 0, oI l1, oI l2, oI l3, oI l4] [] (sh_E h)
    refine ai_WP_steps mc_317 (sh_CM d) 3 (And.intro (Nat.le_of_ble_eq_true rfl) (x_M_isKind (Nat.le_trans (Nat.le_of_ble_eq_true rfl) hd) l2 h (sh_okB H) (fun v4 H => ?_)))
    show wq_317 d Q 13 [oR 12 0, oI l1, oI l2, oI l3, oI l4] [aI v4] (sh_E h)
    refine ai_WP_steps mc_317 (sh_CM d) 1 (And.intro (fun c => ?_) (fun c => ?_))
    · replace H := sh_okT c H
      exact x_M_book_b47 hd hR h H
    · replace H := sh_okF c H
      show wq_317 d Q 16 [oR 12 0, oI l1, oI l2, oI l3, oI l4] [] (sh_E h)
      refine ai_WP_steps mc_317 (sh_CM d) 4 (And.intro (Nat.le_of_ble_eq_true rfl) (x_M_isIn (Nat.le_trans (Nat.le_of_ble_eq_true rfl) hd) l3 (0 : Int32) (9999 : Int32) h (sh_okB H) (fun v5 H => ?_)))
      show wq_317 d Q 24 [oR 12 0, oI l1, oI l2, oI l3, oI l4] [aI v5] (sh_E h)
      refine ai_WP_steps mc_317 (sh_CM d) 1 (And.intro (fun c => ?_) (fun c => ?_))
      · replace H := sh_okT c H
        exact x_M_book_b47 hd hR h H
      · replace H := sh_okF c H
        show wq_317 d Q 27 [oR 12 0, oI l1, oI l2, oI l3, oI l4] [] (sh_E h)
        refine ai_WP_steps mc_317 (sh_CM d) 3 (And.intro (fun c => ?_) (fun c => ?_))
        · replace H := sh_okT c H
          show wq_317 d Q 37 [oR 12 0, oI l1, oI l2, oI l3, oI l4] [aR 12 0] (sh_E h)
          refine ai_WP_steps mc_317 (sh_CM d) 1 ?_
          exact x_M_book_b38 hd hR l1 l2 l3 (1 : Int32) h H
        · replace H := sh_okF c H
          show wq_317 d Q 33 [oR 12 0, oI l1, oI l2, oI l3, oI l4] [aR 12 0] (sh_E h)
          refine ai_WP_steps mc_317 (sh_CM d) 2 ?_
          exact x_M_book_b38 hd hR l1 l2 l3 (0 : Int32) h H
def f_M_looked_b38    (h : sh_H) : Option (Int32 × sh_H) := (some ((-1 : Int32), h))
theorem x_M_looked_b38 {d : Nat} (hd : 1 ≤ d) {Q : ai_Q} {R : Int32 × sh_H → Prop} (hR : ∀ r h, R (r, h) → Q (some (aI r)) (sh_E h))    {d0 d1 d2 d3 : Option ai_V} (h : sh_H) (H : sh_ok (f_M_looked_b38 h) R) : wq_318 d Q 38 [d0, d1, d2, d3] [] (sh_E h) := by
  exact ai_WP_steps mc_318 (sh_CM d) 2 (hR (-1 : Int32) h H)
def f_M_looked  (l1 : Int32) (l2 : Int32) (l3 : Int32) (h : sh_H) : Option (Int32 × sh_H) := (Option.bind (f_M_isIsland l1 h) (fun v1 => (if v1 = 0 then f_M_looked_b38 h else (Option.bind (f_M_isIn l2 (0 : Int32) (60 : Int32) h) (fun v2 => (if v2 = 0 then f_M_looked_b38 h else (Option.bind (f_M_isIn l3 (0 : Int32) l2 h) (fun v3 => (if v3 = 0 then f_M_looked_b38 h else (sh_b2 (f_M_row (2 : Int32) l1 l2 l3 h) (fun v4 h5 => (some (v4, h5)))))))))))))
theorem x_M_looked {d : Nat} (hd : 2 ≤ d) (l1 : Int32) (l2 : Int32) (l3 : Int32) (h : sh_H) {Q : ai_Q} {R : Int32 × sh_H → Prop} (H : sh_ok (f_M_looked l1 l2 l3 h) R) (hR : ∀ r h, R (r, h) → Q (some (aI r)) (sh_E h)) : ai_Ex sh_T d 318 [aR 12 0, aI l1, aI l2, aI l3] (sh_E h) Q := by
  obtain ⟨d, rfl⟩ : ∃ e, d = e + 1 := ⟨d - 1, by omega⟩
  replace hd : 1 ≤ d := by omega
  refine And.intro (Nat.le_of_ble_eq_true rfl) ?_
  show wq_318 d Q 0 [oR 12 0, oI l1, oI l2, oI l3] [] (sh_E h)
  refine ai_WP_steps mc_318 (sh_CM d) 3 (And.intro (Nat.le_of_ble_eq_true rfl) (x_M_isIsland (Nat.le_trans (Nat.le_of_ble_eq_true rfl) hd) l1 h (sh_okB H) (fun v1 H => ?_)))
  show wq_318 d Q 5 [oR 12 0, oI l1, oI l2, oI l3] [aI v1] (sh_E h)
  refine ai_WP_steps mc_318 (sh_CM d) 1 (And.intro (fun c => ?_) (fun c => ?_))
  · replace H := sh_okT c H
    exact x_M_looked_b38 hd hR h H
  · replace H := sh_okF c H
    show wq_318 d Q 8 [oR 12 0, oI l1, oI l2, oI l3] [] (sh_E h)
    refine ai_WP_steps mc_318 (sh_CM d) 4 (And.intro (Nat.le_of_ble_eq_true rfl) (x_M_isIn (Nat.le_trans (Nat.le_of_ble_eq_true rfl) hd) l2 (0 : Int32) (60 : Int32) h (sh_okB H) (fun v2 H => ?_)))
    show wq_318 d Q 15 [oR 12 0, oI l1, oI l2, oI l3] [aI v2] (sh_E h)
    refine ai_WP_steps mc_318 (sh_CM d) 1 (And.intro (fun c => ?_) (fun c => ?_))
    · replace H := sh_okT c H
      exact x_M_looked_b38 hd hR h H
    · replace H := sh_okF c H
      show wq_318 d Q 18 [oR 12 0, oI l1, oI l2, oI l3] [] (sh_E h)
      refine ai_WP_steps mc_318 (sh_CM d) 4 (And.intro (Nat.le_of_ble_eq_true rfl) (x_M_isIn (Nat.le_trans (Nat.le_of_ble_eq_true rfl) hd) l3 (0 : Int32) l2 h (sh_okB H) (fun v3 H => ?_)))
      show wq_318 d Q 24 [oR 12 0, oI l1, oI l2, oI l3] [aI v3] (sh_E h)
      refine ai_WP_steps mc_318 (sh_CM d) 1 (And.intro (fun c => ?_) (fun c => ?_))
      · replace H := sh_okT c H
        exact x_M_looked_b38 hd hR h H
      · replace H := sh_okF c H
        show wq_318 d Q 27 [oR 12 0, oI l1, oI l2, oI l3] [] (sh_E h)
        refine ai_WP_steps mc_318 (sh_CM d) 6 (And.intro (Nat.le_of_ble_eq_true rfl) (x_M_row (Nat.le_trans (Nat.le_of_ble_eq_true rfl) hd) (2 : Int32) l1 l2 l3 h (sh_okB H) (fun v4 h5 H => ?_)))
        show wq_318 d Q 35 [oR 12 0, oI l1, oI l2, oI l3] [aI v4] (sh_E h5)
        exact ai_WP_steps mc_318 (sh_CM d) 2 (hR v4 h5 H)
def f_M_annul_b44    (h : sh_H) : Option (Int32 × sh_H) := (some ((-1 : Int32), h))
theorem x_M_annul_b44 {d : Nat} (hd : 1 ≤ d) {Q : ai_Q} {R : Int32 × sh_H → Prop} (hR : ∀ r h, R (r, h) → Q (some (aI r)) (sh_E h))    {d0 d1 : Option ai_V} (h : sh_H) (H : sh_ok (f_M_annul_b44 h) R) : wq_319 d Q 44 [d0, d1] [] (sh_E h) := by
  exact ai_WP_steps mc_319 (sh_CM d) 2 (hR (-1 : Int32) h H)
def f_M_annul  (l1 : Int32) (h : sh_H) : Option (Int32 × sh_H) := (if ai_in (8 : Int32) 8000 then (Option.bind (f_M_isIn l1 (0 : Int32) ((h.1 13 46 (8 : Int32).toNatClampNeg) - (1 : Int32)) h) (fun v1 => (if v1 = 0 then f_M_annul_b44 h else (if ai_in ((550 : Int32) + ((4 : Int32) * l1)) 8000 then (if (h.1 13 46 ((550 : Int32) + ((4 : Int32) * l1)).toNatClampNeg) = (3 : Int32) then f_M_annul_b44 h else (sh_b2 (f_M_row (3 : Int32) l1 (0 : Int32) (0 : Int32) h) (fun v2 h3 => (some (v2, h3))))) else none)))) else none)
theorem x_M_annul {d : Nat} (hd : 2 ≤ d) (l1 : Int32) (h : sh_H) {Q : ai_Q} {R : Int32 × sh_H → Prop} (H : sh_ok (f_M_annul l1 h) R) (hR : ∀ r h, R (r, h) → Q (some (aI r)) (sh_E h)) : ai_Ex sh_T d 319 [aR 12 0, aI l1] (sh_E h) Q := by
  obtain ⟨d, rfl⟩ : ∃ e, d = e + 1 := ⟨d - 1, by omega⟩
  replace hd : 1 ≤ d := by omega
  refine And.intro (Nat.le_of_ble_eq_true rfl) ?_
  show wq_319 d Q 0 [oR 12 0, oI l1] [] (sh_E h)
  have c := sh_okG H
  replace H := sh_okH H
  refine ai_WP_steps mc_319 (sh_CM d) 6 (And.intro c ?_)
  show wq_319 d Q 9 [oR 12 0, oI l1] [aI (h.1 13 46 (8 : Int32).toNatClampNeg), aI (0 : Int32), aI l1] (sh_E h)
  refine ai_WP_steps mc_319 (sh_CM d) 3 (And.intro (Nat.le_of_ble_eq_true rfl) (x_M_isIn (Nat.le_trans (Nat.le_of_ble_eq_true rfl) hd) l1 (0 : Int32) ((h.1 13 46 (8 : Int32).toNatClampNeg) - (1 : Int32)) h (sh_okB H) (fun v1 H => ?_)))
  show wq_319 d Q 14 [oR 12 0, oI l1] [aI v1] (sh_E h)
  refine ai_WP_steps mc_319 (sh_CM d) 1 (And.intro (fun c => ?_) (fun c => ?_))
  · replace H := sh_okT c H
    exact x_M_annul_b44 hd hR h H
  · replace H := sh_okF c H
    show wq_319 d Q 17 [oR 12 0, oI l1] [] (sh_E h)
    have c := sh_okG H
    replace H := sh_okH H
    refine ai_WP_steps mc_319 (sh_CM d) 8 (And.intro c ?_)
    show wq_319 d Q 29 [oR 12 0, oI l1] [aI (h.1 13 46 ((550 : Int32) + ((4 : Int32) * l1)).toNatClampNeg)] (sh_E h)
    refine ai_WP_steps mc_319 (sh_CM d) 2 (And.intro (fun c => ?_) (fun c => ?_))
    · replace H := sh_okT c H
      exact x_M_annul_b44 hd hR h H
    · replace H := sh_okF c H
      show wq_319 d Q 33 [oR 12 0, oI l1] [] (sh_E h)
      refine ai_WP_steps mc_319 (sh_CM d) 6 (And.intro (Nat.le_of_ble_eq_true rfl) (x_M_row (Nat.le_trans (Nat.le_of_ble_eq_true rfl) hd) (3 : Int32) l1 (0 : Int32) (0 : Int32) h (sh_okB H) (fun v2 h3 H => ?_)))
      show wq_319 d Q 41 [oR 12 0, oI l1] [aI v2] (sh_E h3)
      exact ai_WP_steps mc_319 (sh_CM d) 2 (hR v2 h3 H)
def f_M_isKnown_b19    (h : sh_H) : Option Int32 := (some (ai_nar 1 (0 : Int32)))
theorem x_M_isKnown_b19 {d : Nat} (hd : 0 ≤ d) (h : sh_H) {Q : ai_Q} {R : Int32 → Prop} (hR : ∀ r, R r → Q (some (aI r)) (sh_E h))    {d0 d1 : Option ai_V} (H : sh_ok (f_M_isKnown_b19 h) R) : wq_320 d Q 19 [d0, d1] [] (sh_E h) := by
  exact ai_WP_steps mc_320 (sh_CM d) 2 (hR (ai_nar 1 (0 : Int32)) H)
def f_M_isKnown  (l1 : Int32) (h : sh_H) : Option Int32 := (if l1 < 0 then f_M_isKnown_b19 h else (if ai_in (8 : Int32) 8000 then (if (h.1 13 46 (8 : Int32).toNatClampNeg) < l1 then f_M_isKnown_b19 h else (some (ai_nar 1 (1 : Int32)))) else none))
theorem x_M_isKnown {d : Nat} (hd : 1 ≤ d) (l1 : Int32) (h : sh_H) {Q : ai_Q} {R : Int32 → Prop} (H : sh_ok (f_M_isKnown l1 h) R) (hR : ∀ r, R r → Q (some (aI r)) (sh_E h)) : ai_Ex sh_T d 320 [aR 12 0, aI l1] (sh_E h) Q := by
  obtain ⟨d, rfl⟩ : ∃ e, d = e + 1 := ⟨d - 1, by omega⟩
  replace hd : 0 ≤ d := by omega
  refine And.intro (Nat.le_of_ble_eq_true rfl) ?_
  show wq_320 d Q 0 [oR 12 0, oI l1] [] (sh_E h)
  refine ai_WP_steps mc_320 (sh_CM d) 2 (And.intro (fun c => ?_) (fun c => ?_))
  · replace H := sh_okT c H
    exact x_M_isKnown_b19 hd h hR H
  · replace H := sh_okF c H
    show wq_320 d Q 4 [oR 12 0, oI l1] [] (sh_E h)
    have c := sh_okG H
    replace H := sh_okH H
    refine ai_WP_steps mc_320 (sh_CM d) 5 (And.intro c ?_)
    show wq_320 d Q 12 [oR 12 0, oI l1] [aI (h.1 13 46 (8 : Int32).toNatClampNeg), aI l1] (sh_E h)
    refine ai_WP_steps mc_320 (sh_CM d) 1 (And.intro (fun c => ?_) (fun c => ?_))
    · replace H := sh_okT c H
      exact x_M_isKnown_b19 hd h hR H
    · replace H := sh_okF c H
      show wq_320 d Q 15 [oR 12 0, oI l1] [] (sh_E h)
      exact ai_WP_steps mc_320 (sh_CM d) 3 (hR (ai_nar 1 (1 : Int32)) H)
def f_M_isLive_b45 (N : Nat)  (k4 : Int32 → Int32 → Int32 → sh_H → Option Int32) (l1 : Int32) (l2 : Int32) (l3 : Int32) (h : sh_H) : Option Int32 := k4 l1 l2 (l3 + (1 : Int32)) h
theorem x_M_isLive_b45 (N : Nat) {d : Nat} (hd : 0 ≤ d) (h : sh_H) {Q : ai_Q} {R : Int32 → Prop} (hR : ∀ r, R r → Q (some (aI r)) (sh_E h))  (k4 : Int32 → Int32 → Int32 → sh_H → Option Int32) (hk4 : ∀ (l1 : Int32) (l2 : Int32) (l3 : Int32), sh_ok (k4 l1 l2 l3 h) R → wq_321 d Q 4 [oR 12 0, oI l1, oI l2, oI l3] [] (sh_E h)) (l1 : Int32) (l2 : Int32) (l3 : Int32) (H : sh_ok (f_M_isLive_b45 N k4 l1 l2 l3 h) R) : wq_321 d Q 45 [oR 12 0, oI l1, oI l2, oI l3] [] (sh_E h) := by
  refine ai_WP_steps mc_321 (sh_CM d) 2 ?_
  exact hk4 l1 l2 (l3 + (1 : Int32)) H
def f_M_isLive_c4 (N : Nat)   (k4 : Int32 → Int32 → Int32 → sh_H → Option Int32) (l1 : Int32) (l2 : Int32) (l3 : Int32) (h : sh_H) : Option Int32 := (if l3 < l2 then (if ai_in ((550 : Int32) + ((4 : Int32) * l3)) 8000 then (if (h.1 13 46 ((550 : Int32) + ((4 : Int32) * l3)).toNatClampNeg) = (3 : Int32) then (if ai_in (((550 : Int32) + ((4 : Int32) * l3)) + (1 : Int32)) 8000 then (if (h.1 13 46 (((550 : Int32) + ((4 : Int32) * l3)) + (1 : Int32)).toNatClampNeg) = l1 then (some (ai_nar 1 (0 : Int32))) else f_M_isLive_b45 N k4 l1 l2 l3 h) else none) else f_M_isLive_b45 N k4 l1 l2 l3 h) else none) else (some (ai_nar 1 (1 : Int32))))
def f_M_isLive_l4 (N : Nat)   (n : Nat) : Int32 → Int32 → Int32 → sh_H → Option Int32 := Nat.rec (motive := fun _ => Int32 → Int32 → Int32 → sh_H → Option Int32) (fun _ _ _ _ => none) (fun _ k4 => f_M_isLive_c4 N k4) n
theorem x_M_isLive_l4 (N : Nat) {d : Nat} (hd : 0 ≤ d) (h : sh_H) {Q : ai_Q} {R : Int32 → Prop} (hR : ∀ r, R r → Q (some (aI r)) (sh_E h))   (n : Nat) : ∀ (l1 : Int32) (l2 : Int32) (l3 : Int32), sh_ok (f_M_isLive_l4 N n l1 l2 l3 h) R → wq_321 d Q 4 [oR 12 0, oI l1, oI l2, oI l3] [] (sh_E h) := by
  induction n with
  | zero => intro l1 l2 l3 H; exact H.elim
  | succ n ih =>
    intro l1 l2 l3 H
    have hk4 := @ih
    replace H : sh_ok (f_M_isLive_c4 N (f_M_isLive_l4 N n) l1 l2 l3 h) R := H
    revert hk4 H
    generalize f_M_isLive_l4 N n = k4
    intro hk4 H
    refine ai_WP_steps mc_321 (sh_CM d) 3 (And.intro (fun c => ?_) (fun c => ?_))
    · replace H := sh_okT c H
      show wq_321 d Q 9 [oR 12 0, oI l1, oI l2, oI l3] [] (sh_E h)
      have c := sh_okG H
      replace H := sh_okH H
      refine ai_WP_steps mc_321 (sh_CM d) 8 (And.intro c ?_)
      show wq_321 d Q 21 [oR 12 0, oI l1, oI l2, oI l3] [aI (h.1 13 46 ((550 : Int32) + ((4 : Int32) * l3)).toNatClampNeg)] (sh_E h)
      refine ai_WP_steps mc_321 (sh_CM d) 2 (And.intro (fun c => ?_) (fun c => ?_))
      · replace H := sh_okT c H
        show wq_321 d Q 25 [oR 12 0, oI l1, oI l2, oI l3] [] (sh_E h)
        have c := sh_okG H
        replace H := sh_okH H
        refine ai_WP_steps mc_321 (sh_CM d) 10 (And.intro c ?_)
        show wq_321 d Q 39 [oR 12 0, oI l1, oI l2, oI l3] [aI (h.1 13 46 (((550 : Int32) + ((4 : Int32) * l3)) + (1 : Int32)).toNatClampNeg)] (sh_E h)
        refine ai_WP_steps mc_321 (sh_CM d) 2 (And.intro (fun c => ?_) (fun c => ?_))
        · replace H := sh_okT c H
          show wq_321 d Q 43 [oR 12 0, oI l1, oI l2, oI l3] [] (sh_E h)
          exact ai_WP_steps mc_321 (sh_CM d) 2 (hR (ai_nar 1 (0 : Int32)) H)
        · replace H := sh_okF c H
          exact x_M_isLive_b45 N hd h hR k4 hk4 l1 l2 l3 H
      · replace H := sh_okF c H
        exact x_M_isLive_b45 N hd h hR k4 hk4 l1 l2 l3 H
    · replace H := sh_okF c H
      show wq_321 d Q 51 [oR 12 0, oI l1, oI l2, oI l3] [] (sh_E h)
      exact ai_WP_steps mc_321 (sh_CM d) 2 (hR (ai_nar 1 (1 : Int32)) H)
def f_M_isLive (N : Nat)  (l1 : Int32) (l2 : Int32) (h : sh_H) : Option Int32 := f_M_isLive_l4 N N l1 l2 (l1 + (1 : Int32)) h
theorem x_M_isLive (N : Nat) {d : Nat} (hd : 1 ≤ d) (l1 : Int32) (l2 : Int32) (h : sh_H) {Q : ai_Q} {R : Int32 → Prop} (H : sh_ok (f_M_isLive N l1 l2 h) R) (hR : ∀ r, R r → Q (some (aI r)) (sh_E h)) : ai_Ex sh_T d 321 [aR 12 0, aI l1, aI l2] (sh_E h) Q := by
  obtain ⟨d, rfl⟩ : ∃ e, d = e + 1 := ⟨d - 1, by omega⟩
  replace hd : 0 ≤ d := by omega
  refine And.intro (Nat.le_of_ble_eq_true rfl) ?_
  show wq_321 d Q 0 [oR 12 0, oI l1, oI l2, none] [] (sh_E h)
  refine ai_WP_steps mc_321 (sh_CM d) 4 ?_
  exact x_M_isLive_l4 N hd h hR N l1 l2 (l1 + (1 : Int32)) H
def f_M_booked_b85 (N : Nat)  (k6 : Int32 → Int32 → Int32 → Int32 → Int32 → Int32 → sh_H → Option Int32) (l1 : Int32) (l2 : Int32) (l3 : Int32) (l4 : Int32) (l5 : Int32) (l6 : Int32) (h : sh_H) : Option Int32 := k6 l1 l2 l3 l4 l5 (l6 + (1 : Int32)) h
theorem x_M_booked_b85 (N : Nat) {d : Nat} (hd : 1 ≤ d) (h : sh_H) {Q : ai_Q} {R : Int32 → Prop} (hR : ∀ r, R r → Q (some (aI r)) (sh_E h))  (k6 : Int32 → Int32 → Int32 → Int32 → Int32 → Int32 → sh_H → Option Int32) (hk6 : ∀ (l1 : Int32) (l2 : Int32) (l3 : Int32) (l4 : Int32) (l5 : Int32) (l6 : Int32) {d7 : Option ai_V}, sh_ok (k6 l1 l2 l3 l4 l5 l6 h) R → wq_322 d Q 6 [oR 12 0, oI l1, oI l2, oI l3, oI l4, oI l5, oI l6, d7] [] (sh_E h)) (l1 : Int32) (l2 : Int32) (l3 : Int32) (l4 : Int32) (l5 : Int32) (l6 : Int32) {d7 : Option ai_V} (H : sh_ok (f_M_booked_b85 N k6 l1 l2 l3 l4 l5 l6 h) R) : wq_322 d Q 85 [oR 12 0, oI l1, oI l2, oI l3, oI l4, oI l5, oI l6, d7] [] (sh_E h) := by
  refine ai_WP_steps mc_322 (sh_CM d) 2 ?_
  exact hk6 l1 l2 l3 l4 l5 (l6 + (1 : Int32)) H
def f_M_booked_c6 (N : Nat)   (k6 : Int32 → Int32 → Int32 → Int32 → Int32 → Int32 → sh_H → Option Int32) (l1 : Int32) (l2 : Int32) (l3 : Int32) (l4 : Int32) (l5 : Int32) (l6 : Int32) (h : sh_H) : Option Int32 := (if l6 < l4 then (if ai_in ((550 : Int32) + ((4 : Int32) * l6)) 8000 then (if (h.1 13 46 ((550 : Int32) + ((4 : Int32) * l6)).toNatClampNeg) = l1 then (if ai_in (((550 : Int32) + ((4 : Int32) * l6)) + (1 : Int32)) 8000 then (if (h.1 13 46 (((550 : Int32) + ((4 : Int32) * l6)) + (1 : Int32)).toNatClampNeg) = l2 then (if ai_in (((550 : Int32) + ((4 : Int32) * l6)) + (2 : Int32)) 8000 then (if (h.1 13 46 (((550 : Int32) + ((4 : Int32) * l6)) + (2 : Int32)).toNatClampNeg) = l3 then (Option.bind (f_M_isLive N l6 l4 h) (fun v1 => (if v1 = 0 then f_M_booked_b85 N k6 l1 l2 l3 l4 l5 l6 h else (if ai_in (((550 : Int32) + ((4 : Int32) * l6)) + (3 : Int32)) 8000 then f_M_booked_b85 N k6 l1 l2 l3 l4 (l5 + (h.1 13 46 (((550 : Int32) + ((4 : Int32) * l6)) + (3 : Int32)).toNatClampNeg)) l6 h else none)))) else f_M_booked_b85 N k6 l1 l2 l3 l4 l5 l6 h) else none) else f_M_booked_b85 N k6 l1 l2 l3 l4 l5 l6 h) else none) else f_M_booked_b85 N k6 l1 l2 l3 l4 l5 l6 h) else none) else (some l5))
def f_M_booked_l6 (N : Nat)   (n : Nat) : Int32 → Int32 → Int32 → Int32 → Int32 → Int32 → sh_H → Option Int32 := Nat.rec (motive := fun _ => Int32 → Int32 → Int32 → Int32 → Int32 → Int32 → sh_H → Option Int32) (fun _ _ _ _ _ _ _ => none) (fun _ k6 => f_M_booked_c6 N k6) n
theorem x_M_booked_l6 (N : Nat) {d : Nat} (hd : 1 ≤ d) (h : sh_H) {Q : ai_Q} {R : Int32 → Prop} (hR : ∀ r, R r → Q (some (aI r)) (sh_E h))   (n : Nat) : ∀ (l1 : Int32) (l2 : Int32) (l3 : Int32) (l4 : Int32) (l5 : Int32) (l6 : Int32) {d7 : Option ai_V}, sh_ok (f_M_booked_l6 N n l1 l2 l3 l4 l5 l6 h) R → wq_322 d Q 6 [oR 12 0, oI l1, oI l2, oI l3, oI l4, oI l5, oI l6, d7] [] (sh_E h) := by
  induction n with
  | zero => intro l1 l2 l3 l4 l5 l6 d7 H; exact H.elim
  | succ n ih =>
    intro l1 l2 l3 l4 l5 l6 d7 H
    have hk6 := @ih
    replace H : sh_ok (f_M_booked_c6 N (f_M_booked_l6 N n) l1 l2 l3 l4 l5 l6 h) R := H
    revert hk6 H
    generalize f_M_booked_l6 N n = k6
    intro hk6 H
    refine ai_WP_steps mc_322 (sh_CM d) 3 (And.intro (fun c => ?_) (fun c => ?_))
    · replace H := sh_okT c H
      show wq_322 d Q 13 [oR 12 0, oI l1, oI l2, oI l3, oI l4, oI l5, oI l6, _] [] (sh_E h)
      have c := sh_okG H
      replace H := sh_okH H
      refine ai_WP_steps mc_322 (sh_CM d) 10 (And.intro c ?_)
      show wq_322 d Q 30 [oR 12 0, oI l1, oI l2, oI l3, oI l4, oI l5, oI l6, oI ((550 : Int32) + ((4 : Int32) * l6))] [aI (h.1 13 46 ((550 : Int32) + ((4 : Int32) * l6)).toNatClampNeg)] (sh_E h)
      refine ai_WP_steps mc_322 (sh_CM d) 2 (And.intro (fun c => ?_) (fun c => ?_))
      · replace H := sh_okT c H
        show wq_322 d Q 34 [oR 12 0, oI l1, oI l2, oI l3, oI l4, oI l5, oI l6, oI ((550 : Int32) + ((4 : Int32) * l6))] [] (sh_E h)
        have c := sh_okG H
        replace H := sh_okH H
        refine ai_WP_steps mc_322 (sh_CM d) 6 (And.intro c ?_)
        show wq_322 d Q 43 [oR 12 0, oI l1, oI l2, oI l3, oI l4, oI l5, oI l6, oI ((550 : Int32) + ((4 : Int32) * l6))] [aI (h.1 13 46 (((550 : Int32) + ((4 : Int32) * l6)) + (1 : Int32)).toNatClampNeg)] (sh_E h)
        refine ai_WP_steps mc_322 (sh_CM d) 2 (And.intro (fun c => ?_) (fun c => ?_))
        · replace H := sh_okT c H
          show wq_322 d Q 47 [oR 12 0, oI l1, oI l2, oI l3, oI l4, oI l5, oI l6, oI ((550 : Int32) + ((4 : Int32) * l6))] [] (sh_E h)
          have c := sh_okG H
          replace H := sh_okH H
          refine ai_WP_steps mc_322 (sh_CM d) 6 (And.intro c ?_)
          show wq_322 d Q 56 [oR 12 0, oI l1, oI l2, oI l3, oI l4, oI l5, oI l6, oI ((550 : Int32) + ((4 : Int32) * l6))] [aI (h.1 13 46 (((550 : Int32) + ((4 : Int32) * l6)) + (2 : Int32)).toNatClampNeg)] (sh_E h)
          refine ai_WP_steps mc_322 (sh_CM d) 2 (And.intro (fun c => ?_) (fun c => ?_))
          · replace H := sh_okT c H
            show wq_322 d Q 60 [oR 12 0, oI l1, oI l2, oI l3, oI l4, oI l5, oI l6, oI ((550 : Int32) + ((4 : Int32) * l6))] [] (sh_E h)
            refine ai_WP_steps mc_322 (sh_CM d) 4 (And.intro (Nat.le_of_ble_eq_true rfl) (x_M_isLive N (Nat.le_trans (Nat.le_of_ble_eq_true rfl) hd) l6 l4 h (sh_okB H) (fun v1 H => ?_)))
            show wq_322 d Q 68 [oR 12 0, oI l1, oI l2, oI l3, oI l4, oI l5, oI l6, oI ((550 : Int32) + ((4 : Int32) * l6))] [aI v1] (sh_E h)
            refine ai_WP_steps mc_322 (sh_CM d) 1 (And.intro (fun c => ?_) (fun c => ?_))
            · replace H := sh_okT c H
              exact x_M_booked_b85 N hd h hR k6 hk6 l1 l2 l3 l4 l5 l6 H
            · replace H := sh_okF c H
              show wq_322 d Q 71 [oR 12 0, oI l1, oI l2, oI l3, oI l4, oI l5, oI l6, oI ((550 : Int32) + ((4 : Int32) * l6))] [] (sh_E h)
              have c := sh_okG H
              replace H := sh_okH H
              refine ai_WP_steps mc_322 (sh_CM d) 7 (And.intro c ?_)
              show wq_322 d Q 82 [oR 12 0, oI l1, oI l2, oI l3, oI l4, oI l5, oI l6, oI ((550 : Int32) + ((4 : Int32) * l6))] [aI (h.1 13 46 (((550 : Int32) + ((4 : Int32) * l6)) + (3 : Int32)).toNatClampNeg), aI l5] (sh_E h)
              refine ai_WP_steps mc_322 (sh_CM d) 2 ?_
              exact x_M_booked_b85 N hd h hR k6 hk6 l1 l2 l3 l4 (l5 + (h.1 13 46 (((550 : Int32) + ((4 : Int32) * l6)) + (3 : Int32)).toNatClampNeg)) l6 H
          · replace H := sh_okF c H
            exact x_M_booked_b85 N hd h hR k6 hk6 l1 l2 l3 l4 l5 l6 H
        · replace H := sh_okF c H
          exact x_M_booked_b85 N hd h hR k6 hk6 l1 l2 l3 l4 l5 l6 H
      · replace H := sh_okF c H
        exact x_M_booked_b85 N hd h hR k6 hk6 l1 l2 l3 l4 l5 l6 H
    · replace H := sh_okF c H
      show wq_322 d Q 91 [oR 12 0, oI l1, oI l2, oI l3, oI l4, oI l5, oI l6, _] [] (sh_E h)
      exact ai_WP_steps mc_322 (sh_CM d) 2 (hR l5 H)
def f_M_booked (N : Nat)  (l1 : Int32) (l2 : Int32) (l3 : Int32) (l4 : Int32) (h : sh_H) : Option Int32 := f_M_booked_l6 N N l1 l2 l3 l4 (0 : Int32) (0 : Int32) h
theorem x_M_booked (N : Nat) {d : Nat} (hd : 2 ≤ d) (l1 : Int32) (l2 : Int32) (l3 : Int32) (l4 : Int32) (h : sh_H) {Q : ai_Q} {R : Int32 → Prop} (H : sh_ok (f_M_booked N l1 l2 l3 l4 h) R) (hR : ∀ r, R r → Q (some (aI r)) (sh_E h)) : ai_Ex sh_T d 322 [aR 12 0, aI l1, aI l2, aI l3, aI l4] (sh_E h) Q := by
  obtain ⟨d, rfl⟩ : ∃ e, d = e + 1 := ⟨d - 1, by omega⟩
  replace hd : 1 ≤ d := by omega
  refine And.intro (Nat.le_of_ble_eq_true rfl) ?_
  show wq_322 d Q 0 [oR 12 0, oI l1, oI l2, oI l3, oI l4, none, none, none] [] (sh_E h)
  refine ai_WP_steps mc_322 (sh_CM d) 4 ?_
  exact x_M_booked_l6 N hd h hR N l1 l2 l3 l4 (0 : Int32) (0 : Int32) H
def f_M_balance_b44 (N : Nat)    (h : sh_H) : Option Int32 := (some (-1000000 : Int32))
theorem x_M_balance_b44 (N : Nat) {d : Nat} (hd : 2 ≤ d) (h : sh_H) {Q : ai_Q} {R : Int32 → Prop} (hR : ∀ r, R r → Q (some (aI r)) (sh_E h))    {d0 d1 d2 d3 : Option ai_V} (H : sh_ok (f_M_balance_b44 N h) R) : wq_323 d Q 44 [d0, d1, d2, d3] [] (sh_E h) := by
  exact ai_WP_steps mc_323 (sh_CM d) 2 (hR (-1000000 : Int32) H)
def f_M_balance (N : Nat)  (l1 : Int32) (l2 : Int32) (l3 : Int32) (h : sh_H) : Option Int32 := (Option.bind (f_M_isIsland l1 h) (fun v1 => (if v1 = 0 then f_M_balance_b44 N h else (Option.bind (f_M_isKind l2 h) (fun v2 => (if v2 = 0 then f_M_balance_b44 N h else (Option.bind (f_M_isKnown l3 h) (fun v3 => (if v3 = 0 then f_M_balance_b44 N h else (Option.bind (f_M_booked N (0 : Int32) l1 l2 l3 h) (fun v4 => (Option.bind (f_M_booked N (1 : Int32) l1 l2 l3 h) (fun v5 => (some (v4 - v5)))))))))))))))
theorem x_M_balance (N : Nat) {d : Nat} (hd : 3 ≤ d) (l1 : Int32) (l2 : Int32) (l3 : Int32) (h : sh_H) {Q : ai_Q} {R : Int32 → Prop} (H : sh_ok (f_M_balance N l1 l2 l3 h) R) (hR : ∀ r, R r → Q (some (aI r)) (sh_E h)) : ai_Ex sh_T d 323 [aR 12 0, aI l1, aI l2, aI l3] (sh_E h) Q := by
  obtain ⟨d, rfl⟩ : ∃ e, d = e + 1 := ⟨d - 1, by omega⟩
  replace hd : 2 ≤ d := by omega
  refine And.intro (Nat.le_of_ble_eq_true rfl) ?_
  show wq_323 d Q 0 [oR 12 0, oI l1, oI l2, oI l3] [] (sh_E h)
  refine ai_WP_steps mc_323 (sh_CM d) 3 (And.intro (Nat.le_of_ble_eq_true rfl) (x_M_isIsland (Nat.le_trans (Nat.le_of_ble_eq_true rfl) hd) l1 h (sh_okB H) (fun v1 H => ?_)))
  show wq_323 d Q 5 [oR 12 0, oI l1, oI l2, oI l3] [aI v1] (sh_E h)
  refine ai_WP_steps mc_323 (sh_CM d) 1 (And.intro (fun c => ?_) (fun c => ?_))
  · replace H := sh_okT c H
    exact x_M_balance_b44 N hd h hR H
  · replace H := sh_okF c H
    show wq_323 d Q 8 [oR 12 0, oI l1, oI l2, oI l3] [] (sh_E h)
    refine ai_WP_steps mc_323 (sh_CM d) 3 (And.intro (Nat.le_of_ble_eq_true rfl) (x_M_isKind (Nat.le_trans (Nat.le_of_ble_eq_true rfl) hd) l2 h (sh_okB H) (fun v2 H => ?_)))
    show wq_323 d Q 13 [oR 12 0, oI l1, oI l2, oI l3] [aI v2] (sh_E h)
    refine ai_WP_steps mc_323 (sh_CM d) 1 (And.intro (fun c => ?_) (fun c => ?_))
    · replace H := sh_okT c H
      exact x_M_balance_b44 N hd h hR H
    · replace H := sh_okF c H
      show wq_323 d Q 16 [oR 12 0, oI l1, oI l2, oI l3] [] (sh_E h)
      refine ai_WP_steps mc_323 (sh_CM d) 3 (And.intro (Nat.le_of_ble_eq_true rfl) (x_M_isKnown (Nat.le_trans (Nat.le_of_ble_eq_true rfl) hd) l3 h (sh_okB H) (fun v3 H => ?_)))
      show wq_323 d Q 21 [oR 12 0, oI l1, oI l2, oI l3] [aI v3] (sh_E h)
      refine ai_WP_steps mc_323 (sh_CM d) 1 (And.intro (fun c => ?_) (fun c => ?_))
      · replace H := sh_okT c H
        exact x_M_balance_b44 N hd h hR H
      · replace H := sh_okF c H
        show wq_323 d Q 24 [oR 12 0, oI l1, oI l2, oI l3] [] (sh_E h)
        refine ai_WP_steps mc_323 (sh_CM d) 6 (And.intro (Nat.le_of_ble_eq_true rfl) (x_M_booked N (Nat.le_trans (Nat.le_of_ble_eq_true rfl) hd) (0 : Int32) l1 l2 l3 h (sh_okB H) (fun v4 H => ?_)))
        show wq_323 d Q 32 [oR 12 0, oI l1, oI l2, oI l3] [aI v4] (sh_E h)
        refine ai_WP_steps mc_323 (sh_CM d) 6 (And.intro (Nat.le_of_ble_eq_true rfl) (x_M_booked N (Nat.le_trans (Nat.le_of_ble_eq_true rfl) hd) (1 : Int32) l1 l2 l3 h (sh_okB H) (fun v5 H => ?_)))
        show wq_323 d Q 40 [oR 12 0, oI l1, oI l2, oI l3] [aI v5, aI v4] (sh_E h)
        exact ai_WP_steps mc_323 (sh_CM d) 3 (hR (v4 - v5) H)
def f_M_richest_c35 (N : Nat)  (k87 : Int32 → Int32 → Int64 → Int32 → Int64 → sh_H → Option Int32) (k35 : Int32 → Int32 → Int64 → Int32 → Int64 → Int32 → sh_H → Option Int32) (l1 : Int32) (l2 : Int32) (l3 : Int64) (l5 : Int32) (l6 : Int64) (l8 : Int32) (h : sh_H) : Option Int32 := (if ai_in (0 : Int32) 8000 then (if l8 < (h.1 13 46 (0 : Int32).toNatClampNeg) then (Option.bind (f_M_booked N (1 : Int32) l5 l8 l1 h) (fun v1 => (Option.bind (f_M_booked N (0 : Int32) l5 l8 l1 h) (fun v2 => (Option.bind (f_M_worth l8 h) (fun v3 => k35 l1 l2 l3 l5 (l6 + ((v1 - v2).toInt64 * v3.toInt64)) (l8 + (1 : Int32)) h)))))) else k87 l1 l2 l3 l5 l6 h) else none)
def f_M_richest_l35 (N : Nat)  (k87 : Int32 → Int32 → Int64 → Int32 → Int64 → sh_H → Option Int32) (n : Nat) : Int32 → Int32 → Int64 → Int32 → Int64 → Int32 → sh_H → Option Int32 := Nat.rec (motive := fun _ => Int32 → Int32 → Int64 → Int32 → Int64 → Int32 → sh_H → Option Int32) (fun _ _ _ _ _ _ _ => none) (fun _ k35 => f_M_richest_c35 N k87 k35) n
theorem x_M_richest_l35 (N : Nat) {d : Nat} (hd : 2 ≤ d) (h : sh_H) {Q : ai_Q} {R : Int32 → Prop} (hR : ∀ r, R r → Q (some (aI r)) (sh_E h))  (k87 : Int32 → Int32 → Int64 → Int32 → Int64 → sh_H → Option Int32) (hk87 : ∀ (l1 : Int32) (l2 : Int32) (l3 : Int64) (l5 : Int32) (l6 : Int64) {d4 d7 d8 : Option ai_V}, sh_ok (k87 l1 l2 l3 l5 l6 h) R → wq_324 d Q 87 [oR 12 0, oI l1, oI l2, oL l3, d4, oI l5, oL l6, d7, d8] [] (sh_E h)) (n : Nat) : ∀ (l1 : Int32) (l2 : Int32) (l3 : Int64) (l5 : Int32) (l6 : Int64) (l8 : Int32) {d4 d7 : Option ai_V}, sh_ok (f_M_richest_l35 N k87 n l1 l2 l3 l5 l6 l8 h) R → wq_324 d Q 35 [oR 12 0, oI l1, oI l2, oL l3, d4, oI l5, oL l6, d7, oI l8] [] (sh_E h) := by
  induction n with
  | zero => intro l1 l2 l3 l5 l6 l8 d4 d7 H; exact H.elim
  | succ n ih =>
    intro l1 l2 l3 l5 l6 l8 d4 d7 H
    have hk35 := @ih
    replace H : sh_ok (f_M_richest_c35 N k87 (f_M_richest_l35 N k87 n) l1 l2 l3 l5 l6 l8 h) R := H
    revert hk35 H
    generalize f_M_richest_l35 N k87 n = k35
    intro hk35 H
    have c := sh_okG H
    replace H := sh_okH H
    refine ai_WP_steps mc_324 (sh_CM d) 5 (And.intro c ?_)
    show wq_324 d Q 43 [oR 12 0, oI l1, oI l2, oL l3, _, oI l5, oL l6, _, oI l8] [aI (h.1 13 46 (0 : Int32).toNatClampNeg), aI l8] (sh_E h)
    refine ai_WP_steps mc_324 (sh_CM d) 1 (And.intro (fun c => ?_) (fun c => ?_))
    · replace H := sh_okT c H
      show wq_324 d Q 46 [oR 12 0, oI l1, oI l2, oL l3, _, oI l5, oL l6, _, oI l8] [] (sh_E h)
      refine ai_WP_steps mc_324 (sh_CM d) 7 (And.intro (Nat.le_of_ble_eq_true rfl) (x_M_booked N (Nat.le_trans (Nat.le_of_ble_eq_true rfl) hd) (1 : Int32) l5 l8 l1 h (sh_okB H) (fun v1 H => ?_)))
      show wq_324 d Q 58 [oR 12 0, oI l1, oI l2, oL l3, _, oI l5, oL l6, _, oI l8] [aI v1, aL l6] (sh_E h)
      refine ai_WP_steps mc_324 (sh_CM d) 6 (And.intro (Nat.le_of_ble_eq_true rfl) (x_M_booked N (Nat.le_trans (Nat.le_of_ble_eq_true rfl) hd) (0 : Int32) l5 l8 l1 h (sh_okB H) (fun v2 H => ?_)))
      show wq_324 d Q 68 [oR 12 0, oI l1, oI l2, oL l3, _, oI l5, oL l6, _, oI l8] [aI v2, aI v1, aL l6] (sh_E h)
      refine ai_WP_steps mc_324 (sh_CM d) 5 (And.intro (Nat.le_of_ble_eq_true rfl) (x_M_worth (Nat.le_trans (Nat.le_of_ble_eq_true rfl) hd) l8 h (sh_okB H) (fun v3 H => ?_)))
      show wq_324 d Q 76 [oR 12 0, oI l1, oI l2, oL l3, _, oI l5, oL l6, _, oI l8] [aI v3, aL (v1 - v2).toInt64, aL l6] (sh_E h)
      refine ai_WP_steps mc_324 (sh_CM d) 6 ?_
      exact hk35 l1 l2 l3 l5 (l6 + ((v1 - v2).toInt64 * v3.toInt64)) (l8 + (1 : Int32)) H
    · replace H := sh_okF c H
      exact hk87 l1 l2 l3 l5 l6 H
def f_M_richest_b103 (N : Nat)  (k18 : Int32 → Int32 → Int64 → Int32 → sh_H → Option Int32) (l1 : Int32) (l2 : Int32) (l3 : Int64) (l5 : Int32) (h : sh_H) : Option Int32 := k18 l1 l2 l3 (l5 + (1 : Int32)) h
theorem x_M_richest_b103 (N : Nat) {d : Nat} (hd : 2 ≤ d) (h : sh_H) {Q : ai_Q} {R : Int32 → Prop} (hR : ∀ r, R r → Q (some (aI r)) (sh_E h))  (k18 : Int32 → Int32 → Int64 → Int32 → sh_H → Option Int32) (hk18 : ∀ (l1 : Int32) (l2 : Int32) (l3 : Int64) (l5 : Int32) {d4 d6 d7 d8 : Option ai_V}, sh_ok (k18 l1 l2 l3 l5 h) R → wq_324 d Q 18 [oR 12 0, oI l1, oI l2, oL l3, d4, oI l5, d6, d7, d8] [] (sh_E h)) (l1 : Int32) (l2 : Int32) (l3 : Int64) (l5 : Int32) {d4 d6 d7 d8 : Option ai_V} (H : sh_ok (f_M_richest_b103 N k18 l1 l2 l3 l5 h) R) : wq_324 d Q 103 [oR 12 0, oI l1, oI l2, oL l3, d4, oI l5, d6, d7, d8] [] (sh_E h) := by
  refine ai_WP_steps mc_324 (sh_CM d) 2 ?_
  exact hk18 l1 l2 l3 (l5 + (1 : Int32)) H
def f_M_richest_b87 (N : Nat)  (k18 : Int32 → Int32 → Int64 → Int32 → sh_H → Option Int32) (l1 : Int32) (l2 : Int32) (l3 : Int64) (l5 : Int32) (l6 : Int64) (h : sh_H) : Option Int32 := (if 0 < (lg_cmp l6 l3) then f_M_richest_b103 N k18 l1 l5 l6 l5 h else f_M_richest_b103 N k18 l1 l2 l3 l5 h)
theorem x_M_richest_b87 (N : Nat) {d : Nat} (hd : 2 ≤ d) (h : sh_H) {Q : ai_Q} {R : Int32 → Prop} (hR : ∀ r, R r → Q (some (aI r)) (sh_E h))  (k18 : Int32 → Int32 → Int64 → Int32 → sh_H → Option Int32) (hk18 : ∀ (l1 : Int32) (l2 : Int32) (l3 : Int64) (l5 : Int32) {d4 d6 d7 d8 : Option ai_V}, sh_ok (k18 l1 l2 l3 l5 h) R → wq_324 d Q 18 [oR 12 0, oI l1, oI l2, oL l3, d4, oI l5, d6, d7, d8] [] (sh_E h)) (l1 : Int32) (l2 : Int32) (l3 : Int64) (l5 : Int32) (l6 : Int64) {d4 d7 d8 : Option ai_V} (H : sh_ok (f_M_richest_b87 N k18 l1 l2 l3 l5 l6 h) R) : wq_324 d Q 87 [oR 12 0, oI l1, oI l2, oL l3, d4, oI l5, oL l6, d7, d8] [] (sh_E h) := by
  refine ai_WP_steps mc_324 (sh_CM d) 4 (And.intro (fun c => ?_) (fun c => ?_))
  · replace H := sh_okT c H
    show wq_324 d Q 97 [oR 12 0, oI l1, oI l2, oL l3, _, oI l5, oL l6, _, _] [] (sh_E h)
    refine ai_WP_steps mc_324 (sh_CM d) 4 ?_
    exact x_M_richest_b103 N hd h hR k18 hk18 l1 l5 l6 l5 H
  · replace H := sh_okF c H
    show wq_324 d Q 94 [oR 12 0, oI l1, oI l2, oL l3, _, oI l5, oL l6, _, _] [] (sh_E h)
    refine ai_WP_steps mc_324 (sh_CM d) 1 ?_
    exact x_M_richest_b103 N hd h hR k18 hk18 l1 l2 l3 l5 H
def f_M_richest_c18 (N : Nat)   (k18 : Int32 → Int32 → Int64 → Int32 → sh_H → Option Int32) (l1 : Int32) (l2 : Int32) (l3 : Int64) (l5 : Int32) (h : sh_H) : Option Int32 := (if ai_in (1 : Int32) 8000 then (if (h.1 13 46 (1 : Int32).toNatClampNeg) < l5 then (some l2) else f_M_richest_l35 N (f_M_richest_b87 N k18) N l1 l2 l3 l5 (0 : Int64) (0 : Int32) h) else none)
def f_M_richest_l18 (N : Nat)   (n : Nat) : Int32 → Int32 → Int64 → Int32 → sh_H → Option Int32 := Nat.rec (motive := fun _ => Int32 → Int32 → Int64 → Int32 → sh_H → Option Int32) (fun _ _ _ _ _ => none) (fun _ k18 => f_M_richest_c18 N k18) n
theorem x_M_richest_l18 (N : Nat) {d : Nat} (hd : 2 ≤ d) (h : sh_H) {Q : ai_Q} {R : Int32 → Prop} (hR : ∀ r, R r → Q (some (aI r)) (sh_E h))   (n : Nat) : ∀ (l1 : Int32) (l2 : Int32) (l3 : Int64) (l5 : Int32) {d4 d6 d7 d8 : Option ai_V}, sh_ok (f_M_richest_l18 N n l1 l2 l3 l5 h) R → wq_324 d Q 18 [oR 12 0, oI l1, oI l2, oL l3, d4, oI l5, d6, d7, d8] [] (sh_E h) := by
  induction n with
  | zero => intro l1 l2 l3 l5 d4 d6 d7 d8 H; exact H.elim
  | succ n ih =>
    intro l1 l2 l3 l5 d4 d6 d7 d8 H
    have hk18 := @ih
    replace H : sh_ok (f_M_richest_c18 N (f_M_richest_l18 N n) l1 l2 l3 l5 h) R := H
    revert hk18 H
    generalize f_M_richest_l18 N n = k18
    intro hk18 H
    have c := sh_okG H
    replace H := sh_okH H
    refine ai_WP_steps mc_324 (sh_CM d) 5 (And.intro c ?_)
    show wq_324 d Q 26 [oR 12 0, oI l1, oI l2, oL l3, _, oI l5, _, _, _] [aI (h.1 13 46 (1 : Int32).toNatClampNeg), aI l5] (sh_E h)
    refine ai_WP_steps mc_324 (sh_CM d) 1 (And.intro (fun c => ?_) (fun c => ?_))
    · replace H := sh_okT c H
      show wq_324 d Q 109 [oR 12 0, oI l1, oI l2, oL l3, _, oI l5, _, _, _] [] (sh_E h)
      exact ai_WP_steps mc_324 (sh_CM d) 2 (hR l2 H)
    · replace H := sh_okF c H
      show wq_324 d Q 29 [oR 12 0, oI l1, oI l2, oL l3, _, oI l5, _, _, _] [] (sh_E h)
      refine ai_WP_steps mc_324 (sh_CM d) 4 ?_
      exact x_M_richest_l35 N hd h hR (f_M_richest_b87 N k18) (fun z0 z1 z2 z3 z4 {e4} {e7} {e8} H => x_M_richest_b87 N hd h hR k18 hk18 z0 z1 z2 z3 z4 H) N l1 l2 l3 l5 (0 : Int64) (0 : Int32) H
def f_M_richest (N : Nat)  (l1 : Int32) (h : sh_H) : Option Int32 := (Option.bind (f_M_isKnown l1 h) (fun v4 => (if v4 = 0 then (some (-1 : Int32)) else f_M_richest_l18 N N l1 (-2 : Int32) (0 : Int64) (1 : Int32) h)))
theorem x_M_richest (N : Nat) {d : Nat} (hd : 3 ≤ d) (l1 : Int32) (h : sh_H) {Q : ai_Q} {R : Int32 → Prop} (H : sh_ok (f_M_richest N l1 h) R) (hR : ∀ r, R r → Q (some (aI r)) (sh_E h)) : ai_Ex sh_T d 324 [aR 12 0, aI l1] (sh_E h) Q := by
  obtain ⟨d, rfl⟩ : ∃ e, d = e + 1 := ⟨d - 1, by omega⟩
  replace hd : 2 ≤ d := by omega
  refine And.intro (Nat.le_of_ble_eq_true rfl) ?_
  show wq_324 d Q 0 [oR 12 0, oI l1, none, none, none, none, none, none, none] [] (sh_E h)
  refine ai_WP_steps mc_324 (sh_CM d) 3 (And.intro (Nat.le_of_ble_eq_true rfl) (x_M_isKnown (Nat.le_trans (Nat.le_of_ble_eq_true rfl) hd) l1 h (sh_okB H) (fun v4 H => ?_)))
  show wq_324 d Q 5 [oR 12 0, oI l1, _, _, _, _, _, _, _] [aI v4] (sh_E h)
  refine ai_WP_steps mc_324 (sh_CM d) 1 (And.intro (fun c => ?_) (fun c => ?_))
  · replace H := sh_okT c H
    show wq_324 d Q 8 [oR 12 0, oI l1, _, _, _, _, _, _, _] [] (sh_E h)
    exact ai_WP_steps mc_324 (sh_CM d) 2 (hR (-1 : Int32) H)
  · replace H := sh_okF c H
    show wq_324 d Q 10 [oR 12 0, oI l1, _, _, _, _, _, _, _] [] (sh_E h)
    refine ai_WP_steps mc_324 (sh_CM d) 6 ?_
    exact x_M_richest_l18 N hd h hR N l1 (-2 : Int32) (0 : Int64) (1 : Int32) H
def f_M_layBooks_c2 (N : Nat)   (k2 : Int32 → Int32 → Int32 → sh_H → Option sh_H) (l1 : Int32) (l2 : Int32) (l3 : Int32) (h : sh_H) : Option sh_H := (if ai_in (0 : Int32) 8000 then (if l3 < (h.1 13 46 (0 : Int32).toNatClampNeg) then (Option.bind (f_M_booked N (0 : Int32) l1 l3 l2 h) (fun v1 => (if ai_in l3 6 then (sh_let (sh_pI h 13 58 l3.toNatClampNeg v1) (fun h2 => (Option.bind (f_M_booked N (1 : Int32) l1 l3 l2 h2) (fun v3 => (if ai_in l3 6 then (sh_let (sh_pI h2 13 59 l3.toNatClampNeg v3) (fun h4 => k2 l1 l2 (l3 + (1 : Int32)) h4)) else none))))) else none))) else (some h)) else none)
def f_M_layBooks_l2 (N : Nat)   (n : Nat) : Int32 → Int32 → Int32 → sh_H → Option sh_H := Nat.rec (motive := fun _ => Int32 → Int32 → Int32 → sh_H → Option sh_H) (fun _ _ _ _ => none) (fun _ k2 => f_M_layBooks_c2 N k2) n
theorem x_M_layBooks_l2 (N : Nat) {d : Nat} (hd : 2 ≤ d) {Q : ai_Q} {R : sh_H → Prop} (hR : ∀ h, R h → Q none (sh_E h))   (n : Nat) : ∀ (l1 : Int32) (l2 : Int32) (l3 : Int32) (h : sh_H), sh_ok (f_M_layBooks_l2 N n l1 l2 l3 h) R → wq_325 d Q 2 [oR 12 0, oI l1, oI l2, oI l3] [] (sh_E h) := by
  induction n with
  | zero => intro l1 l2 l3 h H; exact H.elim
  | succ n ih =>
    intro l1 l2 l3 h H
    have hk2 := @ih
    replace H : sh_ok (f_M_layBooks_c2 N (f_M_layBooks_l2 N n) l1 l2 l3 h) R := H
    revert hk2 H
    generalize f_M_layBooks_l2 N n = k2
    intro hk2 H
    have c := sh_okG H
    replace H := sh_okH H
    refine ai_WP_steps mc_325 (sh_CM d) 5 (And.intro c ?_)
    show wq_325 d Q 9 [oR 12 0, oI l1, oI l2, oI l3] [aI (h.1 13 46 (0 : Int32).toNatClampNeg), aI l3] (sh_E h)
    refine ai_WP_steps mc_325 (sh_CM d) 1 (And.intro (fun c => ?_) (fun c => ?_))
    · replace H := sh_okT c H
      show wq_325 d Q 12 [oR 12 0, oI l1, oI l2, oI l3] [] (sh_E h)
      refine ai_WP_steps mc_325 (sh_CM d) 9 (And.intro (Nat.le_of_ble_eq_true rfl) (x_M_booked N (Nat.le_trans (Nat.le_of_ble_eq_true rfl) hd) (0 : Int32) l1 l3 l2 h (sh_okB H) (fun v1 H => ?_)))
      show wq_325 d Q 25 [oR 12 0, oI l1, oI l2, oI l3] [aI v1, aI l3, aR 13 58] (sh_E h)
      have c := sh_okG H
      replace H := sh_okH H
      refine ai_WP_steps mc_325 (sh_CM d) 1 (And.intro c ?_)
      show wq_325 d Q 26 [oR 12 0, oI l1, oI l2, oI l3] [] (sh_E (sh_pI h 13 58 l3.toNatClampNeg v1))
      replace H := sh_okL H
      generalize sh_pI h 13 58 l3.toNatClampNeg v1 = h2 at H ⊢
      refine ai_WP_steps mc_325 (sh_CM d) 9 (And.intro (Nat.le_of_ble_eq_true rfl) (x_M_booked N (Nat.le_trans (Nat.le_of_ble_eq_true rfl) hd) (1 : Int32) l1 l3 l2 h2 (sh_okB H) (fun v3 H => ?_)))
      show wq_325 d Q 39 [oR 12 0, oI l1, oI l2, oI l3] [aI v3, aI l3, aR 13 59] (sh_E h2)
      have c := sh_okG H
      replace H := sh_okH H
      refine ai_WP_steps mc_325 (sh_CM d) 1 (And.intro c ?_)
      show wq_325 d Q 40 [oR 12 0, oI l1, oI l2, oI l3] [] (sh_E (sh_pI h2 13 59 l3.toNatClampNeg v3))
      replace H := sh_okL H
      generalize sh_pI h2 13 59 l3.toNatClampNeg v3 = h4 at H ⊢
      refine ai_WP_steps mc_325 (sh_CM d) 2 ?_
      exact hk2 l1 l2 (l3 + (1 : Int32)) h4 H
    · replace H := sh_okF c H
      show wq_325 d Q 46 [oR 12 0, oI l1, oI l2, oI l3] [] (sh_E h)
      exact ai_WP_steps mc_325 (sh_CM d) 1 (hR h H)
def f_M_layBooks (N : Nat)  (l1 : Int32) (l2 : Int32) (h : sh_H) : Option sh_H := f_M_layBooks_l2 N N l1 l2 (0 : Int32) h
theorem x_M_layBooks (N : Nat) {d : Nat} (hd : 3 ≤ d) (l1 : Int32) (l2 : Int32) (h : sh_H) {Q : ai_Q} {R : sh_H → Prop} (H : sh_ok (f_M_layBooks N l1 l2 h) R) (hR : ∀ h, R h → Q none (sh_E h)) : ai_Ex sh_T d 325 [aR 12 0, aI l1, aI l2] (sh_E h) Q := by
  obtain ⟨d, rfl⟩ : ∃ e, d = e + 1 := ⟨d - 1, by omega⟩
  replace hd : 2 ≤ d := by omega
  refine And.intro (Nat.le_of_ble_eq_true rfl) ?_
  show wq_325 d Q 0 [oR 12 0, oI l1, oI l2, none] [] (sh_E h)
  refine ai_WP_steps mc_325 (sh_CM d) 2 ?_
  exact x_M_layBooks_l2 N hd hR N l1 l2 (0 : Int32) h H
def f_M_offBy_b98 (N : Nat)  (k6 : Int32 → Int32 → Int32 → Int32 → Int32 → sh_H → Option Int32) (l1 : Int32) (l2 : Int32) (l3 : Int32) (l5 : Int32) (s0 : Int32) (s1 : Int32) (h : sh_H) : Option Int32 := k6 l1 l2 l3 (s0 + s1) (l5 + (1 : Int32)) h
theorem x_M_offBy_b98 (N : Nat) {d : Nat} (hd : 1 ≤ d) (h : sh_H) {Q : ai_Q} {R : Int32 → Prop} (hR : ∀ r, R r → Q (some (aI r)) (sh_E h))  (k6 : Int32 → Int32 → Int32 → Int32 → Int32 → sh_H → Option Int32) (hk6 : ∀ (l1 : Int32) (l2 : Int32) (l3 : Int32) (l4 : Int32) (l5 : Int32) {d6 : Option ai_V}, sh_ok (k6 l1 l2 l3 l4 l5 h) R → wq_326 d Q 6 [oR 12 0, oI l1, oI l2, oI l3, oI l4, oI l5, d6] [] (sh_E h)) (l1 : Int32) (l2 : Int32) (l3 : Int32) (l5 : Int32) (s0 : Int32) (s1 : Int32) {d4 d6 : Option ai_V} (H : sh_ok (f_M_offBy_b98 N k6 l1 l2 l3 l5 s0 s1 h) R) : wq_326 d Q 98 [oR 12 0, oI l1, oI l2, oI l3, d4, oI l5, d6] [aI s1, aI s0] (sh_E h) := by
  refine ai_WP_steps mc_326 (sh_CM d) 4 ?_
  exact hk6 l1 l2 l3 (s0 + s1) (l5 + (1 : Int32)) H
def f_M_offBy_b61 (N : Nat)  (k6 : Int32 → Int32 → Int32 → Int32 → Int32 → sh_H → Option Int32) (l1 : Int32) (l2 : Int32) (l3 : Int32) (l4 : Int32) (l5 : Int32) (l6 : Int32) (h : sh_H) : Option Int32 := (if ai_in l5 6 then (if (h.1 13 59 l5.toNatClampNeg) < l6 then (if ai_in l5 6 then f_M_offBy_b98 N k6 l1 l2 l3 l5 l4 (l6 - (h.1 13 59 l5.toNatClampNeg)) h else none) else (if ai_in l5 6 then f_M_offBy_b98 N k6 l1 l2 l3 l5 l4 ((h.1 13 59 l5.toNatClampNeg) - l6) h else none)) else none)
theorem x_M_offBy_b61 (N : Nat) {d : Nat} (hd : 1 ≤ d) (h : sh_H) {Q : ai_Q} {R : Int32 → Prop} (hR : ∀ r, R r → Q (some (aI r)) (sh_E h))  (k6 : Int32 → Int32 → Int32 → Int32 → Int32 → sh_H → Option Int32) (hk6 : ∀ (l1 : Int32) (l2 : Int32) (l3 : Int32) (l4 : Int32) (l5 : Int32) {d6 : Option ai_V}, sh_ok (k6 l1 l2 l3 l4 l5 h) R → wq_326 d Q 6 [oR 12 0, oI l1, oI l2, oI l3, oI l4, oI l5, d6] [] (sh_E h)) (l1 : Int32) (l2 : Int32) (l3 : Int32) (l4 : Int32) (l5 : Int32) (l6 : Int32) (H : sh_ok (f_M_offBy_b61 N k6 l1 l2 l3 l4 l5 l6 h) R) : wq_326 d Q 61 [oR 12 0, oI l1, oI l2, oI l3, oI l4, oI l5, oI l6] [] (sh_E h) := by
  have c := sh_okG H
  replace H := sh_okH H
  refine ai_WP_steps mc_326 (sh_CM d) 6 (And.intro c ?_)
  show wq_326 d Q 72 [oR 12 0, oI l1, oI l2, oI l3, oI l4, oI l5, oI l6] [aI (h.1 13 59 l5.toNatClampNeg), aI l6, aI l4] (sh_E h)
  refine ai_WP_steps mc_326 (sh_CM d) 1 (And.intro (fun c => ?_) (fun c => ?_))
  · replace H := sh_okT c H
    show wq_326 d Q 75 [oR 12 0, oI l1, oI l2, oI l3, oI l4, oI l5, oI l6] [aI l4] (sh_E h)
    have c := sh_okG H
    replace H := sh_okH H
    refine ai_WP_steps mc_326 (sh_CM d) 5 (And.intro c ?_)
    show wq_326 d Q 84 [oR 12 0, oI l1, oI l2, oI l3, oI l4, oI l5, oI l6] [aI (h.1 13 59 l5.toNatClampNeg), aI l6, aI l4] (sh_E h)
    refine ai_WP_steps mc_326 (sh_CM d) 2 ?_
    exact x_M_offBy_b98 N hd h hR k6 hk6 l1 l2 l3 l5 l4 (l6 - (h.1 13 59 l5.toNatClampNeg)) H
  · replace H := sh_okF c H
    show wq_326 d Q 88 [oR 12 0, oI l1, oI l2, oI l3, oI l4, oI l5, oI l6] [aI l4] (sh_E h)
    have c := sh_okG H
    replace H := sh_okH H
    refine ai_WP_steps mc_326 (sh_CM d) 4 (And.intro c ?_)
    show wq_326 d Q 95 [oR 12 0, oI l1, oI l2, oI l3, oI l4, oI l5, oI l6] [aI (h.1 13 59 l5.toNatClampNeg), aI l4] (sh_E h)
    refine ai_WP_steps mc_326 (sh_CM d) 2 ?_
    exact x_M_offBy_b98 N hd h hR k6 hk6 l1 l2 l3 l5 l4 ((h.1 13 59 l5.toNatClampNeg) - l6) H
def f_M_offBy_c6 (N : Nat)   (k6 : Int32 → Int32 → Int32 → Int32 → Int32 → sh_H → Option Int32) (l1 : Int32) (l2 : Int32) (l3 : Int32) (l4 : Int32) (l5 : Int32) (h : sh_H) : Option Int32 := (if ai_in (0 : Int32) 8000 then (if l5 < (h.1 13 46 (0 : Int32).toNatClampNeg) then (if ai_in l5 6 then (if ai_in l5 6 then (if ¬ (10 : Int32) = 0 then (Option.bind (f_M_worth l5 h) (fun v1 => (if v1 < l3 then (if ¬ (10 : Int32) = 0 then f_M_offBy_b61 N k6 l1 l2 l3 l4 l5 (((h.1 13 58 l5.toNatClampNeg) - (((h.1 13 58 l5.toNatClampNeg) * l2) / (10 : Int32))) - ((((h.1 13 58 l5.toNatClampNeg) - (((h.1 13 58 l5.toNatClampNeg) * l2) / (10 : Int32))) * l1) / (10 : Int32))) h else none) else f_M_offBy_b61 N k6 l1 l2 l3 l4 l5 ((h.1 13 58 l5.toNatClampNeg) - (((h.1 13 58 l5.toNatClampNeg) * l2) / (10 : Int32))) h))) else none) else none) else none) else (some l4)) else none)
def f_M_offBy_l6 (N : Nat)   (n : Nat) : Int32 → Int32 → Int32 → Int32 → Int32 → sh_H → Option Int32 := Nat.rec (motive := fun _ => Int32 → Int32 → Int32 → Int32 → Int32 → sh_H → Option Int32) (fun _ _ _ _ _ _ => none) (fun _ k6 => f_M_offBy_c6 N k6) n
theorem x_M_offBy_l6 (N : Nat) {d : Nat} (hd : 1 ≤ d) (h : sh_H) {Q : ai_Q} {R : Int32 → Prop} (hR : ∀ r, R r → Q (some (aI r)) (sh_E h))   (n : Nat) : ∀ (l1 : Int32) (l2 : Int32) (l3 : Int32) (l4 : Int32) (l5 : Int32) {d6 : Option ai_V}, sh_ok (f_M_offBy_l6 N n l1 l2 l3 l4 l5 h) R → wq_326 d Q 6 [oR 12 0, oI l1, oI l2, oI l3, oI l4, oI l5, d6] [] (sh_E h) := by
  induction n with
  | zero => intro l1 l2 l3 l4 l5 d6 H; exact H.elim
  | succ n ih =>
    intro l1 l2 l3 l4 l5 d6 H
    have hk6 := @ih
    replace H : sh_ok (f_M_offBy_c6 N (f_M_offBy_l6 N n) l1 l2 l3 l4 l5 h) R := H
    revert hk6 H
    generalize f_M_offBy_l6 N n = k6
    intro hk6 H
    have c := sh_okG H
    replace H := sh_okH H
    refine ai_WP_steps mc_326 (sh_CM d) 5 (And.intro c ?_)
    show wq_326 d Q 14 [oR 12 0, oI l1, oI l2, oI l3, oI l4, oI l5, _] [aI (h.1 13 46 (0 : Int32).toNatClampNeg), aI l5] (sh_E h)
    refine ai_WP_steps mc_326 (sh_CM d) 1 (And.intro (fun c => ?_) (fun c => ?_))
    · replace H := sh_okT c H
      show wq_326 d Q 17 [oR 12 0, oI l1, oI l2, oI l3, oI l4, oI l5, _] [] (sh_E h)
      have c := sh_okG H
      replace H := sh_okH H
      refine ai_WP_steps mc_326 (sh_CM d) 4 (And.intro c ?_)
      show wq_326 d Q 24 [oR 12 0, oI l1, oI l2, oI l3, oI l4, oI l5, _] [aI (h.1 13 58 l5.toNatClampNeg)] (sh_E h)
      have c := sh_okG H
      replace H := sh_okH H
      refine ai_WP_steps mc_326 (sh_CM d) 4 (And.intro c ?_)
      show wq_326 d Q 31 [oR 12 0, oI l1, oI l2, oI l3, oI l4, oI l5, _] [aI (h.1 13 58 l5.toNatClampNeg), aI (h.1 13 58 l5.toNatClampNeg)] (sh_E h)
      have c := sh_okG H
      replace H := sh_okH H
      refine ai_WP_steps mc_326 (sh_CM d) 4 (And.intro c ?_)
      show wq_326 d Q 36 [oR 12 0, oI l1, oI l2, oI l3, oI l4, oI l5, _] [aI (((h.1 13 58 l5.toNatClampNeg) * l2) / (10 : Int32)), aI (h.1 13 58 l5.toNatClampNeg)] (sh_E h)
      refine ai_WP_steps mc_326 (sh_CM d) 5 (And.intro (Nat.le_of_ble_eq_true rfl) (x_M_worth (Nat.le_trans (Nat.le_of_ble_eq_true rfl) hd) l5 h (sh_okB H) (fun v1 H => ?_)))
      show wq_326 d Q 45 [oR 12 0, oI l1, oI l2, oI l3, oI l4, oI l5, oI ((h.1 13 58 l5.toNatClampNeg) - (((h.1 13 58 l5.toNatClampNeg) * l2) / (10 : Int32)))] [aI v1] (sh_E h)
      refine ai_WP_steps mc_326 (sh_CM d) 2 (And.intro (fun c => ?_) (fun c => ?_))
      · replace H := sh_okT c H
        show wq_326 d Q 49 [oR 12 0, oI l1, oI l2, oI l3, oI l4, oI l5, oI ((h.1 13 58 l5.toNatClampNeg) - (((h.1 13 58 l5.toNatClampNeg) * l2) / (10 : Int32)))] [] (sh_E h)
        have c := sh_okG H
        replace H := sh_okH H
        refine ai_WP_steps mc_326 (sh_CM d) 6 (And.intro c ?_)
        show wq_326 d Q 58 [oR 12 0, oI l1, oI l2, oI l3, oI l4, oI l5, oI ((h.1 13 58 l5.toNatClampNeg) - (((h.1 13 58 l5.toNatClampNeg) * l2) / (10 : Int32)))] [aI ((((h.1 13 58 l5.toNatClampNeg) - (((h.1 13 58 l5.toNatClampNeg) * l2) / (10 : Int32))) * l1) / (10 : Int32)), aI ((h.1 13 58 l5.toNatClampNeg) - (((h.1 13 58 l5.toNatClampNeg) * l2) / (10 : Int32)))] (sh_E h)
        refine ai_WP_steps mc_326 (sh_CM d) 2 ?_
        exact x_M_offBy_b61 N hd h hR k6 hk6 l1 l2 l3 l4 l5 (((h.1 13 58 l5.toNatClampNeg) - (((h.1 13 58 l5.toNatClampNeg) * l2) / (10 : Int32))) - ((((h.1 13 58 l5.toNatClampNeg) - (((h.1 13 58 l5.toNatClampNeg) * l2) / (10 : Int32))) * l1) / (10 : Int32))) H
      · replace H := sh_okF c H
        exact x_M_offBy_b61 N hd h hR k6 hk6 l1 l2 l3 l4 l5 ((h.1 13 58 l5.toNatClampNeg) - (((h.1 13 58 l5.toNatClampNeg) * l2) / (10 : Int32))) H
    · replace H := sh_okF c H
      show wq_326 d Q 107 [oR 12 0, oI l1, oI l2, oI l3, oI l4, oI l5, _] [] (sh_E h)
      exact ai_WP_steps mc_326 (sh_CM d) 2 (hR l4 H)
def f_M_offBy (N : Nat)  (l1 : Int32) (l2 : Int32) (l3 : Int32) (h : sh_H) : Option Int32 := f_M_offBy_l6 N N l1 l2 l3 (0 : Int32) (0 : Int32) h
theorem x_M_offBy (N : Nat) {d : Nat} (hd : 2 ≤ d) (l1 : Int32) (l2 : Int32) (l3 : Int32) (h : sh_H) {Q : ai_Q} {R : Int32 → Prop} (H : sh_ok (f_M_offBy N l1 l2 l3 h) R) (hR : ∀ r, R r → Q (some (aI r)) (sh_E h)) : ai_Ex sh_T d 326 [aR 12 0, aI l1, aI l2, aI l3] (sh_E h) Q := by
  obtain ⟨d, rfl⟩ : ∃ e, d = e + 1 := ⟨d - 1, by omega⟩
  replace hd : 1 ≤ d := by omega
  refine And.intro (Nat.le_of_ble_eq_true rfl) ?_
  show wq_326 d Q 0 [oR 12 0, oI l1, oI l2, oI l3, none, none, none] [] (sh_E h)
  refine ai_WP_steps mc_326 (sh_CM d) 4 ?_
  exact x_M_offBy_l6 N hd h hR N l1 l2 l3 (0 : Int32) (0 : Int32) H
def f_M_isJars_b31    (h : sh_H) : Option Int32 := (some (ai_nar 1 (0 : Int32)))
theorem x_M_isJars_b31 {d : Nat} (hd : 1 ≤ d) (h : sh_H) {Q : ai_Q} {R : Int32 → Prop} (hR : ∀ r, R r → Q (some (aI r)) (sh_E h))    {d0 d1 d2 d3 : Option ai_V} (H : sh_ok (f_M_isJars_b31 h) R) : wq_327 d Q 31 [d0, d1, d2, d3] [] (sh_E h) := by
  exact ai_WP_steps mc_327 (sh_CM d) 2 (hR (ai_nar 1 (0 : Int32)) H)
def f_M_isJars  (l1 : Int32) (l2 : Int32) (l3 : Int32) (h : sh_H) : Option Int32 := (Option.bind (f_M_isIsland l1 h) (fun v1 => (if v1 = 0 then f_M_isJars_b31 h else (Option.bind (f_M_isKnown l2 h) (fun v2 => (if v2 = 0 then f_M_isJars_b31 h else (Option.bind (f_M_isIn l3 (1 : Int32) (501 : Int32) h) (fun v3 => (if v3 = 0 then f_M_isJars_b31 h else (some (ai_nar 1 (1 : Int32))))))))))))
theorem x_M_isJars {d : Nat} (hd : 2 ≤ d) (l1 : Int32) (l2 : Int32) (l3 : Int32) (h : sh_H) {Q : ai_Q} {R : Int32 → Prop} (H : sh_ok (f_M_isJars l1 l2 l3 h) R) (hR : ∀ r, R r → Q (some (aI r)) (sh_E h)) : ai_Ex sh_T d 327 [aR 12 0, aI l1, aI l2, aI l3] (sh_E h) Q := by
  obtain ⟨d, rfl⟩ : ∃ e, d = e + 1 := ⟨d - 1, by omega⟩
  replace hd : 1 ≤ d := by omega
  refine And.intro (Nat.le_of_ble_eq_true rfl) ?_
  show wq_327 d Q 0 [oR 12 0, oI l1, oI l2, oI l3] [] (sh_E h)
  refine ai_WP_steps mc_327 (sh_CM d) 3 (And.intro (Nat.le_of_ble_eq_true rfl) (x_M_isIsland (Nat.le_trans (Nat.le_of_ble_eq_true rfl) hd) l1 h (sh_okB H) (fun v1 H => ?_)))
  show wq_327 d Q 5 [oR 12 0, oI l1, oI l2, oI l3] [aI v1] (sh_E h)
  refine ai_WP_steps mc_327 (sh_CM d) 1 (And.intro (fun c => ?_) (fun c => ?_))
  · replace H := sh_okT c H
    exact x_M_isJars_b31 hd h hR H
  · replace H := sh_okF c H
    show wq_327 d Q 8 [oR 12 0, oI l1, oI l2, oI l3] [] (sh_E h)
    refine ai_WP_steps mc_327 (sh_CM d) 3 (And.intro (Nat.le_of_ble_eq_true rfl) (x_M_isKnown (Nat.le_trans (Nat.le_of_ble_eq_true rfl) hd) l2 h (sh_okB H) (fun v2 H => ?_)))
    show wq_327 d Q 13 [oR 12 0, oI l1, oI l2, oI l3] [aI v2] (sh_E h)
    refine ai_WP_steps mc_327 (sh_CM d) 1 (And.intro (fun c => ?_) (fun c => ?_))
    · replace H := sh_okT c H
      exact x_M_isJars_b31 hd h hR H
    · replace H := sh_okF c H
      show wq_327 d Q 16 [oR 12 0, oI l1, oI l2, oI l3] [] (sh_E h)
      refine ai_WP_steps mc_327 (sh_CM d) 4 (And.intro (Nat.le_of_ble_eq_true rfl) (x_M_isIn (Nat.le_trans (Nat.le_of_ble_eq_true rfl) hd) l3 (1 : Int32) (501 : Int32) h (sh_okB H) (fun v3 H => ?_)))
      show wq_327 d Q 24 [oR 12 0, oI l1, oI l2, oI l3] [aI v3] (sh_E h)
      refine ai_WP_steps mc_327 (sh_CM d) 1 (And.intro (fun c => ?_) (fun c => ?_))
      · replace H := sh_okT c H
        exact x_M_isJars_b31 hd h hR H
      · replace H := sh_okF c H
        show wq_327 d Q 27 [oR 12 0, oI l1, oI l2, oI l3] [] (sh_E h)
        exact ai_WP_steps mc_327 (sh_CM d) 3 (hR (ai_nar 1 (1 : Int32)) H)
def f_M_jars_b95 (N : Nat)  (k50 : Int32 → Int32 → Int32 → Int32 → Int32 → Int32 → Int32 → sh_H → Option (Int32 × sh_H)) (l3 : Int32) (l4 : Int32) (l5 : Int32) (l6 : Int32) (l7 : Int32) (l8 : Int32) (l9 : Int32) (h : sh_H) : Option (Int32 × sh_H) := k50 l3 l4 l5 l6 l7 l8 (l9 + (1 : Int32)) h
theorem x_M_jars_b95 (N : Nat) {d : Nat} (hd : 3 ≤ d) {Q : ai_Q} {R : Int32 × sh_H → Prop} (hR : ∀ r h, R (r, h) → Q (some (aI r)) (sh_E h))  (k50 : Int32 → Int32 → Int32 → Int32 → Int32 → Int32 → Int32 → sh_H → Option (Int32 × sh_H)) (hk50 : ∀ (l3 : Int32) (l4 : Int32) (l5 : Int32) (l6 : Int32) (l7 : Int32) (l8 : Int32) (l9 : Int32) {d1 d2 d10 : Option ai_V} (h : sh_H), sh_ok (k50 l3 l4 l5 l6 l7 l8 l9 h) R → wq_328 d Q 50 [oR 12 0, d1, d2, oI l3, oI l4, oI l5, oI l6, oI l7, oI l8, oI l9, d10] [] (sh_E h)) (l3 : Int32) (l4 : Int32) (l5 : Int32) (l6 : Int32) (l7 : Int32) (l8 : Int32) (l9 : Int32) {d1 d2 d10 : Option ai_V} (h : sh_H) (H : sh_ok (f_M_jars_b95 N k50 l3 l4 l5 l6 l7 l8 l9 h) R) : wq_328 d Q 95 [oR 12 0, d1, d2, oI l3, oI l4, oI l5, oI l6, oI l7, oI l8, oI l9, d10] [] (sh_E h) := by
  refine ai_WP_steps mc_328 (sh_CM d) 2 ?_
  exact hk50 l3 l4 l5 l6 l7 l8 (l9 + (1 : Int32)) h H
def f_M_jars_b83 (N : Nat)  (k50 : Int32 → Int32 → Int32 → Int32 → Int32 → Int32 → Int32 → sh_H → Option (Int32 × sh_H)) (l3 : Int32) (l4 : Int32) (l8 : Int32) (l9 : Int32) (l10 : Int32) (h : sh_H) : Option (Int32 × sh_H) := f_M_jars_b95 N k50 l3 l4 l8 l9 l10 l8 l9 h
theorem x_M_jars_b83 (N : Nat) {d : Nat} (hd : 3 ≤ d) {Q : ai_Q} {R : Int32 × sh_H → Prop} (hR : ∀ r h, R (r, h) → Q (some (aI r)) (sh_E h))  (k50 : Int32 → Int32 → Int32 → Int32 → Int32 → Int32 → Int32 → sh_H → Option (Int32 × sh_H)) (hk50 : ∀ (l3 : Int32) (l4 : Int32) (l5 : Int32) (l6 : Int32) (l7 : Int32) (l8 : Int32) (l9 : Int32) {d1 d2 d10 : Option ai_V} (h : sh_H), sh_ok (k50 l3 l4 l5 l6 l7 l8 l9 h) R → wq_328 d Q 50 [oR 12 0, d1, d2, oI l3, oI l4, oI l5, oI l6, oI l7, oI l8, oI l9, d10] [] (sh_E h)) (l3 : Int32) (l4 : Int32) (l8 : Int32) (l9 : Int32) (l10 : Int32) {d1 d2 d5 d6 d7 : Option ai_V} (h : sh_H) (H : sh_ok (f_M_jars_b83 N k50 l3 l4 l8 l9 l10 h) R) : wq_328 d Q 83 [oR 12 0, d1, d2, oI l3, oI l4, d5, d6, d7, oI l8, oI l9, oI l10] [] (sh_E h) := by
  refine ai_WP_steps mc_328 (sh_CM d) 6 ?_
  exact x_M_jars_b95 N hd hR k50 hk50 l3 l4 l8 l9 l10 l8 l9 h H
def f_M_jars_c50 (N : Nat)  (k101 : Int32 → Int32 → Int32 → Int32 → Int32 → Int32 → sh_H → Option (Int32 × sh_H)) (k50 : Int32 → Int32 → Int32 → Int32 → Int32 → Int32 → Int32 → sh_H → Option (Int32 × sh_H)) (l3 : Int32) (l4 : Int32) (l5 : Int32) (l6 : Int32) (l7 : Int32) (l8 : Int32) (l9 : Int32) (h : sh_H) : Option (Int32 × sh_H) := (if l9 < (11 : Int32) then (Option.bind (f_M_offBy N l8 l9 l3 h) (fun v1 => (if l7 < 0 then f_M_jars_b83 N k50 l3 l4 l8 l9 v1 h else (if v1 < l7 then f_M_jars_b83 N k50 l3 l4 l8 l9 v1 h else f_M_jars_b95 N k50 l3 l4 l5 l6 l7 l8 l9 h)))) else k101 l3 l4 l5 l6 l7 l8 h)
def f_M_jars_l50 (N : Nat)  (k101 : Int32 → Int32 → Int32 → Int32 → Int32 → Int32 → sh_H → Option (Int32 × sh_H)) (n : Nat) : Int32 → Int32 → Int32 → Int32 → Int32 → Int32 → Int32 → sh_H → Option (Int32 × sh_H) := Nat.rec (motive := fun _ => Int32 → Int32 → Int32 → Int32 → Int32 → Int32 → Int32 → sh_H → Option (Int32 × sh_H)) (fun _ _ _ _ _ _ _ _ => none) (fun _ k50 => f_M_jars_c50 N k101 k50) n
theorem x_M_jars_l50 (N : Nat) {d : Nat} (hd : 3 ≤ d) {Q : ai_Q} {R : Int32 × sh_H → Prop} (hR : ∀ r h, R (r, h) → Q (some (aI r)) (sh_E h))  (k101 : Int32 → Int32 → Int32 → Int32 → Int32 → Int32 → sh_H → Option (Int32 × sh_H)) (hk101 : ∀ (l3 : Int32) (l4 : Int32) (l5 : Int32) (l6 : Int32) (l7 : Int32) (l8 : Int32) {d1 d2 d9 d10 : Option ai_V} (h : sh_H), sh_ok (k101 l3 l4 l5 l6 l7 l8 h) R → wq_328 d Q 101 [oR 12 0, d1, d2, oI l3, oI l4, oI l5, oI l6, oI l7, oI l8, d9, d10] [] (sh_E h)) (n : Nat) : ∀ (l3 : Int32) (l4 : Int32) (l5 : Int32) (l6 : Int32) (l7 : Int32) (l8 : Int32) (l9 : Int32) {d1 d2 d10 : Option ai_V} (h : sh_H), sh_ok (f_M_jars_l50 N k101 n l3 l4 l5 l6 l7 l8 l9 h) R → wq_328 d Q 50 [oR 12 0, d1, d2, oI l3, oI l4, oI l5, oI l6, oI l7, oI l8, oI l9, d10] [] (sh_E h) := by
  induction n with
  | zero => intro l3 l4 l5 l6 l7 l8 l9 d1 d2 d10 h H; exact H.elim
  | succ n ih =>
    intro l3 l4 l5 l6 l7 l8 l9 d1 d2 d10 h H
    have hk50 := @ih
    replace H : sh_ok (f_M_jars_c50 N k101 (f_M_jars_l50 N k101 n) l3 l4 l5 l6 l7 l8 l9 h) R := H
    revert hk50 H
    generalize f_M_jars_l50 N k101 n = k50
    intro hk50 H
    refine ai_WP_steps mc_328 (sh_CM d) 3 (And.intro (fun c => ?_) (fun c => ?_))
    · replace H := sh_okT c H
      show wq_328 d Q 57 [oR 12 0, _, _, oI l3, oI l4, oI l5, oI l6, oI l7, oI l8, oI l9, _] [] (sh_E h)
      refine ai_WP_steps mc_328 (sh_CM d) 5 (And.intro (Nat.le_of_ble_eq_true rfl) (x_M_offBy N (Nat.le_trans (Nat.le_of_ble_eq_true rfl) hd) l8 l9 l3 h (sh_okB H) (fun v1 H => ?_)))
      show wq_328 d Q 66 [oR 12 0, _, _, oI l3, oI l4, oI l5, oI l6, oI l7, oI l8, oI l9, _] [aI v1] (sh_E h)
      refine ai_WP_steps mc_328 (sh_CM d) 3 (And.intro (fun c => ?_) (fun c => ?_))
      · replace H := sh_okT c H
        exact x_M_jars_b83 N hd hR k50 hk50 l3 l4 l8 l9 v1 h H
      · replace H := sh_okF c H
        show wq_328 d Q 73 [oR 12 0, _, _, oI l3, oI l4, oI l5, oI l6, oI l7, oI l8, oI l9, oI v1] [] (sh_E h)
        refine ai_WP_steps mc_328 (sh_CM d) 3 (And.intro (fun c => ?_) (fun c => ?_))
        · replace H := sh_okT c H
          exact x_M_jars_b83 N hd hR k50 hk50 l3 l4 l8 l9 v1 h H
        · replace H := sh_okF c H
          show wq_328 d Q 80 [oR 12 0, _, _, oI l3, oI l4, oI l5, oI l6, oI l7, oI l8, oI l9, oI v1] [] (sh_E h)
          refine ai_WP_steps mc_328 (sh_CM d) 1 ?_
          exact x_M_jars_b95 N hd hR k50 hk50 l3 l4 l5 l6 l7 l8 l9 h H
    · replace H := sh_okF c H
      exact hk101 l3 l4 l5 l6 l7 l8 h H
def f_M_jars_b101 (N : Nat)  (k40 : Int32 → Int32 → Int32 → Int32 → Int32 → Int32 → sh_H → Option (Int32 × sh_H)) (l3 : Int32) (l4 : Int32) (l5 : Int32) (l6 : Int32) (l7 : Int32) (l8 : Int32) (h : sh_H) : Option (Int32 × sh_H) := k40 l3 l4 l5 l6 l7 (l8 + (1 : Int32)) h
theorem x_M_jars_b101 (N : Nat) {d : Nat} (hd : 3 ≤ d) {Q : ai_Q} {R : Int32 × sh_H → Prop} (hR : ∀ r h, R (r, h) → Q (some (aI r)) (sh_E h))  (k40 : Int32 → Int32 → Int32 → Int32 → Int32 → Int32 → sh_H → Option (Int32 × sh_H)) (hk40 : ∀ (l3 : Int32) (l4 : Int32) (l5 : Int32) (l6 : Int32) (l7 : Int32) (l8 : Int32) {d1 d2 d9 d10 : Option ai_V} (h : sh_H), sh_ok (k40 l3 l4 l5 l6 l7 l8 h) R → wq_328 d Q 40 [oR 12 0, d1, d2, oI l3, oI l4, oI l5, oI l6, oI l7, oI l8, d9, d10] [] (sh_E h)) (l3 : Int32) (l4 : Int32) (l5 : Int32) (l6 : Int32) (l7 : Int32) (l8 : Int32) {d1 d2 d9 d10 : Option ai_V} (h : sh_H) (H : sh_ok (f_M_jars_b101 N k40 l3 l4 l5 l6 l7 l8 h) R) : wq_328 d Q 101 [oR 12 0, d1, d2, oI l3, oI l4, oI l5, oI l6, oI l7, oI l8, d9, d10] [] (sh_E h) := by
  refine ai_WP_steps mc_328 (sh_CM d) 2 ?_
  exact hk40 l3 l4 l5 l6 l7 (l8 + (1 : Int32)) h H
def f_M_jars_c40 (N : Nat)  (k107 : Int32 → Int32 → Int32 → Int32 → sh_H → Option (Int32 × sh_H)) (k40 : Int32 → Int32 → Int32 → Int32 → Int32 → Int32 → sh_H → Option (Int32 × sh_H)) (l3 : Int32) (l4 : Int32) (l5 : Int32) (l6 : Int32) (l7 : Int32) (l8 : Int32) (h : sh_H) : Option (Int32 × sh_H) := (if l8 < (11 : Int32) then f_M_jars_l50 N (f_M_jars_b101 N k40) N l3 l4 l5 l6 l7 l8 (0 : Int32) h else k107 l4 l5 l6 l7 h)
def f_M_jars_l40 (N : Nat)  (k107 : Int32 → Int32 → Int32 → Int32 → sh_H → Option (Int32 × sh_H)) (n : Nat) : Int32 → Int32 → Int32 → Int32 → Int32 → Int32 → sh_H → Option (Int32 × sh_H) := Nat.rec (motive := fun _ => Int32 → Int32 → Int32 → Int32 → Int32 → Int32 → sh_H → Option (Int32 × sh_H)) (fun _ _ _ _ _ _ _ => none) (fun _ k40 => f_M_jars_c40 N k107 k40) n
theorem x_M_jars_l40 (N : Nat) {d : Nat} (hd : 3 ≤ d) {Q : ai_Q} {R : Int32 × sh_H → Prop} (hR : ∀ r h, R (r, h) → Q (some (aI r)) (sh_E h))  (k107 : Int32 → Int32 → Int32 → Int32 → sh_H → Option (Int32 × sh_H)) (hk107 : ∀ (l4 : Int32) (l5 : Int32) (l6 : Int32) (l7 : Int32) {d0 d1 d2 d3 d8 d9 d10 : Option ai_V} (h : sh_H), sh_ok (k107 l4 l5 l6 l7 h) R → wq_328 d Q 107 [d0, d1, d2, d3, oI l4, oI l5, oI l6, oI l7, d8, d9, d10] [] (sh_E h)) (n : Nat) : ∀ (l3 : Int32) (l4 : Int32) (l5 : Int32) (l6 : Int32) (l7 : Int32) (l8 : Int32) {d1 d2 d9 d10 : Option ai_V} (h : sh_H), sh_ok (f_M_jars_l40 N k107 n l3 l4 l5 l6 l7 l8 h) R → wq_328 d Q 40 [oR 12 0, d1, d2, oI l3, oI l4, oI l5, oI l6, oI l7, oI l8, d9, d10] [] (sh_E h) := by
  induction n with
  | zero => intro l3 l4 l5 l6 l7 l8 d1 d2 d9 d10 h H; exact H.elim
  | succ n ih =>
    intro l3 l4 l5 l6 l7 l8 d1 d2 d9 d10 h H
    have hk40 := @ih
    replace H : sh_ok (f_M_jars_c40 N k107 (f_M_jars_l40 N k107 n) l3 l4 l5 l6 l7 l8 h) R := H
    revert hk40 H
    generalize f_M_jars_l40 N k107 n = k40
    intro hk40 H
    refine ai_WP_steps mc_328 (sh_CM d) 3 (And.intro (fun c => ?_) (fun c => ?_))
    · replace H := sh_okT c H
      show wq_328 d Q 47 [oR 12 0, _, _, oI l3, oI l4, oI l5, oI l6, oI l7, oI l8, _, _] [] (sh_E h)
      refine ai_WP_steps mc_328 (sh_CM d) 2 ?_
      exact x_M_jars_l50 N hd hR (f_M_jars_b101 N k40) (fun z0 z1 z2 z3 z4 z5 {e1} {e2} {e9} {e10} h H => x_M_jars_b101 N hd hR k40 hk40 z0 z1 z2 z3 z4 z5 h H) N l3 l4 l5 l6 l7 l8 (0 : Int32) h H
    · replace H := sh_okF c H
      exact hk107 l4 l5 l6 l7 h H
def f_M_jars_b107 (N : Nat)   (l4 : Int32) (l5 : Int32) (l6 : Int32) (l7 : Int32) (h : sh_H) : Option (Int32 × sh_H) := (if l4 = 0 then (some (l5, h)) else (if l4 = (1 : Int32) then (some (l6, h)) else (some (l7, h))))
theorem x_M_jars_b107 (N : Nat) {d : Nat} (hd : 3 ≤ d) {Q : ai_Q} {R : Int32 × sh_H → Prop} (hR : ∀ r h, R (r, h) → Q (some (aI r)) (sh_E h))   (l4 : Int32) (l5 : Int32) (l6 : Int32) (l7 : Int32) {d0 d1 d2 d3 d8 d9 d10 : Option ai_V} (h : sh_H) (H : sh_ok (f_M_jars_b107 N l4 l5 l6 l7 h) R) : wq_328 d Q 107 [d0, d1, d2, d3, oI l4, oI l5, oI l6, oI l7, d8, d9, d10] [] (sh_E h) := by
  refine ai_WP_steps mc_328 (sh_CM d) 2 (And.intro (fun c => ?_) (fun c => ?_))
  · replace H := sh_okT c H
    show wq_328 d Q 112 [_, _, _, _, oI l4, oI l5, oI l6, oI l7, _, _, _] [] (sh_E h)
    exact ai_WP_steps mc_328 (sh_CM d) 3 (hR l5 h H)
  · replace H := sh_okF c H
    show wq_328 d Q 117 [_, _, _, _, oI l4, oI l5, oI l6, oI l7, _, _, _] [] (sh_E h)
    refine ai_WP_steps mc_328 (sh_CM d) 3 (And.intro (fun c => ?_) (fun c => ?_))
    · replace H := sh_okT c H
      show wq_328 d Q 123 [_, _, _, _, oI l4, oI l5, oI l6, oI l7, _, _, _] [] (sh_E h)
      exact ai_WP_steps mc_328 (sh_CM d) 3 (hR l6 h H)
    · replace H := sh_okF c H
      show wq_328 d Q 128 [_, _, _, _, oI l4, oI l5, oI l6, oI l7, _, _, _] [] (sh_E h)
      exact ai_WP_steps mc_328 (sh_CM d) 2 (hR l7 h H)
def f_M_jars (N : Nat)  (l1 : Int32) (l2 : Int32) (l3 : Int32) (l4 : Int32) (h : sh_H) : Option (Int32 × sh_H) := (Option.bind (f_M_isJars l1 l2 l3 h) (fun v2 => (if v2 = 0 then (some ((-1 : Int32), h)) else (Option.bind (f_M_isIn l4 (0 : Int32) (2 : Int32) h) (fun v3 => (if v3 = 0 then (some ((-1 : Int32), h)) else (Option.bind (f_M_layBooks N l1 l2 h) (fun h4 => f_M_jars_l40 N (f_M_jars_b107 N) N l3 l4 (0 : Int32) (0 : Int32) (-1 : Int32) (0 : Int32) h4))))))))
theorem x_M_jars (N : Nat) {d : Nat} (hd : 4 ≤ d) (l1 : Int32) (l2 : Int32) (l3 : Int32) (l4 : Int32) (h : sh_H) {Q : ai_Q} {R : Int32 × sh_H → Prop} (H : sh_ok (f_M_jars N l1 l2 l3 l4 h) R) (hR : ∀ r h, R (r, h) → Q (some (aI r)) (sh_E h)) : ai_Ex sh_T d 328 [aR 12 0, aI l1, aI l2, aI l3, aI l4] (sh_E h) Q := by
  obtain ⟨d, rfl⟩ : ∃ e, d = e + 1 := ⟨d - 1, by omega⟩
  replace hd : 3 ≤ d := by omega
  refine And.intro (Nat.le_of_ble_eq_true rfl) ?_
  show wq_328 d Q 0 [oR 12 0, oI l1, oI l2, oI l3, oI l4, none, none, none, none, none, none] [] (sh_E h)
  refine ai_WP_steps mc_328 (sh_CM d) 5 (And.intro (Nat.le_of_ble_eq_true rfl) (x_M_isJars (Nat.le_trans (Nat.le_of_ble_eq_true rfl) hd) l1 l2 l3 h (sh_okB H) (fun v2 H => ?_)))
  show wq_328 d Q 7 [oR 12 0, oI l1, oI l2, oI l3, oI l4, _, _, _, _, _, _] [aI v2] (sh_E h)
  refine ai_WP_steps mc_328 (sh_CM d) 1 (And.intro (fun c => ?_) (fun c => ?_))
  · replace H := sh_okT c H
    show wq_328 d Q 20 [oR 12 0, oI l1, oI l2, oI l3, oI l4, _, _, _, _, _, _] [] (sh_E h)
    exact ai_WP_steps mc_328 (sh_CM d) 2 (hR (-1 : Int32) h H)
  · replace H := sh_okF c H
    show wq_328 d Q 10 [oR 12 0, oI l1, oI l2, oI l3, oI l4, _, _, _, _, _, _] [] (sh_E h)
    refine ai_WP_steps mc_328 (sh_CM d) 4 (And.intro (Nat.le_of_ble_eq_true rfl) (x_M_isIn (Nat.le_trans (Nat.le_of_ble_eq_true rfl) hd) l4 (0 : Int32) (2 : Int32) h (sh_okB H) (fun v3 H => ?_)))
    show wq_328 d Q 17 [oR 12 0, oI l1, oI l2, oI l3, oI l4, _, _, _, _, _, _] [aI v3] (sh_E h)
    refine ai_WP_steps mc_328 (sh_CM d) 1 (And.intro (fun c => ?_) (fun c => ?_))
    · replace H := sh_okT c H
      show wq_328 d Q 20 [oR 12 0, oI l1, oI l2, oI l3, oI l4, _, _, _, _, _, _] [] (sh_E h)
      exact ai_WP_steps mc_328 (sh_CM d) 2 (hR (-1 : Int32) h H)
    · replace H := sh_okF c H
      show wq_328 d Q 22 [oR 12 0, oI l1, oI l2, oI l3, oI l4, _, _, _, _, _, _] [] (sh_E h)
      refine ai_WP_steps mc_328 (sh_CM d) 4 (And.intro (Nat.le_of_ble_eq_true rfl) (x_M_layBooks N (Nat.le_trans (Nat.le_of_ble_eq_true rfl) hd) l1 l2 h (sh_okB H) (fun h4 H => ?_)))
      show wq_328 d Q 28 [oR 12 0, oI l1, oI l2, oI l3, oI l4, _, _, _, _, _, _] [] (sh_E h4)
      refine ai_WP_steps mc_328 (sh_CM d) 8 ?_
      exact x_M_jars_l40 N hd hR (f_M_jars_b107 N) (fun z0 z1 z2 z3 {e0} {e1} {e2} {e3} {e8} {e9} {e10} h H => x_M_jars_b107 N hd hR z0 z1 z2 z3 h H) N l3 l4 (0 : Int32) (0 : Int32) (-1 : Int32) (0 : Int32) h4 H
def f_M_ends_b83 (N : Nat)  (k52 : Int32 → Int32 → Int32 → Int32 → Int32 → Int32 → Int32 → sh_H → Option (Int32 × sh_H)) (l3 : Int32) (l4 : Int32) (l5 : Int32) (l6 : Int32) (l7 : Int32) (l9 : Int32) (s0 : Int32) (h : sh_H) : Option (Int32 × sh_H) := k52 l3 l4 l5 l6 l7 s0 (l9 + (1 : Int32)) h
theorem x_M_ends_b83 (N : Nat) {d : Nat} (hd : 3 ≤ d) {Q : ai_Q} {R : Int32 × sh_H → Prop} (hR : ∀ r h, R (r, h) → Q (some (aI r)) (sh_E h))  (k52 : Int32 → Int32 → Int32 → Int32 → Int32 → Int32 → Int32 → sh_H → Option (Int32 × sh_H)) (hk52 : ∀ (l3 : Int32) (l4 : Int32) (l5 : Int32) (l6 : Int32) (l7 : Int32) (l8 : Int32) (l9 : Int32) {d1 d2 : Option ai_V} (h : sh_H), sh_ok (k52 l3 l4 l5 l6 l7 l8 l9 h) R → wq_329 d Q 52 [oR 12 0, d1, d2, oI l3, oI l4, oI l5, oI l6, oI l7, oI l8, oI l9] [] (sh_E h)) (l3 : Int32) (l4 : Int32) (l5 : Int32) (l6 : Int32) (l7 : Int32) (l9 : Int32) (s0 : Int32) {d1 d2 d8 : Option ai_V} (h : sh_H) (H : sh_ok (f_M_ends_b83 N k52 l3 l4 l5 l6 l7 l9 s0 h) R) : wq_329 d Q 83 [oR 12 0, d1, d2, oI l3, oI l4, oI l5, oI l6, oI l7, d8, oI l9] [aI s0] (sh_E h) := by
  refine ai_WP_steps mc_329 (sh_CM d) 3 ?_
  exact hk52 l3 l4 l5 l6 l7 s0 (l9 + (1 : Int32)) h H
def f_M_ends_c52 (N : Nat)  (k91 : Int32 → Int32 → Int32 → Int32 → Int32 → Int32 → sh_H → Option (Int32 × sh_H)) (k52 : Int32 → Int32 → Int32 → Int32 → Int32 → Int32 → Int32 → sh_H → Option (Int32 × sh_H)) (l3 : Int32) (l4 : Int32) (l5 : Int32) (l6 : Int32) (l7 : Int32) (l8 : Int32) (l9 : Int32) (h : sh_H) : Option (Int32 × sh_H) := (if l9 < (11 : Int32) then (if l8 = 0 then (Option.bind (f_M_offBy N l7 l9 l3 h) (fun v1 => (if l4 < v1 then f_M_ends_b83 N k52 l3 l4 l5 l6 l7 l9 (0 : Int32) h else f_M_ends_b83 N k52 l3 l4 l5 l6 l7 l9 (1 : Int32) h))) else k91 l3 l4 l5 l6 l7 l8 h) else k91 l3 l4 l5 l6 l7 l8 h)
def f_M_ends_l52 (N : Nat)  (k91 : Int32 → Int32 → Int32 → Int32 → Int32 → Int32 → sh_H → Option (Int32 × sh_H)) (n : Nat) : Int32 → Int32 → Int32 → Int32 → Int32 → Int32 → Int32 → sh_H → Option (Int32 × sh_H) := Nat.rec (motive := fun _ => Int32 → Int32 → Int32 → Int32 → Int32 → Int32 → Int32 → sh_H → Option (Int32 × sh_H)) (fun _ _ _ _ _ _ _ _ => none) (fun _ k52 => f_M_ends_c52 N k91 k52) n
theorem x_M_ends_l52 (N : Nat) {d : Nat} (hd : 3 ≤ d) {Q : ai_Q} {R : Int32 × sh_H → Prop} (hR : ∀ r h, R (r, h) → Q (some (aI r)) (sh_E h))  (k91 : Int32 → Int32 → Int32 → Int32 → Int32 → Int32 → sh_H → Option (Int32 × sh_H)) (hk91 : ∀ (l3 : Int32) (l4 : Int32) (l5 : Int32) (l6 : Int32) (l7 : Int32) (l8 : Int32) {d1 d2 d9 : Option ai_V} (h : sh_H), sh_ok (k91 l3 l4 l5 l6 l7 l8 h) R → wq_329 d Q 91 [oR 12 0, d1, d2, oI l3, oI l4, oI l5, oI l6, oI l7, oI l8, d9] [] (sh_E h)) (n : Nat) : ∀ (l3 : Int32) (l4 : Int32) (l5 : Int32) (l6 : Int32) (l7 : Int32) (l8 : Int32) (l9 : Int32) {d1 d2 : Option ai_V} (h : sh_H), sh_ok (f_M_ends_l52 N k91 n l3 l4 l5 l6 l7 l8 l9 h) R → wq_329 d Q 52 [oR 12 0, d1, d2, oI l3, oI l4, oI l5, oI l6, oI l7, oI l8, oI l9] [] (sh_E h) := by
  induction n with
  | zero => intro l3 l4 l5 l6 l7 l8 l9 d1 d2 h H; exact H.elim
  | succ n ih =>
    intro l3 l4 l5 l6 l7 l8 l9 d1 d2 h H
    have hk52 := @ih
    replace H : sh_ok (f_M_ends_c52 N k91 (f_M_ends_l52 N k91 n) l3 l4 l5 l6 l7 l8 l9 h) R := H
    revert hk52 H
    generalize f_M_ends_l52 N k91 n = k52
    intro hk52 H
    refine ai_WP_steps mc_329 (sh_CM d) 3 (And.intro (fun c => ?_) (fun c => ?_))
    · replace H := sh_okT c H
      show wq_329 d Q 59 [oR 12 0, _, _, oI l3, oI l4, oI l5, oI l6, oI l7, oI l8, oI l9] [] (sh_E h)
      refine ai_WP_steps mc_329 (sh_CM d) 2 (And.intro (fun c => ?_) (fun c => ?_))
      · replace H := sh_okT c H
        show wq_329 d Q 64 [oR 12 0, _, _, oI l3, oI l4, oI l5, oI l6, oI l7, oI l8, oI l9] [] (sh_E h)
        refine ai_WP_steps mc_329 (sh_CM d) 5 (And.intro (Nat.le_of_ble_eq_true rfl) (x_M_offBy N (Nat.le_trans (Nat.le_of_ble_eq_true rfl) hd) l7 l9 l3 h (sh_okB H) (fun v1 H => ?_)))
        show wq_329 d Q 73 [oR 12 0, _, _, oI l3, oI l4, oI l5, oI l6, oI l7, oI l8, oI l9] [aI v1] (sh_E h)
        refine ai_WP_steps mc_329 (sh_CM d) 2 (And.intro (fun c => ?_) (fun c => ?_))
        · replace H := sh_okT c H
          show wq_329 d Q 82 [oR 12 0, _, _, oI l3, oI l4, oI l5, oI l6, oI l7, oI l8, oI l9] [] (sh_E h)
          refine ai_WP_steps mc_329 (sh_CM d) 1 ?_
          exact x_M_ends_b83 N hd hR k52 hk52 l3 l4 l5 l6 l7 l9 (0 : Int32) h H
        · replace H := sh_okF c H
          show wq_329 d Q 78 [oR 12 0, _, _, oI l3, oI l4, oI l5, oI l6, oI l7, oI l8, oI l9] [] (sh_E h)
          refine ai_WP_steps mc_329 (sh_CM d) 2 ?_
          exact x_M_ends_b83 N hd hR k52 hk52 l3 l4 l5 l6 l7 l9 (1 : Int32) h H
      · replace H := sh_okF c H
        exact hk91 l3 l4 l5 l6 l7 l8 h H
    · replace H := sh_okF c H
      exact hk91 l3 l4 l5 l6 l7 l8 h H
def f_M_ends_b112 (N : Nat)  (k39 : Int32 → Int32 → Int32 → Int32 → Int32 → sh_H → Option (Int32 × sh_H)) (l3 : Int32) (l4 : Int32) (l5 : Int32) (l6 : Int32) (l7 : Int32) (h : sh_H) : Option (Int32 × sh_H) := k39 l3 l4 l5 l6 (l7 + (1 : Int32)) h
theorem x_M_ends_b112 (N : Nat) {d : Nat} (hd : 3 ≤ d) {Q : ai_Q} {R : Int32 × sh_H → Prop} (hR : ∀ r h, R (r, h) → Q (some (aI r)) (sh_E h))  (k39 : Int32 → Int32 → Int32 → Int32 → Int32 → sh_H → Option (Int32 × sh_H)) (hk39 : ∀ (l3 : Int32) (l4 : Int32) (l5 : Int32) (l6 : Int32) (l7 : Int32) {d1 d2 d8 d9 : Option ai_V} (h : sh_H), sh_ok (k39 l3 l4 l5 l6 l7 h) R → wq_329 d Q 39 [oR 12 0, d1, d2, oI l3, oI l4, oI l5, oI l6, oI l7, d8, d9] [] (sh_E h)) (l3 : Int32) (l4 : Int32) (l5 : Int32) (l6 : Int32) (l7 : Int32) {d1 d2 d8 d9 : Option ai_V} (h : sh_H) (H : sh_ok (f_M_ends_b112 N k39 l3 l4 l5 l6 l7 h) R) : wq_329 d Q 112 [oR 12 0, d1, d2, oI l3, oI l4, oI l5, oI l6, oI l7, d8, d9] [] (sh_E h) := by
  refine ai_WP_steps mc_329 (sh_CM d) 2 ?_
  exact hk39 l3 l4 l5 l6 (l7 + (1 : Int32)) h H
def f_M_ends_b108 (N : Nat)  (k39 : Int32 → Int32 → Int32 → Int32 → Int32 → sh_H → Option (Int32 × sh_H)) (l3 : Int32) (l4 : Int32) (l5 : Int32) (l7 : Int32) (h : sh_H) : Option (Int32 × sh_H) := f_M_ends_b112 N k39 l3 l4 l5 l7 l7 h
theorem x_M_ends_b108 (N : Nat) {d : Nat} (hd : 3 ≤ d) {Q : ai_Q} {R : Int32 × sh_H → Prop} (hR : ∀ r h, R (r, h) → Q (some (aI r)) (sh_E h))  (k39 : Int32 → Int32 → Int32 → Int32 → Int32 → sh_H → Option (Int32 × sh_H)) (hk39 : ∀ (l3 : Int32) (l4 : Int32) (l5 : Int32) (l6 : Int32) (l7 : Int32) {d1 d2 d8 d9 : Option ai_V} (h : sh_H), sh_ok (k39 l3 l4 l5 l6 l7 h) R → wq_329 d Q 39 [oR 12 0, d1, d2, oI l3, oI l4, oI l5, oI l6, oI l7, d8, d9] [] (sh_E h)) (l3 : Int32) (l4 : Int32) (l5 : Int32) (l7 : Int32) {d1 d2 d6 d8 d9 : Option ai_V} (h : sh_H) (H : sh_ok (f_M_ends_b108 N k39 l3 l4 l5 l7 h) R) : wq_329 d Q 108 [oR 12 0, d1, d2, oI l3, oI l4, oI l5, d6, oI l7, d8, d9] [] (sh_E h) := by
  refine ai_WP_steps mc_329 (sh_CM d) 2 ?_
  exact x_M_ends_b112 N hd hR k39 hk39 l3 l4 l5 l7 l7 h H
def f_M_ends_b91 (N : Nat)  (k39 : Int32 → Int32 → Int32 → Int32 → Int32 → sh_H → Option (Int32 × sh_H)) (l3 : Int32) (l4 : Int32) (l5 : Int32) (l6 : Int32) (l7 : Int32) (l8 : Int32) (h : sh_H) : Option (Int32 × sh_H) := (if l8 = 0 then f_M_ends_b112 N k39 l3 l4 l5 l6 l7 h else (if l5 < 0 then f_M_ends_b108 N k39 l3 l4 l7 l7 h else f_M_ends_b108 N k39 l3 l4 l5 l7 h))
theorem x_M_ends_b91 (N : Nat) {d : Nat} (hd : 3 ≤ d) {Q : ai_Q} {R : Int32 × sh_H → Prop} (hR : ∀ r h, R (r, h) → Q (some (aI r)) (sh_E h))  (k39 : Int32 → Int32 → Int32 → Int32 → Int32 → sh_H → Option (Int32 × sh_H)) (hk39 : ∀ (l3 : Int32) (l4 : Int32) (l5 : Int32) (l6 : Int32) (l7 : Int32) {d1 d2 d8 d9 : Option ai_V} (h : sh_H), sh_ok (k39 l3 l4 l5 l6 l7 h) R → wq_329 d Q 39 [oR 12 0, d1, d2, oI l3, oI l4, oI l5, oI l6, oI l7, d8, d9] [] (sh_E h)) (l3 : Int32) (l4 : Int32) (l5 : Int32) (l6 : Int32) (l7 : Int32) (l8 : Int32) {d1 d2 d9 : Option ai_V} (h : sh_H) (H : sh_ok (f_M_ends_b91 N k39 l3 l4 l5 l6 l7 l8 h) R) : wq_329 d Q 91 [oR 12 0, d1, d2, oI l3, oI l4, oI l5, oI l6, oI l7, oI l8, d9] [] (sh_E h) := by
  refine ai_WP_steps mc_329 (sh_CM d) 2 (And.intro (fun c => ?_) (fun c => ?_))
  · replace H := sh_okT c H
    show wq_329 d Q 96 [oR 12 0, _, _, oI l3, oI l4, oI l5, oI l6, oI l7, oI l8, _] [] (sh_E h)
    refine ai_WP_steps mc_329 (sh_CM d) 1 ?_
    exact x_M_ends_b112 N hd hR k39 hk39 l3 l4 l5 l6 l7 h H
  · replace H := sh_okF c H
    show wq_329 d Q 99 [oR 12 0, _, _, oI l3, oI l4, oI l5, oI l6, oI l7, oI l8, _] [] (sh_E h)
    refine ai_WP_steps mc_329 (sh_CM d) 2 (And.intro (fun c => ?_) (fun c => ?_))
    · replace H := sh_okT c H
      show wq_329 d Q 104 [oR 12 0, _, _, oI l3, oI l4, oI l5, oI l6, oI l7, oI l8, _] [] (sh_E h)
      refine ai_WP_steps mc_329 (sh_CM d) 2 ?_
      exact x_M_ends_b108 N hd hR k39 hk39 l3 l4 l7 l7 h H
    · replace H := sh_okF c H
      exact x_M_ends_b108 N hd hR k39 hk39 l3 l4 l5 l7 h H
def f_M_ends_c39 (N : Nat)  (k118 : Int32 → Int32 → sh_H → Option (Int32 × sh_H)) (k39 : Int32 → Int32 → Int32 → Int32 → Int32 → sh_H → Option (Int32 × sh_H)) (l3 : Int32) (l4 : Int32) (l5 : Int32) (l6 : Int32) (l7 : Int32) (h : sh_H) : Option (Int32 × sh_H) := (if l7 < (11 : Int32) then f_M_ends_l52 N (f_M_ends_b91 N k39) N l3 l4 l5 l6 l7 (0 : Int32) (0 : Int32) h else k118 l5 l6 h)
def f_M_ends_l39 (N : Nat)  (k118 : Int32 → Int32 → sh_H → Option (Int32 × sh_H)) (n : Nat) : Int32 → Int32 → Int32 → Int32 → Int32 → sh_H → Option (Int32 × sh_H) := Nat.rec (motive := fun _ => Int32 → Int32 → Int32 → Int32 → Int32 → sh_H → Option (Int32 × sh_H)) (fun _ _ _ _ _ _ => none) (fun _ k39 => f_M_ends_c39 N k118 k39) n
theorem x_M_ends_l39 (N : Nat) {d : Nat} (hd : 3 ≤ d) {Q : ai_Q} {R : Int32 × sh_H → Prop} (hR : ∀ r h, R (r, h) → Q (some (aI r)) (sh_E h))  (k118 : Int32 → Int32 → sh_H → Option (Int32 × sh_H)) (hk118 : ∀ (l5 : Int32) (l6 : Int32) {d0 d1 d2 d3 d4 d7 d8 d9 : Option ai_V} (h : sh_H), sh_ok (k118 l5 l6 h) R → wq_329 d Q 118 [d0, d1, d2, d3, d4, oI l5, oI l6, d7, d8, d9] [] (sh_E h)) (n : Nat) : ∀ (l3 : Int32) (l4 : Int32) (l5 : Int32) (l6 : Int32) (l7 : Int32) {d1 d2 d8 d9 : Option ai_V} (h : sh_H), sh_ok (f_M_ends_l39 N k118 n l3 l4 l5 l6 l7 h) R → wq_329 d Q 39 [oR 12 0, d1, d2, oI l3, oI l4, oI l5, oI l6, oI l7, d8, d9] [] (sh_E h) := by
  induction n with
  | zero => intro l3 l4 l5 l6 l7 d1 d2 d8 d9 h H; exact H.elim
  | succ n ih =>
    intro l3 l4 l5 l6 l7 d1 d2 d8 d9 h H
    have hk39 := @ih
    replace H : sh_ok (f_M_ends_c39 N k118 (f_M_ends_l39 N k118 n) l3 l4 l5 l6 l7 h) R := H
    revert hk39 H
    generalize f_M_ends_l39 N k118 n = k39
    intro hk39 H
    refine ai_WP_steps mc_329 (sh_CM d) 3 (And.intro (fun c => ?_) (fun c => ?_))
    · replace H := sh_okT c H
      show wq_329 d Q 46 [oR 12 0, _, _, oI l3, oI l4, oI l5, oI l6, oI l7, _, _] [] (sh_E h)
      refine ai_WP_steps mc_329 (sh_CM d) 4 ?_
      exact x_M_ends_l52 N hd hR (f_M_ends_b91 N k39) (fun z0 z1 z2 z3 z4 z5 {e1} {e2} {e9} h H => x_M_ends_b91 N hd hR k39 hk39 z0 z1 z2 z3 z4 z5 h H) N l3 l4 l5 l6 l7 (0 : Int32) (0 : Int32) h H
    · replace H := sh_okF c H
      exact hk118 l5 l6 h H
def f_M_ends_b118 (N : Nat)   (l5 : Int32) (l6 : Int32) (h : sh_H) : Option (Int32 × sh_H) := (if l5 < 0 then (some ((-2 : Int32), h)) else (some ((((100 : Int32) * l5) + l6), h)))
theorem x_M_ends_b118 (N : Nat) {d : Nat} (hd : 3 ≤ d) {Q : ai_Q} {R : Int32 × sh_H → Prop} (hR : ∀ r h, R (r, h) → Q (some (aI r)) (sh_E h))   (l5 : Int32) (l6 : Int32) {d0 d1 d2 d3 d4 d7 d8 d9 : Option ai_V} (h : sh_H) (H : sh_ok (f_M_ends_b118 N l5 l6 h) R) : wq_329 d Q 118 [d0, d1, d2, d3, d4, oI l5, oI l6, d7, d8, d9] [] (sh_E h) := by
  refine ai_WP_steps mc_329 (sh_CM d) 2 (And.intro (fun c => ?_) (fun c => ?_))
  · replace H := sh_okT c H
    show wq_329 d Q 123 [_, _, _, _, _, oI l5, oI l6, _, _, _] [] (sh_E h)
    exact ai_WP_steps mc_329 (sh_CM d) 3 (hR (-2 : Int32) h H)
  · replace H := sh_okF c H
    show wq_329 d Q 128 [_, _, _, _, _, oI l5, oI l6, _, _, _] [] (sh_E h)
    exact ai_WP_steps mc_329 (sh_CM d) 6 (hR (((100 : Int32) * l5) + l6) h H)
def f_M_ends (N : Nat)  (l1 : Int32) (l2 : Int32) (l3 : Int32) (l4 : Int32) (h : sh_H) : Option (Int32 × sh_H) := (Option.bind (f_M_isJars l1 l2 l3 h) (fun v2 => (if v2 = 0 then (some ((-1 : Int32), h)) else (Option.bind (f_M_isIn l4 (0 : Int32) (99999 : Int32) h) (fun v3 => (if v3 = 0 then (some ((-1 : Int32), h)) else (Option.bind (f_M_layBooks N l1 l2 h) (fun h4 => f_M_ends_l39 N (f_M_ends_b118 N) N l3 l4 (-1 : Int32) (-1 : Int32) (0 : Int32) h4))))))))
theorem x_M_ends (N : Nat) {d : Nat} (hd : 4 ≤ d) (l1 : Int32) (l2 : Int32) (l3 : Int32) (l4 : Int32) (h : sh_H) {Q : ai_Q} {R : Int32 × sh_H → Prop} (H : sh_ok (f_M_ends N l1 l2 l3 l4 h) R) (hR : ∀ r h, R (r, h) → Q (some (aI r)) (sh_E h)) : ai_Ex sh_T d 329 [aR 12 0, aI l1, aI l2, aI l3, aI l4] (sh_E h) Q := by
  obtain ⟨d, rfl⟩ : ∃ e, d = e + 1 := ⟨d - 1, by omega⟩
  replace hd : 3 ≤ d := by omega
  refine And.intro (Nat.le_of_ble_eq_true rfl) ?_
  show wq_329 d Q 0 [oR 12 0, oI l1, oI l2, oI l3, oI l4, none, none, none, none, none] [] (sh_E h)
  refine ai_WP_steps mc_329 (sh_CM d) 5 (And.intro (Nat.le_of_ble_eq_true rfl) (x_M_isJars (Nat.le_trans (Nat.le_of_ble_eq_true rfl) hd) l1 l2 l3 h (sh_okB H) (fun v2 H => ?_)))
  show wq_329 d Q 7 [oR 12 0, oI l1, oI l2, oI l3, oI l4, _, _, _, _, _] [aI v2] (sh_E h)
  refine ai_WP_steps mc_329 (sh_CM d) 1 (And.intro (fun c => ?_) (fun c => ?_))
  · replace H := sh_okT c H
    show wq_329 d Q 22 [oR 12 0, oI l1, oI l2, oI l3, oI l4, _, _, _, _, _] [] (sh_E h)
    exact ai_WP_steps mc_329 (sh_CM d) 2 (hR (-1 : Int32) h H)
  · replace H := sh_okF c H
    show wq_329 d Q 10 [oR 12 0, oI l1, oI l2, oI l3, oI l4, _, _, _, _, _] [] (sh_E h)
    refine ai_WP_steps mc_329 (sh_CM d) 4 (And.intro (Nat.le_of_ble_eq_true rfl) (x_M_isIn (Nat.le_trans (Nat.le_of_ble_eq_true rfl) hd) l4 (0 : Int32) (99999 : Int32) h (sh_okB H) (fun v3 H => ?_)))
    show wq_329 d Q 19 [oR 12 0, oI l1, oI l2, oI l3, oI l4, _, _, _, _, _] [aI v3] (sh_E h)
    refine ai_WP_steps mc_329 (sh_CM d) 1 (And.intro (fun c => ?_) (fun c => ?_))
    · replace H := sh_okT c H
      show wq_329 d Q 22 [oR 12 0, oI l1, oI l2, oI l3, oI l4, _, _, _, _, _] [] (sh_E h)
      exact ai_WP_steps mc_329 (sh_CM d) 2 (hR (-1 : Int32) h H)
    · replace H := sh_okF c H
      show wq_329 d Q 24 [oR 12 0, oI l1, oI l2, oI l3, oI l4, _, _, _, _, _] [] (sh_E h)
      refine ai_WP_steps mc_329 (sh_CM d) 4 (And.intro (Nat.le_of_ble_eq_true rfl) (x_M_layBooks N (Nat.le_trans (Nat.le_of_ble_eq_true rfl) hd) l1 l2 h (sh_okB H) (fun h4 H => ?_)))
      show wq_329 d Q 30 [oR 12 0, oI l1, oI l2, oI l3, oI l4, _, _, _, _, _] [] (sh_E h4)
      refine ai_WP_steps mc_329 (sh_CM d) 6 ?_
      exact x_M_ends_l39 N hd hR (f_M_ends_b118 N) (fun z0 z1 {e0} {e1} {e2} {e3} {e4} {e7} {e8} {e9} h H => x_M_ends_b118 N hd hR z0 z1 h H) N l3 l4 (-1 : Int32) (-1 : Int32) (0 : Int32) h4 H
def f_M_layFalse_c12 (N : Nat)  (k37 : Int32 → sh_H → Option sh_H) (k12 : Int32 → Int32 → sh_H → Option sh_H) (l1 : Int32) (l2 : Int32) (h : sh_H) : Option sh_H := (if l2 < (5 : Int32) then (if ai_in l2 5 then (sh_let (sh_pI h 13 60 l2.toNatClampNeg (0 : Int32)) (fun h1 => (if ai_in l2 5 then (sh_let (sh_pI h1 13 61 l2.toNatClampNeg (0 : Int32)) (fun h2 => k12 l1 (l2 + (1 : Int32)) h2)) else none))) else none) else k37 l1 h)
def f_M_layFalse_l12 (N : Nat)  (k37 : Int32 → sh_H → Option sh_H) (n : Nat) : Int32 → Int32 → sh_H → Option sh_H := Nat.rec (motive := fun _ => Int32 → Int32 → sh_H → Option sh_H) (fun _ _ _ => none) (fun _ k12 => f_M_layFalse_c12 N k37 k12) n
theorem x_M_layFalse_l12 (N : Nat) {d : Nat} (hd : 1 ≤ d) {Q : ai_Q} {R : sh_H → Prop} (hR : ∀ h, R h → Q none (sh_E h))  (k37 : Int32 → sh_H → Option sh_H) (hk37 : ∀ (l1 : Int32) {d2 d3 : Option ai_V} (h : sh_H), sh_ok (k37 l1 h) R → wq_330 d Q 37 [oR 12 0, oI l1, d2, d3] [] (sh_E h)) (n : Nat) : ∀ (l1 : Int32) (l2 : Int32) {d3 : Option ai_V} (h : sh_H), sh_ok (f_M_layFalse_l12 N k37 n l1 l2 h) R → wq_330 d Q 12 [oR 12 0, oI l1, oI l2, d3] [] (sh_E h) := by
  induction n with
  | zero => intro l1 l2 d3 h H; exact H.elim
  | succ n ih =>
    intro l1 l2 d3 h H
    have hk12 := @ih
    replace H : sh_ok (f_M_layFalse_c12 N k37 (f_M_layFalse_l12 N k37 n) l1 l2 h) R := H
    revert hk12 H
    generalize f_M_layFalse_l12 N k37 n = k12
    intro hk12 H
    refine ai_WP_steps mc_330 (sh_CM d) 3 (And.intro (fun c => ?_) (fun c => ?_))
    · replace H := sh_okT c H
      show wq_330 d Q 17 [oR 12 0, oI l1, oI l2, _] [] (sh_E h)
      have c := sh_okG H
      replace H := sh_okH H
      refine ai_WP_steps mc_330 (sh_CM d) 5 (And.intro c ?_)
      show wq_330 d Q 24 [oR 12 0, oI l1, oI l2, _] [] (sh_E (sh_pI h 13 60 l2.toNatClampNeg (0 : Int32)))
      replace H := sh_okL H
      generalize sh_pI h 13 60 l2.toNatClampNeg (0 : Int32) = h1 at H ⊢
      have c := sh_okG H
      replace H := sh_okH H
      refine ai_WP_steps mc_330 (sh_CM d) 5 (And.intro c ?_)
      show wq_330 d Q 31 [oR 12 0, oI l1, oI l2, _] [] (sh_E (sh_pI h1 13 61 l2.toNatClampNeg (0 : Int32)))
      replace H := sh_okL H
      generalize sh_pI h1 13 61 l2.toNatClampNeg (0 : Int32) = h2 at H ⊢
      refine ai_WP_steps mc_330 (sh_CM d) 2 ?_
      exact hk12 l1 (l2 + (1 : Int32)) h2 H
    · replace H := sh_okF c H
      exact hk37 l1 h H
def f_M_layFalse_b156 (N : Nat)  (k39 : Int32 → Int32 → sh_H → Option sh_H) (l1 : Int32) (l2 : Int32) (h : sh_H) : Option sh_H := k39 l1 (l2 + (1 : Int32)) h
theorem x_M_layFalse_b156 (N : Nat) {d : Nat} (hd : 1 ≤ d) {Q : ai_Q} {R : sh_H → Prop} (hR : ∀ h, R h → Q none (sh_E h))  (k39 : Int32 → Int32 → sh_H → Option sh_H) (hk39 : ∀ (l1 : Int32) (l2 : Int32) {d3 : Option ai_V} (h : sh_H), sh_ok (k39 l1 l2 h) R → wq_330 d Q 39 [oR 12 0, oI l1, oI l2, d3] [] (sh_E h)) (l1 : Int32) (l2 : Int32) {d3 : Option ai_V} (h : sh_H) (H : sh_ok (f_M_layFalse_b156 N k39 l1 l2 h) R) : wq_330 d Q 156 [oR 12 0, oI l1, oI l2, d3] [] (sh_E h) := by
  refine ai_WP_steps mc_330 (sh_CM d) 2 ?_
  exact hk39 l1 (l2 + (1 : Int32)) h H
def f_M_layFalse_b132 (N : Nat)  (k39 : Int32 → Int32 → sh_H → Option sh_H) (l1 : Int32) (l2 : Int32) (l3 : Int32) (h : sh_H) : Option sh_H := (if ai_in (l3 + (1 : Int32)) 8000 then (if ai_in (h.1 13 46 (l3 + (1 : Int32)).toNatClampNeg) 5 then (if ai_in (l3 + (3 : Int32)) 8000 then (if ai_in (h.1 13 46 (l3 + (1 : Int32)).toNatClampNeg) 5 then (sh_let (sh_pI h 13 61 (h.1 13 46 (l3 + (1 : Int32)).toNatClampNeg).toNatClampNeg ((h.1 13 61 (h.1 13 46 (l3 + (1 : Int32)).toNatClampNeg).toNatClampNeg) + (h.1 13 46 (l3 + (3 : Int32)).toNatClampNeg))) (fun h3 => f_M_layFalse_b156 N k39 l1 l2 h3)) else none) else none) else none) else none)
theorem x_M_layFalse_b132 (N : Nat) {d : Nat} (hd : 1 ≤ d) {Q : ai_Q} {R : sh_H → Prop} (hR : ∀ h, R h → Q none (sh_E h))  (k39 : Int32 → Int32 → sh_H → Option sh_H) (hk39 : ∀ (l1 : Int32) (l2 : Int32) {d3 : Option ai_V} (h : sh_H), sh_ok (k39 l1 l2 h) R → wq_330 d Q 39 [oR 12 0, oI l1, oI l2, d3] [] (sh_E h)) (l1 : Int32) (l2 : Int32) (l3 : Int32) (h : sh_H) (H : sh_ok (f_M_layFalse_b132 N k39 l1 l2 l3 h) R) : wq_330 d Q 132 [oR 12 0, oI l1, oI l2, oI l3] [] (sh_E h) := by
  have c := sh_okG H
  replace H := sh_okH H
  refine ai_WP_steps mc_330 (sh_CM d) 8 (And.intro c ?_)
  show wq_330 d Q 144 [oR 12 0, oI l1, oI l2, oI l3] [aI (h.1 13 46 (l3 + (1 : Int32)).toNatClampNeg), aR 13 61] (sh_E h)
  have c := sh_okG H
  replace H := sh_okH H
  refine ai_WP_steps mc_330 (sh_CM d) 2 (And.intro c ?_)
  show wq_330 d Q 146 [oR 12 0, oI l1, oI l2, oI l3] [aI (h.1 13 61 (h.1 13 46 (l3 + (1 : Int32)).toNatClampNeg).toNatClampNeg), aI (h.1 13 46 (l3 + (1 : Int32)).toNatClampNeg), aR 13 61] (sh_E h)
  have c := sh_okG H
  replace H := sh_okH H
  refine ai_WP_steps mc_330 (sh_CM d) 6 (And.intro c ?_)
  show wq_330 d Q 154 [oR 12 0, oI l1, oI l2, oI l3] [aI (h.1 13 46 (l3 + (3 : Int32)).toNatClampNeg), aI (h.1 13 61 (h.1 13 46 (l3 + (1 : Int32)).toNatClampNeg).toNatClampNeg), aI (h.1 13 46 (l3 + (1 : Int32)).toNatClampNeg), aR 13 61] (sh_E h)
  have c := sh_okG H
  replace H := sh_okH H
  refine ai_WP_steps mc_330 (sh_CM d) 2 (And.intro c ?_)
  show wq_330 d Q 156 [oR 12 0, oI l1, oI l2, oI l3] [] (sh_E (sh_pI h 13 61 (h.1 13 46 (l3 + (1 : Int32)).toNatClampNeg).toNatClampNeg ((h.1 13 61 (h.1 13 46 (l3 + (1 : Int32)).toNatClampNeg).toNatClampNeg) + (h.1 13 46 (l3 + (3 : Int32)).toNatClampNeg))))
  replace H := sh_okL H
  generalize sh_pI h 13 61 (h.1 13 46 (l3 + (1 : Int32)).toNatClampNeg).toNatClampNeg ((h.1 13 61 (h.1 13 46 (l3 + (1 : Int32)).toNatClampNeg).toNatClampNeg) + (h.1 13 46 (l3 + (3 : Int32)).toNatClampNeg)) = h3 at H ⊢
  exact x_M_layFalse_b156 N hd hR k39 hk39 l1 l2 h3 H
def f_M_layFalse_b108 (N : Nat)  (k39 : Int32 → Int32 → sh_H → Option sh_H) (l1 : Int32) (l2 : Int32) (l3 : Int32) (h : sh_H) : Option sh_H := (if ai_in (l3 + (1 : Int32)) 8000 then (if ai_in (h.1 13 46 (l3 + (1 : Int32)).toNatClampNeg) 5 then (if ai_in (l3 + (2 : Int32)) 8000 then (if ai_in (h.1 13 46 (l3 + (1 : Int32)).toNatClampNeg) 5 then (sh_let (sh_pI h 13 60 (h.1 13 46 (l3 + (1 : Int32)).toNatClampNeg).toNatClampNeg ((h.1 13 60 (h.1 13 46 (l3 + (1 : Int32)).toNatClampNeg).toNatClampNeg) + (h.1 13 46 (l3 + (2 : Int32)).toNatClampNeg))) (fun h4 => f_M_layFalse_b132 N k39 l1 l2 l3 h4)) else none) else none) else none) else none)
theorem x_M_layFalse_b108 (N : Nat) {d : Nat} (hd : 1 ≤ d) {Q : ai_Q} {R : sh_H → Prop} (hR : ∀ h, R h → Q none (sh_E h))  (k39 : Int32 → Int32 → sh_H → Option sh_H) (hk39 : ∀ (l1 : Int32) (l2 : Int32) {d3 : Option ai_V} (h : sh_H), sh_ok (k39 l1 l2 h) R → wq_330 d Q 39 [oR 12 0, oI l1, oI l2, d3] [] (sh_E h)) (l1 : Int32) (l2 : Int32) (l3 : Int32) (h : sh_H) (H : sh_ok (f_M_layFalse_b108 N k39 l1 l2 l3 h) R) : wq_330 d Q 108 [oR 12 0, oI l1, oI l2, oI l3] [] (sh_E h) := by
  have c := sh_okG H
  replace H := sh_okH H
  refine ai_WP_steps mc_330 (sh_CM d) 8 (And.intro c ?_)
  show wq_330 d Q 120 [oR 12 0, oI l1, oI l2, oI l3] [aI (h.1 13 46 (l3 + (1 : Int32)).toNatClampNeg), aR 13 60] (sh_E h)
  have c := sh_okG H
  replace H := sh_okH H
  refine ai_WP_steps mc_330 (sh_CM d) 2 (And.intro c ?_)
  show wq_330 d Q 122 [oR 12 0, oI l1, oI l2, oI l3] [aI (h.1 13 60 (h.1 13 46 (l3 + (1 : Int32)).toNatClampNeg).toNatClampNeg), aI (h.1 13 46 (l3 + (1 : Int32)).toNatClampNeg), aR 13 60] (sh_E h)
  have c := sh_okG H
  replace H := sh_okH H
  refine ai_WP_steps mc_330 (sh_CM d) 6 (And.intro c ?_)
  show wq_330 d Q 130 [oR 12 0, oI l1, oI l2, oI l3] [aI (h.1 13 46 (l3 + (2 : Int32)).toNatClampNeg), aI (h.1 13 60 (h.1 13 46 (l3 + (1 : Int32)).toNatClampNeg).toNatClampNeg), aI (h.1 13 46 (l3 + (1 : Int32)).toNatClampNeg), aR 13 60] (sh_E h)
  have c := sh_okG H
  replace H := sh_okH H
  refine ai_WP_steps mc_330 (sh_CM d) 2 (And.intro c ?_)
  show wq_330 d Q 132 [oR 12 0, oI l1, oI l2, oI l3] [] (sh_E (sh_pI h 13 60 (h.1 13 46 (l3 + (1 : Int32)).toNatClampNeg).toNatClampNeg ((h.1 13 60 (h.1 13 46 (l3 + (1 : Int32)).toNatClampNeg).toNatClampNeg) + (h.1 13 46 (l3 + (2 : Int32)).toNatClampNeg))))
  replace H := sh_okL H
  generalize sh_pI h 13 60 (h.1 13 46 (l3 + (1 : Int32)).toNatClampNeg).toNatClampNeg ((h.1 13 60 (h.1 13 46 (l3 + (1 : Int32)).toNatClampNeg).toNatClampNeg) + (h.1 13 46 (l3 + (2 : Int32)).toNatClampNeg)) = h4 at H ⊢
  exact x_M_layFalse_b132 N hd hR k39 hk39 l1 l2 l3 h4 H
def f_M_layFalse_b91 (N : Nat)  (k39 : Int32 → Int32 → sh_H → Option sh_H) (l1 : Int32) (l2 : Int32) (l3 : Int32) (h : sh_H) : Option sh_H := (if ai_in (l3 + (3 : Int32)) 8000 then (sh_let (sh_pI h 12 0 41 ((h.1 12 0 41) + (h.1 13 46 (l3 + (3 : Int32)).toNatClampNeg))) (fun h5 => f_M_layFalse_b108 N k39 l1 l2 l3 h5)) else none)
theorem x_M_layFalse_b91 (N : Nat) {d : Nat} (hd : 1 ≤ d) {Q : ai_Q} {R : sh_H → Prop} (hR : ∀ h, R h → Q none (sh_E h))  (k39 : Int32 → Int32 → sh_H → Option sh_H) (hk39 : ∀ (l1 : Int32) (l2 : Int32) {d3 : Option ai_V} (h : sh_H), sh_ok (k39 l1 l2 h) R → wq_330 d Q 39 [oR 12 0, oI l1, oI l2, d3] [] (sh_E h)) (l1 : Int32) (l2 : Int32) (l3 : Int32) (h : sh_H) (H : sh_ok (f_M_layFalse_b91 N k39 l1 l2 l3 h) R) : wq_330 d Q 91 [oR 12 0, oI l1, oI l2, oI l3] [] (sh_E h) := by
  have c := sh_okG H
  replace H := sh_okH H
  refine ai_WP_steps mc_330 (sh_CM d) 9 (And.intro c ?_)
  show wq_330 d Q 104 [oR 12 0, oI l1, oI l2, oI l3] [aI (h.1 13 46 (l3 + (3 : Int32)).toNatClampNeg), aI (h.1 12 0 41), aR 12 0] (sh_E h)
  refine ai_WP_steps mc_330 (sh_CM d) 2 (And.intro trivial ?_)
  show wq_330 d Q 108 [oR 12 0, oI l1, oI l2, oI l3] [] (sh_E (sh_pI h 12 0 41 ((h.1 12 0 41) + (h.1 13 46 (l3 + (3 : Int32)).toNatClampNeg))))
  replace H := sh_okL H
  generalize sh_pI h 12 0 41 ((h.1 12 0 41) + (h.1 13 46 (l3 + (3 : Int32)).toNatClampNeg)) = h5 at H ⊢
  exact x_M_layFalse_b108 N hd hR k39 hk39 l1 l2 l3 h5 H
def f_M_layFalse_c39 (N : Nat)   (k39 : Int32 → Int32 → sh_H → Option sh_H) (l1 : Int32) (l2 : Int32) (h : sh_H) : Option sh_H := (if l2 < l1 then (if ai_in ((550 : Int32) + ((4 : Int32) * l2)) 8000 then (if (h.1 13 46 ((550 : Int32) + ((4 : Int32) * l2)).toNatClampNeg) = (2 : Int32) then (Option.bind (f_M_isLive N l2 l1 h) (fun v6 => (if v6 = 0 then f_M_layFalse_b156 N k39 l1 l2 h else (if ai_in (((550 : Int32) + ((4 : Int32) * l2)) + (2 : Int32)) 8000 then (sh_let (sh_pI h 12 0 40 ((h.1 12 0 40) + (h.1 13 46 (((550 : Int32) + ((4 : Int32) * l2)) + (2 : Int32)).toNatClampNeg))) (fun h7 => f_M_layFalse_b91 N k39 l1 l2 ((550 : Int32) + ((4 : Int32) * l2)) h7)) else none)))) else f_M_layFalse_b156 N k39 l1 l2 h) else none) else (some h))
def f_M_layFalse_l39 (N : Nat)   (n : Nat) : Int32 → Int32 → sh_H → Option sh_H := Nat.rec (motive := fun _ => Int32 → Int32 → sh_H → Option sh_H) (fun _ _ _ => none) (fun _ k39 => f_M_layFalse_c39 N k39) n
theorem x_M_layFalse_l39 (N : Nat) {d : Nat} (hd : 1 ≤ d) {Q : ai_Q} {R : sh_H → Prop} (hR : ∀ h, R h → Q none (sh_E h))   (n : Nat) : ∀ (l1 : Int32) (l2 : Int32) {d3 : Option ai_V} (h : sh_H), sh_ok (f_M_layFalse_l39 N n l1 l2 h) R → wq_330 d Q 39 [oR 12 0, oI l1, oI l2, d3] [] (sh_E h) := by
  induction n with
  | zero => intro l1 l2 d3 h H; exact H.elim
  | succ n ih =>
    intro l1 l2 d3 h H
    have hk39 := @ih
    replace H : sh_ok (f_M_layFalse_c39 N (f_M_layFalse_l39 N n) l1 l2 h) R := H
    revert hk39 H
    generalize f_M_layFalse_l39 N n = k39
    intro hk39 H
    refine ai_WP_steps mc_330 (sh_CM d) 3 (And.intro (fun c => ?_) (fun c => ?_))
    · replace H := sh_okT c H
      show wq_330 d Q 44 [oR 12 0, oI l1, oI l2, _] [] (sh_E h)
      have c := sh_okG H
      replace H := sh_okH H
      refine ai_WP_steps mc_330 (sh_CM d) 10 (And.intro c ?_)
      show wq_330 d Q 58 [oR 12 0, oI l1, oI l2, oI ((550 : Int32) + ((4 : Int32) * l2))] [aI (h.1 13 46 ((550 : Int32) + ((4 : Int32) * l2)).toNatClampNeg)] (sh_E h)
      refine ai_WP_steps mc_330 (sh_CM d) 2 (And.intro (fun c => ?_) (fun c => ?_))
      · replace H := sh_okT c H
        show wq_330 d Q 62 [oR 12 0, oI l1, oI l2, oI ((550 : Int32) + ((4 : Int32) * l2))] [] (sh_E h)
        refine ai_WP_steps mc_330 (sh_CM d) 4 (And.intro (Nat.le_of_ble_eq_true rfl) (x_M_isLive N (Nat.le_trans (Nat.le_of_ble_eq_true rfl) hd) l2 l1 h (sh_okB H) (fun v6 H => ?_)))
        show wq_330 d Q 68 [oR 12 0, oI l1, oI l2, oI ((550 : Int32) + ((4 : Int32) * l2))] [aI v6] (sh_E h)
        refine ai_WP_steps mc_330 (sh_CM d) 1 (And.intro (fun c => ?_) (fun c => ?_))
        · replace H := sh_okT c H
          show wq_330 d Q 71 [oR 12 0, oI l1, oI l2, oI ((550 : Int32) + ((4 : Int32) * l2))] [] (sh_E h)
          refine ai_WP_steps mc_330 (sh_CM d) 1 ?_
          exact x_M_layFalse_b156 N hd hR k39 hk39 l1 l2 h H
        · replace H := sh_okF c H
          show wq_330 d Q 74 [oR 12 0, oI l1, oI l2, oI ((550 : Int32) + ((4 : Int32) * l2))] [] (sh_E h)
          have c := sh_okG H
          replace H := sh_okH H
          refine ai_WP_steps mc_330 (sh_CM d) 9 (And.intro c ?_)
          show wq_330 d Q 87 [oR 12 0, oI l1, oI l2, oI ((550 : Int32) + ((4 : Int32) * l2))] [aI (h.1 13 46 (((550 : Int32) + ((4 : Int32) * l2)) + (2 : Int32)).toNatClampNeg), aI (h.1 12 0 40), aR 12 0] (sh_E h)
          refine ai_WP_steps mc_330 (sh_CM d) 2 (And.intro trivial ?_)
          show wq_330 d Q 91 [oR 12 0, oI l1, oI l2, oI ((550 : Int32) + ((4 : Int32) * l2))] [] (sh_E (sh_pI h 12 0 40 ((h.1 12 0 40) + (h.1 13 46 (((550 : Int32) + ((4 : Int32) * l2)) + (2 : Int32)).toNatClampNeg))))
          replace H := sh_okL H
          generalize sh_pI h 12 0 40 ((h.1 12 0 40) + (h.1 13 46 (((550 : Int32) + ((4 : Int32) * l2)) + (2 : Int32)).toNatClampNeg)) = h7 at H ⊢
          exact x_M_layFalse_b91 N hd hR k39 hk39 l1 l2 ((550 : Int32) + ((4 : Int32) * l2)) h7 H
      · replace H := sh_okF c H
        exact x_M_layFalse_b156 N hd hR k39 hk39 l1 l2 h H
    · replace H := sh_okF c H
      show wq_330 d Q 162 [oR 12 0, oI l1, oI l2, _] [] (sh_E h)
      exact ai_WP_steps mc_330 (sh_CM d) 1 (hR h H)
def f_M_layFalse_b37 (N : Nat)   (l1 : Int32) (h : sh_H) : Option sh_H := f_M_layFalse_l39 N N l1 (0 : Int32) h
theorem x_M_layFalse_b37 (N : Nat) {d : Nat} (hd : 1 ≤ d) {Q : ai_Q} {R : sh_H → Prop} (hR : ∀ h, R h → Q none (sh_E h))   (l1 : Int32) {d2 d3 : Option ai_V} (h : sh_H) (H : sh_ok (f_M_layFalse_b37 N l1 h) R) : wq_330 d Q 37 [oR 12 0, oI l1, d2, d3] [] (sh_E h) := by
  refine ai_WP_steps mc_330 (sh_CM d) 2 ?_
  exact x_M_layFalse_l39 N hd hR N l1 (0 : Int32) h H
def f_M_layFalse (N : Nat)  (l1 : Int32) (h : sh_H) : Option sh_H := (sh_let (sh_pI h 12 0 40 (0 : Int32)) (fun h8 => (sh_let (sh_pI h8 12 0 41 (0 : Int32)) (fun h9 => f_M_layFalse_l12 N (f_M_layFalse_b37 N) N l1 (0 : Int32) h9))))
theorem x_M_layFalse (N : Nat) {d : Nat} (hd : 2 ≤ d) (l1 : Int32) (h : sh_H) {Q : ai_Q} {R : sh_H → Prop} (H : sh_ok (f_M_layFalse N l1 h) R) (hR : ∀ h, R h → Q none (sh_E h)) : ai_Ex sh_T d 330 [aR 12 0, aI l1] (sh_E h) Q := by
  obtain ⟨d, rfl⟩ : ∃ e, d = e + 1 := ⟨d - 1, by omega⟩
  replace hd : 1 ≤ d := by omega
  refine And.intro (Nat.le_of_ble_eq_true rfl) ?_
  show wq_330 d Q 0 [oR 12 0, oI l1, none, none] [] (sh_E h)
  refine ai_WP_steps mc_330 (sh_CM d) 3 (And.intro trivial ?_)
  show wq_330 d Q 5 [oR 12 0, oI l1, _, _] [] (sh_E (sh_pI h 12 0 40 (0 : Int32)))
  replace H := sh_okL H
  generalize sh_pI h 12 0 40 (0 : Int32) = h8 at H ⊢
  refine ai_WP_steps mc_330 (sh_CM d) 3 (And.intro trivial ?_)
  show wq_330 d Q 10 [oR 12 0, oI l1, _, _] [] (sh_E (sh_pI h8 12 0 41 (0 : Int32)))
  replace H := sh_okL H
  generalize sh_pI h8 12 0 41 (0 : Int32) = h9 at H ⊢
  refine ai_WP_steps mc_330 (sh_CM d) 2 ?_
  exact x_M_layFalse_l12 N hd hR (f_M_layFalse_b37 N) (fun z0 {e2} {e3} h H => x_M_layFalse_b37 N hd hR z0 h H) N l1 (0 : Int32) h9 H
def f_M_chosen_c31 (N : Nat)  (k83 : Int64 → sh_H → Option Int64) (k31 : Int32 → Int32 → Int64 → Int32 → sh_H → Option Int64) (l0 : Int32) (l2 : Int32) (l3 : Int64) (l5 : Int32) (h : sh_H) : Option Int64 := (if l2 < l5 then k83 l3 h else (if ¬ l5.toInt64 = 0 then (if ¬ l5.toInt64 = 0 then (if ¬ l5.toInt64 = 0 then k31 l0 l2 (((l3 / l5.toInt64) * ((l0 - l2) + l5).toInt64) + (((l3 - l3 / l5.toInt64 * l5.toInt64) * ((l0 - l2) + l5).toInt64) / l5.toInt64)) (l5 + (1 : Int32)) h else none) else none) else none))
def f_M_chosen_l31 (N : Nat)  (k83 : Int64 → sh_H → Option Int64) (n : Nat) : Int32 → Int32 → Int64 → Int32 → sh_H → Option Int64 := Nat.rec (motive := fun _ => Int32 → Int32 → Int64 → Int32 → sh_H → Option Int64) (fun _ _ _ _ _ => none) (fun _ k31 => f_M_chosen_c31 N k83 k31) n
theorem x_M_chosen_l31 (N : Nat) {d : Nat} (hd : 0 ≤ d) (h : sh_H) {Q : ai_Q} {R : Int64 → Prop} (hR : ∀ r, R r → Q (some (aL r)) (sh_E h))  (k83 : Int64 → sh_H → Option Int64) (hk83 : ∀ (l3 : Int64) {d0 d1 d2 d4 d5 d6 d7 d8 d9 : Option ai_V}, sh_ok (k83 l3 h) R → wq_331 d Q 83 [d0, d1, d2, oL l3, d4, d5, d6, d7, d8, d9] [] (sh_E h)) (n : Nat) : ∀ (l0 : Int32) (l2 : Int32) (l3 : Int64) (l5 : Int32) {d1 d4 d6 d7 d8 d9 : Option ai_V}, sh_ok (f_M_chosen_l31 N k83 n l0 l2 l3 l5 h) R → wq_331 d Q 31 [oI l0, d1, oI l2, oL l3, d4, oI l5, d6, d7, d8, d9] [] (sh_E h) := by
  induction n with
  | zero => intro l0 l2 l3 l5 d1 d4 d6 d7 d8 d9 H; exact H.elim
  | succ n ih =>
    intro l0 l2 l3 l5 d1 d4 d6 d7 d8 d9 H
    have hk31 := @ih
    replace H : sh_ok (f_M_chosen_c31 N k83 (f_M_chosen_l31 N k83 n) l0 l2 l3 l5 h) R := H
    revert hk31 H
    generalize f_M_chosen_l31 N k83 n = k31
    intro hk31 H
    refine ai_WP_steps mc_331 (sh_CM d) 3 (And.intro (fun c => ?_) (fun c => ?_))
    · replace H := sh_okT c H
      exact hk83 l3 H
    · replace H := sh_okF c H
      show wq_331 d Q 37 [oI l0, _, oI l2, oL l3, _, oI l5, _, _, _, _] [] (sh_E h)
      have c := sh_okG H
      replace H := sh_okH H
      refine ai_WP_steps mc_331 (sh_CM d) 4 (And.intro c ?_)
      show wq_331 d Q 42 [oI l0, _, oI l2, oL l3, _, oI l5, _, _, _, _] [aL (l3 / l5.toInt64)] (sh_E h)
      have c := sh_okG H
      replace H := sh_okH H
      refine ai_WP_steps mc_331 (sh_CM d) 5 (And.intro c ?_)
      show wq_331 d Q 49 [oI l0, _, oI l2, oL l3, _, oI l5, oL (l3 / l5.toInt64), _, _, _] [aL (l3 - l3 / l5.toInt64 * l5.toInt64)] (sh_E h)
      have c := sh_okG H
      replace H := sh_okH H
      refine ai_WP_steps mc_331 (sh_CM d) 20 (And.intro c ?_)
      show wq_331 d Q 75 [oI l0, _, oI l2, oL l3, _, oI l5, oL (l3 / l5.toInt64), _, oL (l3 - l3 / l5.toInt64 * l5.toInt64), _] [aL (((l3 - l3 / l5.toInt64 * l5.toInt64) * ((l0 - l2) + l5).toInt64) / l5.toInt64), aL ((l3 / l5.toInt64) * ((l0 - l2) + l5).toInt64)] (sh_E h)
      refine ai_WP_steps mc_331 (sh_CM d) 4 ?_
      exact hk31 l0 l2 (((l3 / l5.toInt64) * ((l0 - l2) + l5).toInt64) + (((l3 - l3 / l5.toInt64 * l5.toInt64) * ((l0 - l2) + l5).toInt64) / l5.toInt64)) (l5 + (1 : Int32)) H
def f_M_chosen_b83 (N : Nat)   (l3 : Int64) (h : sh_H) : Option Int64 := (some l3)
theorem x_M_chosen_b83 (N : Nat) {d : Nat} (hd : 0 ≤ d) (h : sh_H) {Q : ai_Q} {R : Int64 → Prop} (hR : ∀ r, R r → Q (some (aL r)) (sh_E h))   (l3 : Int64) {d0 d1 d2 d4 d5 d6 d7 d8 d9 : Option ai_V} (H : sh_ok (f_M_chosen_b83 N l3 h) R) : wq_331 d Q 83 [d0, d1, d2, oL l3, d4, d5, d6, d7, d8, d9] [] (sh_E h) := by
  exact ai_WP_steps mc_331 (sh_CM d) 2 (hR l3 H)
def f_M_chosen_b25 (N : Nat)   (l0 : Int32) (s0 : Int32) (h : sh_H) : Option Int64 := f_M_chosen_l31 N (f_M_chosen_b83 N) N l0 s0 (1 : Int64) (1 : Int32) h
theorem x_M_chosen_b25 (N : Nat) {d : Nat} (hd : 0 ≤ d) (h : sh_H) {Q : ai_Q} {R : Int64 → Prop} (hR : ∀ r, R r → Q (some (aL r)) (sh_E h))   (l0 : Int32) (s0 : Int32) {d1 d2 d3 d4 d5 d6 d7 d8 d9 : Option ai_V} (H : sh_ok (f_M_chosen_b25 N l0 s0 h) R) : wq_331 d Q 25 [oI l0, d1, d2, d3, d4, d5, d6, d7, d8, d9] [aI s0] (sh_E h) := by
  refine ai_WP_steps mc_331 (sh_CM d) 5 ?_
  exact x_M_chosen_l31 N hd h hR (f_M_chosen_b83 N) (fun z0 {e0} {e1} {e2} {e4} {e5} {e6} {e7} {e8} {e9} H => x_M_chosen_b83 N hd h hR z0 H) N l0 s0 (1 : Int64) (1 : Int32) H
def f_M_chosen (N : Nat)  (l0 : Int32) (l1 : Int32) (h : sh_H) : Option Int64 := (if l1 < 0 then (some (0 : Int64)) else (if l0 < l1 then (some (0 : Int64)) else (if (l0 - l1) < l1 then f_M_chosen_b25 N l0 (l0 - l1) h else f_M_chosen_b25 N l0 l1 h)))
theorem x_M_chosen (N : Nat) {d : Nat} (hd : 1 ≤ d) (l0 : Int32) (l1 : Int32) (h : sh_H) {Q : ai_Q} {R : Int64 → Prop} (H : sh_ok (f_M_chosen N l0 l1 h) R) (hR : ∀ r, R r → Q (some (aL r)) (sh_E h)) : ai_Ex sh_T d 331 [aI l0, aI l1] (sh_E h) Q := by
  obtain ⟨d, rfl⟩ : ∃ e, d = e + 1 := ⟨d - 1, by omega⟩
  replace hd : 0 ≤ d := by omega
  refine And.intro (Nat.le_of_ble_eq_true rfl) ?_
  show wq_331 d Q 0 [oI l0, oI l1, none, none, none, none, none, none, none, none] [] (sh_E h)
  refine ai_WP_steps mc_331 (sh_CM d) 2 (And.intro (fun c => ?_) (fun c => ?_))
  · replace H := sh_okT c H
    show wq_331 d Q 9 [oI l0, oI l1, _, _, _, _, _, _, _, _] [] (sh_E h)
    exact ai_WP_steps mc_331 (sh_CM d) 2 (hR (0 : Int64) H)
  · replace H := sh_okF c H
    show wq_331 d Q 4 [oI l0, oI l1, _, _, _, _, _, _, _, _] [] (sh_E h)
    refine ai_WP_steps mc_331 (sh_CM d) 3 (And.intro (fun c => ?_) (fun c => ?_))
    · replace H := sh_okT c H
      show wq_331 d Q 9 [oI l0, oI l1, _, _, _, _, _, _, _, _] [] (sh_E h)
      exact ai_WP_steps mc_331 (sh_CM d) 2 (hR (0 : Int64) H)
    · replace H := sh_okF c H
      show wq_331 d Q 11 [oI l0, oI l1, _, _, _, _, _, _, _, _] [] (sh_E h)
      refine ai_WP_steps mc_331 (sh_CM d) 5 (And.intro (fun c => ?_) (fun c => ?_))
      · replace H := sh_okT c H
        show wq_331 d Q 18 [oI l0, oI l1, _, _, _, _, _, _, _, _] [] (sh_E h)
        refine ai_WP_steps mc_331 (sh_CM d) 4 ?_
        exact x_M_chosen_b25 N hd h hR l0 (l0 - l1) H
      · replace H := sh_okF c H
        show wq_331 d Q 24 [oI l0, oI l1, _, _, _, _, _, _, _, _] [] (sh_E h)
        refine ai_WP_steps mc_331 (sh_CM d) 1 ?_
        exact x_M_chosen_b25 N hd h hR l0 l1 H
def f_M_falseWays_c10 (N : Nat)  (k70 : Int64 → sh_H → Option Int64) (k10 : Int32 → Int64 → Int32 → sh_H → Option Int64) (l1 : Int32) (l2 : Int64) (l4 : Int32) (h : sh_H) : Option Int64 := (if (h.1 12 0 41) < l4 then k70 l2 h else (if ai_in l1 5 then (if (h.1 13 60 l1.toNatClampNeg) < l4 then k70 l2 h else (Option.bind (f_M_chosen N (h.1 12 0 41) l4 h) (fun v1 => (if ai_in l1 5 then (Option.bind (f_M_chosen N ((h.1 12 0 40) - (h.1 12 0 41)) ((h.1 13 60 l1.toNatClampNeg) - l4) h) (fun v2 => k10 l1 (l2 + (v1 * v2)) (l4 + (1 : Int32)) h)) else none)))) else none))
def f_M_falseWays_l10 (N : Nat)  (k70 : Int64 → sh_H → Option Int64) (n : Nat) : Int32 → Int64 → Int32 → sh_H → Option Int64 := Nat.rec (motive := fun _ => Int32 → Int64 → Int32 → sh_H → Option Int64) (fun _ _ _ _ => none) (fun _ k10 => f_M_falseWays_c10 N k70 k10) n
theorem x_M_falseWays_l10 (N : Nat) {d : Nat} (hd : 1 ≤ d) (h : sh_H) {Q : ai_Q} {R : Int64 → Prop} (hR : ∀ r, R r → Q (some (aL r)) (sh_E h))  (k70 : Int64 → sh_H → Option Int64) (hk70 : ∀ (l2 : Int64) {d0 d1 d3 d4 : Option ai_V}, sh_ok (k70 l2 h) R → wq_332 d Q 70 [d0, d1, oL l2, d3, d4] [] (sh_E h)) (n : Nat) : ∀ (l1 : Int32) (l2 : Int64) (l4 : Int32) {d3 : Option ai_V}, sh_ok (f_M_falseWays_l10 N k70 n l1 l2 l4 h) R → wq_332 d Q 10 [oR 12 0, oI l1, oL l2, d3, oI l4] [] (sh_E h) := by
  induction n with
  | zero => intro l1 l2 l4 d3 H; exact H.elim
  | succ n ih =>
    intro l1 l2 l4 d3 H
    have hk10 := @ih
    replace H : sh_ok (f_M_falseWays_c10 N k70 (f_M_falseWays_l10 N k70 n) l1 l2 l4 h) R := H
    revert hk10 H
    generalize f_M_falseWays_l10 N k70 n = k10
    intro hk10 H
    refine ai_WP_steps mc_332 (sh_CM d) 4 (And.intro (fun c => ?_) (fun c => ?_))
    · replace H := sh_okT c H
      exact hk70 l2 H
    · replace H := sh_okF c H
      show wq_332 d Q 19 [oR 12 0, oI l1, oL l2, _, oI l4] [] (sh_E h)
      have c := sh_okG H
      replace H := sh_okH H
      refine ai_WP_steps mc_332 (sh_CM d) 5 (And.intro c ?_)
      show wq_332 d Q 27 [oR 12 0, oI l1, oL l2, _, oI l4] [aI (h.1 13 60 l1.toNatClampNeg), aI l4] (sh_E h)
      refine ai_WP_steps mc_332 (sh_CM d) 1 (And.intro (fun c => ?_) (fun c => ?_))
      · replace H := sh_okT c H
        exact hk70 l2 H
      · replace H := sh_okF c H
        show wq_332 d Q 30 [oR 12 0, oI l1, oL l2, _, oI l4] [] (sh_E h)
        refine ai_WP_steps mc_332 (sh_CM d) 5 (And.intro (Nat.le_of_ble_eq_true rfl) (x_M_chosen N (Nat.le_trans (Nat.le_of_ble_eq_true rfl) hd) (h.1 12 0 41) l4 h (sh_okB H) (fun v1 H => ?_)))
        show wq_332 d Q 40 [oR 12 0, oI l1, oL l2, _, oI l4] [aL v1, aL l2] (sh_E h)
        have c := sh_okG H
        replace H := sh_okH H
        refine ai_WP_steps mc_332 (sh_CM d) 9 (And.intro c ?_)
        show wq_332 d Q 55 [oR 12 0, oI l1, oL l2, _, oI l4] [aI (h.1 13 60 l1.toNatClampNeg), aI ((h.1 12 0 40) - (h.1 12 0 41)), aL v1, aL l2] (sh_E h)
        refine ai_WP_steps mc_332 (sh_CM d) 3 (And.intro (Nat.le_of_ble_eq_true rfl) (x_M_chosen N (Nat.le_trans (Nat.le_of_ble_eq_true rfl) hd) ((h.1 12 0 40) - (h.1 12 0 41)) ((h.1 13 60 l1.toNatClampNeg) - l4) h (sh_okB H) (fun v2 H => ?_)))
        show wq_332 d Q 61 [oR 12 0, oI l1, oL l2, _, oI l4] [aL v2, aL v1, aL l2] (sh_E h)
        refine ai_WP_steps mc_332 (sh_CM d) 5 ?_
        exact hk10 l1 (l2 + (v1 * v2)) (l4 + (1 : Int32)) H
def f_M_falseWays_b70 (N : Nat)   (l2 : Int64) (h : sh_H) : Option Int64 := (some l2)
theorem x_M_falseWays_b70 (N : Nat) {d : Nat} (hd : 1 ≤ d) (h : sh_H) {Q : ai_Q} {R : Int64 → Prop} (hR : ∀ r, R r → Q (some (aL r)) (sh_E h))   (l2 : Int64) {d0 d1 d3 d4 : Option ai_V} (H : sh_ok (f_M_falseWays_b70 N l2 h) R) : wq_332 d Q 70 [d0, d1, oL l2, d3, d4] [] (sh_E h) := by
  exact ai_WP_steps mc_332 (sh_CM d) 2 (hR l2 H)
def f_M_falseWays (N : Nat)  (l1 : Int32) (h : sh_H) : Option Int64 := (if ai_in l1 5 then f_M_falseWays_l10 N (f_M_falseWays_b70 N) N l1 (0 : Int64) (h.1 13 61 l1.toNatClampNeg) h else none)
theorem x_M_falseWays (N : Nat) {d : Nat} (hd : 2 ≤ d) (l1 : Int32) (h : sh_H) {Q : ai_Q} {R : Int64 → Prop} (H : sh_ok (f_M_falseWays N l1 h) R) (hR : ∀ r, R r → Q (some (aL r)) (sh_E h)) : ai_Ex sh_T d 332 [aR 12 0, aI l1] (sh_E h) Q := by
  obtain ⟨d, rfl⟩ : ∃ e, d = e + 1 := ⟨d - 1, by omega⟩
  replace hd : 1 ≤ d := by omega
  refine And.intro (Nat.le_of_ble_eq_true rfl) ?_
  show wq_332 d Q 0 [oR 12 0, oI l1, none, none, none] [] (sh_E h)
  have c := sh_okG H
  replace H := sh_okH H
  refine ai_WP_steps mc_332 (sh_CM d) 6 (And.intro c ?_)
  show wq_332 d Q 8 [oR 12 0, oI l1, oL (0 : Int64), _, _] [aI (h.1 13 61 l1.toNatClampNeg)] (sh_E h)
  refine ai_WP_steps mc_332 (sh_CM d) 1 ?_
  exact x_M_falseWays_l10 N hd h hR (f_M_falseWays_b70 N) (fun z0 {e0} {e1} {e3} {e4} H => x_M_falseWays_b70 N hd h hR z0 H) N l1 (0 : Int64) (h.1 13 61 l1.toNatClampNeg) H
def f_M_isLess_b164 (N : Nat)  (k17 : Int64 → Int64 → Int64 → Int64 → Int32 → sh_H → Option Int32) (l8 : Int64) (l10 : Int64) (l12 : Int64) (l14 : Int64) (s0 : Int32) (h : sh_H) : Option Int32 := k17 l8 l10 l12 l14 s0 h
theorem x_M_isLess_b164 (N : Nat) {d : Nat} (hd : 0 ≤ d) (h : sh_H) {Q : ai_Q} {R : Int32 → Prop} (hR : ∀ r, R r → Q (some (aI r)) (sh_E h))  (k17 : Int64 → Int64 → Int64 → Int64 → Int32 → sh_H → Option Int32) (hk17 : ∀ (l8 : Int64) (l10 : Int64) (l12 : Int64) (l14 : Int64) (l16 : Int32) {d0 d1 d2 d3 d4 d5 d6 d7 d9 d11 d13 d15 d17 d18 d19 d20 d21 d22 : Option ai_V}, sh_ok (k17 l8 l10 l12 l14 l16 h) R → wq_333 d Q 17 [d0, d1, d2, d3, d4, d5, d6, d7, oL l8, d9, oL l10, d11, oL l12, d13, oL l14, d15, oI l16, d17, d18, d19, d20, d21, d22] [] (sh_E h)) (l8 : Int64) (l10 : Int64) (l12 : Int64) (l14 : Int64) (s0 : Int32) {d0 d1 d2 d3 d4 d5 d6 d7 d9 d11 d13 d15 d16 d17 d18 d19 d20 d21 d22 : Option ai_V} (H : sh_ok (f_M_isLess_b164 N k17 l8 l10 l12 l14 s0 h) R) : wq_333 d Q 164 [d0, d1, d2, d3, d4, d5, d6, d7, oL l8, d9, oL l10, d11, oL l12, d13, oL l14, d15, d16, d17, d18, d19, d20, d21, d22] [aI s0] (sh_E h) := by
  refine ai_WP_steps mc_333 (sh_CM d) 2 ?_
  exact hk17 l8 l10 l12 l14 s0 H
def f_M_isLess_b93 (N : Nat)  (k17 : Int64 → Int64 → Int64 → Int64 → Int32 → sh_H → Option Int32) (k107 : Int64 → Int32 → sh_H → Option Int32) (l8 : Int64) (l10 : Int64) (l12 : Int64) (l14 : Int64) (l16 : Int32) (h : sh_H) : Option Int32 := (if (lg_cmp l8 (0 : Int64)) = 0 then k107 l8 l16 h else (if (lg_cmp l12 (0 : Int64)) = 0 then k107 l8 l16 h else (if l16 = 0 then f_M_isLess_b164 N k17 l10 l8 l14 l12 (1 : Int32) h else f_M_isLess_b164 N k17 l10 l8 l14 l12 (0 : Int32) h)))
theorem x_M_isLess_b93 (N : Nat) {d : Nat} (hd : 0 ≤ d) (h : sh_H) {Q : ai_Q} {R : Int32 → Prop} (hR : ∀ r, R r → Q (some (aI r)) (sh_E h))  (k17 : Int64 → Int64 → Int64 → Int64 → Int32 → sh_H → Option Int32) (hk17 : ∀ (l8 : Int64) (l10 : Int64) (l12 : Int64) (l14 : Int64) (l16 : Int32) {d0 d1 d2 d3 d4 d5 d6 d7 d9 d11 d13 d15 d17 d18 d19 d20 d21 d22 : Option ai_V}, sh_ok (k17 l8 l10 l12 l14 l16 h) R → wq_333 d Q 17 [d0, d1, d2, d3, d4, d5, d6, d7, oL l8, d9, oL l10, d11, oL l12, d13, oL l14, d15, oI l16, d17, d18, d19, d20, d21, d22] [] (sh_E h)) (k107 : Int64 → Int32 → sh_H → Option Int32) (hk107 : ∀ (l8 : Int64) (l16 : Int32) {d0 d1 d2 d3 d4 d5 d6 d7 d9 d10 d11 d12 d13 d14 d15 d17 d18 d19 d20 d21 d22 : Option ai_V}, sh_ok (k107 l8 l16 h) R → wq_333 d Q 107 [d0, d1, d2, d3, d4, d5, d6, d7, oL l8, d9, d10, d11, d12, d13, d14, d15, oI l16, d17, d18, d19, d20, d21, d22] [] (sh_E h)) (l8 : Int64) (l10 : Int64) (l12 : Int64) (l14 : Int64) (l16 : Int32) {d0 d1 d2 d3 d4 d5 d6 d7 d9 d11 d13 d15 d17 d18 d19 d20 d21 d22 : Option ai_V} (H : sh_ok (f_M_isLess_b93 N k17 k107 l8 l10 l12 l14 l16 h) R) : wq_333 d Q 93 [d0, d1, d2, d3, d4, d5, d6, d7, oL l8, d9, oL l10, d11, oL l12, d13, oL l14, d15, oI l16, d17, d18, d19, d20, d21, d22] [] (sh_E h) := by
  refine ai_WP_steps mc_333 (sh_CM d) 4 (And.intro (fun c => ?_) (fun c => ?_))
  · replace H := sh_okT c H
    exact hk107 l8 l16 H
  · replace H := sh_okF c H
    show wq_333 d Q 100 [_, _, _, _, _, _, _, _, oL l8, _, oL l10, _, oL l12, _, oL l14, _, oI l16, _, _, _, _, _, _] [] (sh_E h)
    refine ai_WP_steps mc_333 (sh_CM d) 4 (And.intro (fun c => ?_) (fun c => ?_))
    · replace H := sh_okT c H
      exact hk107 l8 l16 H
    · replace H := sh_okF c H
      show wq_333 d Q 130 [_, _, _, _, _, _, _, _, oL l8, _, oL l10, _, oL l12, _, oL l14, _, oI l16, _, _, _, _, _, _] [] (sh_E h)
      refine ai_WP_steps mc_333 (sh_CM d) 14 (And.intro (fun c => ?_) (fun c => ?_))
      · replace H := sh_okT c H
        show wq_333 d Q 159 [_, _, _, _, _, _, _, _, oL l10, _, oL l8, _, oL l14, _, oL l12, _, oI l16, _, _, _, _, oL l12, _] [] (sh_E h)
        refine ai_WP_steps mc_333 (sh_CM d) 2 ?_
        exact x_M_isLess_b164 N hd h hR k17 hk17 l10 l8 l14 l12 (1 : Int32) H
      · replace H := sh_okF c H
        show wq_333 d Q 163 [_, _, _, _, _, _, _, _, oL l10, _, oL l8, _, oL l14, _, oL l12, _, oI l16, _, _, _, _, oL l12, _] [] (sh_E h)
        refine ai_WP_steps mc_333 (sh_CM d) 1 ?_
        exact x_M_isLess_b164 N hd h hR k17 hk17 l10 l8 l14 l12 (0 : Int32) H
def f_M_isLess_c17 (N : Nat)  (k39 : Int32 → Int64 → Int64 → sh_H → Option Int32) (k107 : Int64 → Int32 → sh_H → Option Int32) (k17 : Int64 → Int64 → Int64 → Int64 → Int32 → sh_H → Option Int32) (l8 : Int64) (l10 : Int64) (l12 : Int64) (l14 : Int64) (l16 : Int32) (h : sh_H) : Option Int32 := (if ¬ l10 = 0 then (if ¬ l14 = 0 then (if (lg_cmp (l8 / l10) (l12 / l14)) = 0 then (if ¬ l10 = 0 then (if ¬ l14 = 0 then (if (lg_cmp (l8 - l8 / l10 * l10) (0 : Int64)) = 0 then (if (lg_cmp (l12 - l12 / l14 * l14) (0 : Int64)) = 0 then (some (ai_nar 1 (0 : Int32))) else f_M_isLess_b93 N k17 k107 (l8 - l8 / l10 * l10) l10 (l12 - l12 / l14 * l14) l14 l16 h) else f_M_isLess_b93 N k17 k107 (l8 - l8 / l10 * l10) l10 (l12 - l12 / l14 * l14) l14 l16 h) else none) else none) else k39 l16 (l8 / l10) (l12 / l14) h) else none) else none)
def f_M_isLess_l17 (N : Nat)  (k39 : Int32 → Int64 → Int64 → sh_H → Option Int32) (k107 : Int64 → Int32 → sh_H → Option Int32) (n : Nat) : Int64 → Int64 → Int64 → Int64 → Int32 → sh_H → Option Int32 := Nat.rec (motive := fun _ => Int64 → Int64 → Int64 → Int64 → Int32 → sh_H → Option Int32) (fun _ _ _ _ _ _ => none) (fun _ k17 => f_M_isLess_c17 N k39 k107 k17) n
theorem x_M_isLess_l17 (N : Nat) {d : Nat} (hd : 0 ≤ d) (h : sh_H) {Q : ai_Q} {R : Int32 → Prop} (hR : ∀ r, R r → Q (some (aI r)) (sh_E h))  (k39 : Int32 → Int64 → Int64 → sh_H → Option Int32) (hk39 : ∀ (l16 : Int32) (l17 : Int64) (l19 : Int64) {d0 d1 d2 d3 d4 d5 d6 d7 d8 d9 d10 d11 d12 d13 d14 d15 d18 d20 d21 d22 : Option ai_V}, sh_ok (k39 l16 l17 l19 h) R → wq_333 d Q 39 [d0, d1, d2, d3, d4, d5, d6, d7, d8, d9, d10, d11, d12, d13, d14, d15, oI l16, oL l17, d18, oL l19, d20, d21, d22] [] (sh_E h)) (k107 : Int64 → Int32 → sh_H → Option Int32) (hk107 : ∀ (l8 : Int64) (l16 : Int32) {d0 d1 d2 d3 d4 d5 d6 d7 d9 d10 d11 d12 d13 d14 d15 d17 d18 d19 d20 d21 d22 : Option ai_V}, sh_ok (k107 l8 l16 h) R → wq_333 d Q 107 [d0, d1, d2, d3, d4, d5, d6, d7, oL l8, d9, d10, d11, d12, d13, d14, d15, oI l16, d17, d18, d19, d20, d21, d22] [] (sh_E h)) (n : Nat) : ∀ (l8 : Int64) (l10 : Int64) (l12 : Int64) (l14 : Int64) (l16 : Int32) {d0 d1 d2 d3 d4 d5 d6 d7 d9 d11 d13 d15 d17 d18 d19 d20 d21 d22 : Option ai_V}, sh_ok (f_M_isLess_l17 N k39 k107 n l8 l10 l12 l14 l16 h) R → wq_333 d Q 17 [d0, d1, d2, d3, d4, d5, d6, d7, oL l8, d9, oL l10, d11, oL l12, d13, oL l14, d15, oI l16, d17, d18, d19, d20, d21, d22] [] (sh_E h) := by
  induction n with
  | zero => intro l8 l10 l12 l14 l16 d0 d1 d2 d3 d4 d5 d6 d7 d9 d11 d13 d15 d17 d18 d19 d20 d21 d22 H; exact H.elim
  | succ n ih =>
    intro l8 l10 l12 l14 l16 d0 d1 d2 d3 d4 d5 d6 d7 d9 d11 d13 d15 d17 d18 d19 d20 d21 d22 H
    have hk17 := @ih
    replace H : sh_ok (f_M_isLess_c17 N k39 k107 (f_M_isLess_l17 N k39 k107 n) l8 l10 l12 l14 l16 h) R := H
    revert hk17 H
    generalize f_M_isLess_l17 N k39 k107 n = k17
    intro hk17 H
    have c := sh_okG H
    replace H := sh_okH H
    refine ai_WP_steps mc_333 (sh_CM d) 3 (And.intro c ?_)
    show wq_333 d Q 22 [_, _, _, _, _, _, _, _, oL l8, _, oL l10, _, oL l12, _, oL l14, _, oI l16, _, _, _, _, _, _] [aL (l8 / l10)] (sh_E h)
    have c := sh_okG H
    replace H := sh_okH H
    refine ai_WP_steps mc_333 (sh_CM d) 4 (And.intro c ?_)
    show wq_333 d Q 29 [_, _, _, _, _, _, _, _, oL l8, _, oL l10, _, oL l12, _, oL l14, _, oI l16, oL (l8 / l10), _, _, _, _, _] [aL (l12 / l14)] (sh_E h)
    refine ai_WP_steps mc_333 (sh_CM d) 5 (And.intro (fun c => ?_) (fun c => ?_))
    · replace H := sh_okT c H
      show wq_333 d Q 63 [_, _, _, _, _, _, _, _, oL l8, _, oL l10, _, oL l12, _, oL l14, _, oI l16, oL (l8 / l10), _, oL (l12 / l14), _, _, _] [] (sh_E h)
      have c := sh_okG H
      replace H := sh_okH H
      refine ai_WP_steps mc_333 (sh_CM d) 3 (And.intro c ?_)
      show wq_333 d Q 68 [_, _, _, _, _, _, _, _, oL l8, _, oL l10, _, oL l12, _, oL l14, _, oI l16, oL (l8 / l10), _, oL (l12 / l14), _, _, _] [aL (l8 - l8 / l10 * l10)] (sh_E h)
      have c := sh_okG H
      replace H := sh_okH H
      refine ai_WP_steps mc_333 (sh_CM d) 4 (And.intro c ?_)
      show wq_333 d Q 75 [_, _, _, _, _, _, _, _, oL (l8 - l8 / l10 * l10), _, oL l10, _, oL l12, _, oL l14, _, oI l16, oL (l8 / l10), _, oL (l12 / l14), _, _, _] [aL (l12 - l12 / l14 * l14)] (sh_E h)
      refine ai_WP_steps mc_333 (sh_CM d) 5 (And.intro (fun c => ?_) (fun c => ?_))
      · replace H := sh_okT c H
        show wq_333 d Q 84 [_, _, _, _, _, _, _, _, oL (l8 - l8 / l10 * l10), _, oL l10, _, oL (l12 - l12 / l14 * l14), _, oL l14, _, oI l16, oL (l8 / l10), _, oL (l12 / l14), _, _, _] [] (sh_E h)
        refine ai_WP_steps mc_333 (sh_CM d) 4 (And.intro (fun c => ?_) (fun c => ?_))
        · replace H := sh_okT c H
          show wq_333 d Q 91 [_, _, _, _, _, _, _, _, oL (l8 - l8 / l10 * l10), _, oL l10, _, oL (l12 - l12 / l14 * l14), _, oL l14, _, oI l16, oL (l8 / l10), _, oL (l12 / l14), _, _, _] [] (sh_E h)
          exact ai_WP_steps mc_333 (sh_CM d) 2 (hR (ai_nar 1 (0 : Int32)) H)
        · replace H := sh_okF c H
          exact x_M_isLess_b93 N hd h hR k17 hk17 k107 hk107 (l8 - l8 / l10 * l10) l10 (l12 - l12 / l14 * l14) l14 l16 H
      · replace H := sh_okF c H
        exact x_M_isLess_b93 N hd h hR k17 hk17 k107 hk107 (l8 - l8 / l10 * l10) l10 (l12 - l12 / l14 * l14) l14 l16 H
    · replace H := sh_okF c H
      exact hk39 l16 (l8 / l10) (l12 / l14) H
def f_M_isLess_b54 (N : Nat)   (s0 : Int32) (s1 : Int32) (h : sh_H) : Option Int32 := (if s0 = s1 then (some (ai_nar 1 (0 : Int32))) else (some (ai_nar 1 (1 : Int32))))
theorem x_M_isLess_b54 (N : Nat) {d : Nat} (hd : 0 ≤ d) (h : sh_H) {Q : ai_Q} {R : Int32 → Prop} (hR : ∀ r, R r → Q (some (aI r)) (sh_E h))   (s0 : Int32) (s1 : Int32) {d0 d1 d2 d3 d4 d5 d6 d7 d8 d9 d10 d11 d12 d13 d14 d15 d16 d17 d18 d19 d20 d21 d22 : Option ai_V} (H : sh_ok (f_M_isLess_b54 N s0 s1 h) R) : wq_333 d Q 54 [d0, d1, d2, d3, d4, d5, d6, d7, d8, d9, d10, d11, d12, d13, d14, d15, d16, d17, d18, d19, d20, d21, d22] [aI s1, aI s0] (sh_E h) := by
  refine ai_WP_steps mc_333 (sh_CM d) 1 (And.intro (fun c => ?_) (fun c => ?_))
  · replace H := sh_okT c H
    show wq_333 d Q 61 [_, _, _, _, _, _, _, _, _, _, _, _, _, _, _, _, _, _, _, _, _, _, _] [] (sh_E h)
    exact ai_WP_steps mc_333 (sh_CM d) 2 (hR (ai_nar 1 (0 : Int32)) H)
  · replace H := sh_okF c H
    show wq_333 d Q 57 [_, _, _, _, _, _, _, _, _, _, _, _, _, _, _, _, _, _, _, _, _, _, _] [] (sh_E h)
    exact ai_WP_steps mc_333 (sh_CM d) 3 (hR (ai_nar 1 (1 : Int32)) H)
def f_M_isLess_b39 (N : Nat)   (l16 : Int32) (l17 : Int64) (l19 : Int64) (h : sh_H) : Option Int32 := (if (lg_cmp l17 l19) < 0 then f_M_isLess_b54 N l16 (1 : Int32) h else f_M_isLess_b54 N l16 (0 : Int32) h)
theorem x_M_isLess_b39 (N : Nat) {d : Nat} (hd : 0 ≤ d) (h : sh_H) {Q : ai_Q} {R : Int32 → Prop} (hR : ∀ r, R r → Q (some (aI r)) (sh_E h))   (l16 : Int32) (l17 : Int64) (l19 : Int64) {d0 d1 d2 d3 d4 d5 d6 d7 d8 d9 d10 d11 d12 d13 d14 d15 d18 d20 d21 d22 : Option ai_V} (H : sh_ok (f_M_isLess_b39 N l16 l17 l19 h) R) : wq_333 d Q 39 [d0, d1, d2, d3, d4, d5, d6, d7, d8, d9, d10, d11, d12, d13, d14, d15, oI l16, oL l17, d18, oL l19, d20, d21, d22] [] (sh_E h) := by
  refine ai_WP_steps mc_333 (sh_CM d) 5 (And.intro (fun c => ?_) (fun c => ?_))
  · replace H := sh_okT c H
    show wq_333 d Q 49 [_, _, _, _, _, _, _, _, _, _, _, _, _, _, _, _, oI l16, oL l17, _, oL l19, _, _, _] [aI l16] (sh_E h)
    refine ai_WP_steps mc_333 (sh_CM d) 2 ?_
    exact x_M_isLess_b54 N hd h hR l16 (1 : Int32) H
  · replace H := sh_okF c H
    show wq_333 d Q 53 [_, _, _, _, _, _, _, _, _, _, _, _, _, _, _, _, oI l16, oL l17, _, oL l19, _, _, _] [aI l16] (sh_E h)
    refine ai_WP_steps mc_333 (sh_CM d) 1 ?_
    exact x_M_isLess_b54 N hd h hR l16 (0 : Int32) H
def f_M_isLess_b121 (N : Nat)   (s0 : Int32) (s1 : Int32) (h : sh_H) : Option Int32 := (if s0 = s1 then (some (ai_nar 1 (0 : Int32))) else (some (ai_nar 1 (1 : Int32))))
theorem x_M_isLess_b121 (N : Nat) {d : Nat} (hd : 0 ≤ d) (h : sh_H) {Q : ai_Q} {R : Int32 → Prop} (hR : ∀ r, R r → Q (some (aI r)) (sh_E h))   (s0 : Int32) (s1 : Int32) {d0 d1 d2 d3 d4 d5 d6 d7 d8 d9 d10 d11 d12 d13 d14 d15 d16 d17 d18 d19 d20 d21 d22 : Option ai_V} (H : sh_ok (f_M_isLess_b121 N s0 s1 h) R) : wq_333 d Q 121 [d0, d1, d2, d3, d4, d5, d6, d7, d8, d9, d10, d11, d12, d13, d14, d15, d16, d17, d18, d19, d20, d21, d22] [aI s1, aI s0] (sh_E h) := by
  refine ai_WP_steps mc_333 (sh_CM d) 1 (And.intro (fun c => ?_) (fun c => ?_))
  · replace H := sh_okT c H
    show wq_333 d Q 128 [_, _, _, _, _, _, _, _, _, _, _, _, _, _, _, _, _, _, _, _, _, _, _] [] (sh_E h)
    exact ai_WP_steps mc_333 (sh_CM d) 2 (hR (ai_nar 1 (0 : Int32)) H)
  · replace H := sh_okF c H
    show wq_333 d Q 124 [_, _, _, _, _, _, _, _, _, _, _, _, _, _, _, _, _, _, _, _, _, _, _] [] (sh_E h)
    exact ai_WP_steps mc_333 (sh_CM d) 3 (hR (ai_nar 1 (1 : Int32)) H)
def f_M_isLess_b107 (N : Nat)   (l8 : Int64) (l16 : Int32) (h : sh_H) : Option Int32 := (if (lg_cmp l8 (0 : Int64)) = 0 then f_M_isLess_b121 N l16 (1 : Int32) h else f_M_isLess_b121 N l16 (0 : Int32) h)
theorem x_M_isLess_b107 (N : Nat) {d : Nat} (hd : 0 ≤ d) (h : sh_H) {Q : ai_Q} {R : Int32 → Prop} (hR : ∀ r, R r → Q (some (aI r)) (sh_E h))   (l8 : Int64) (l16 : Int32) {d0 d1 d2 d3 d4 d5 d6 d7 d9 d10 d11 d12 d13 d14 d15 d17 d18 d19 d20 d21 d22 : Option ai_V} (H : sh_ok (f_M_isLess_b107 N l8 l16 h) R) : wq_333 d Q 107 [d0, d1, d2, d3, d4, d5, d6, d7, oL l8, d9, d10, d11, d12, d13, d14, d15, oI l16, d17, d18, d19, d20, d21, d22] [] (sh_E h) := by
  refine ai_WP_steps mc_333 (sh_CM d) 5 (And.intro (fun c => ?_) (fun c => ?_))
  · replace H := sh_okT c H
    show wq_333 d Q 116 [_, _, _, _, _, _, _, _, oL l8, _, _, _, _, _, _, _, oI l16, _, _, _, _, _, _] [aI l16] (sh_E h)
    refine ai_WP_steps mc_333 (sh_CM d) 2 ?_
    exact x_M_isLess_b121 N hd h hR l16 (1 : Int32) H
  · replace H := sh_okF c H
    show wq_333 d Q 120 [_, _, _, _, _, _, _, _, oL l8, _, _, _, _, _, _, _, oI l16, _, _, _, _, _, _] [aI l16] (sh_E h)
    refine ai_WP_steps mc_333 (sh_CM d) 1 ?_
    exact x_M_isLess_b121 N hd h hR l16 (0 : Int32) H
def f_M_isLess (N : Nat)  (l0 : Int64) (l2 : Int64) (l4 : Int64) (l6 : Int64) (h : sh_H) : Option Int32 := f_M_isLess_l17 N (f_M_isLess_b39 N) (f_M_isLess_b107 N) N l0 l2 l4 l6 (0 : Int32) h
theorem x_M_isLess (N : Nat) {d : Nat} (hd : 1 ≤ d) (l0 : Int64) (l2 : Int64) (l4 : Int64) (l6 : Int64) (h : sh_H) {Q : ai_Q} {R : Int32 → Prop} (H : sh_ok (f_M_isLess N l0 l2 l4 l6 h) R) (hR : ∀ r, R r → Q (some (aI r)) (sh_E h)) : ai_Ex sh_T d 333 [aL l0, aL l2, aL l4, aL l6] (sh_E h) Q := by
  obtain ⟨d, rfl⟩ : ∃ e, d = e + 1 := ⟨d - 1, by omega⟩
  replace hd : 0 ≤ d := by omega
  refine And.intro (Nat.le_of_ble_eq_true rfl) ?_
  show wq_333 d Q 0 [oL l0, none, oL l2, none, oL l4, none, oL l6, none, none, none, none, none, none, none, none, none, none, none, none, none, none, none, none] [] (sh_E h)
  refine ai_WP_steps mc_333 (sh_CM d) 10 ?_
  exact x_M_isLess_l17 N hd h hR (f_M_isLess_b39 N) (fun z0 z1 z2 {e0} {e1} {e2} {e3} {e4} {e5} {e6} {e7} {e8} {e9} {e10} {e11} {e12} {e13} {e14} {e15} {e18} {e20} {e21} {e22} H => x_M_isLess_b39 N hd h hR z0 z1 z2 H) (f_M_isLess_b107 N) (fun z0 z1 {e0} {e1} {e2} {e3} {e4} {e5} {e6} {e7} {e9} {e10} {e11} {e12} {e13} {e14} {e15} {e17} {e18} {e19} {e20} {e21} {e22} H => x_M_isLess_b107 N hd h hR z0 z1 H) N l0 l2 l4 l6 (0 : Int32) H
def f_M_whose_b123 (N : Nat)  (k45 : Int32 → Int64 → Int64 → Int32 → sh_H → Option (Int32 × sh_H)) (l2 : Int32) (l3 : Int64) (l5 : Int64) (l7 : Int32) (h : sh_H) : Option (Int32 × sh_H) := k45 l2 l3 l5 (l7 + (1 : Int32)) h
theorem x_M_whose_b123 (N : Nat) {d : Nat} (hd : 2 ≤ d) {Q : ai_Q} {R : Int32 × sh_H → Prop} (hR : ∀ r h, R (r, h) → Q (some (aI r)) (sh_E h))  (k45 : Int32 → Int64 → Int64 → Int32 → sh_H → Option (Int32 × sh_H)) (hk45 : ∀ (l2 : Int32) (l3 : Int64) (l5 : Int64) (l7 : Int32) {d1 d4 d6 d8 d9 d10 d11 : Option ai_V} (h : sh_H), sh_ok (k45 l2 l3 l5 l7 h) R → wq_334 d Q 45 [oR 12 0, d1, oI l2, oL l3, d4, oL l5, d6, oI l7, d8, d9, d10, d11] [] (sh_E h)) (l2 : Int32) (l3 : Int64) (l5 : Int64) (l7 : Int32) {d1 d4 d6 d8 d9 d10 d11 : Option ai_V} (h : sh_H) (H : sh_ok (f_M_whose_b123 N k45 l2 l3 l5 l7 h) R) : wq_334 d Q 123 [oR 12 0, d1, oI l2, oL l3, d4, oL l5, d6, oI l7, d8, d9, d10, d11] [] (sh_E h) := by
  refine ai_WP_steps mc_334 (sh_CM d) 2 ?_
  exact hk45 l2 l3 l5 (l7 + (1 : Int32)) h H
def f_M_whose_b113 (N : Nat)  (k45 : Int32 → Int64 → Int64 → Int32 → sh_H → Option (Int32 × sh_H)) (l7 : Int32) (l8 : Int64) (l10 : Int64) (h : sh_H) : Option (Int32 × sh_H) := f_M_whose_b123 N k45 l7 l8 l10 l7 h
theorem x_M_whose_b113 (N : Nat) {d : Nat} (hd : 2 ≤ d) {Q : ai_Q} {R : Int32 × sh_H → Prop} (hR : ∀ r h, R (r, h) → Q (some (aI r)) (sh_E h))  (k45 : Int32 → Int64 → Int64 → Int32 → sh_H → Option (Int32 × sh_H)) (hk45 : ∀ (l2 : Int32) (l3 : Int64) (l5 : Int64) (l7 : Int32) {d1 d4 d6 d8 d9 d10 d11 : Option ai_V} (h : sh_H), sh_ok (k45 l2 l3 l5 l7 h) R → wq_334 d Q 45 [oR 12 0, d1, oI l2, oL l3, d4, oL l5, d6, oI l7, d8, d9, d10, d11] [] (sh_E h)) (l7 : Int32) (l8 : Int64) (l10 : Int64) {d1 d2 d3 d4 d5 d6 d9 d11 : Option ai_V} (h : sh_H) (H : sh_ok (f_M_whose_b113 N k45 l7 l8 l10 h) R) : wq_334 d Q 113 [oR 12 0, d1, d2, d3, d4, d5, d6, oI l7, oL l8, d9, oL l10, d11] [] (sh_E h) := by
  refine ai_WP_steps mc_334 (sh_CM d) 6 ?_
  exact x_M_whose_b123 N hd hR k45 hk45 l7 l8 l10 l7 h H
def f_M_whose_c45 (N : Nat)   (k45 : Int32 → Int64 → Int64 → Int32 → sh_H → Option (Int32 × sh_H)) (l2 : Int32) (l3 : Int64) (l5 : Int64) (l7 : Int32) (h : sh_H) : Option (Int32 × sh_H) := (if ai_in (1 : Int32) 8000 then (if (h.1 13 46 (1 : Int32).toNatClampNeg) < l7 then (some (l2, h)) else (if ai_in l7 5 then (if (h.1 13 60 l7.toNatClampNeg) = 0 then f_M_whose_b123 N k45 l2 l3 l5 l7 h else (Option.bind (f_M_falseWays N l7 h) (fun v1 => (if ai_in l7 5 then (Option.bind (f_M_chosen N (h.1 12 0 40) (h.1 13 60 l7.toNatClampNeg) h) (fun v2 => (if l2 < 0 then f_M_whose_b113 N k45 l7 v1 v2 h else (Option.bind (f_M_isLess N v1 v2 l3 l5 h) (fun v3 => (if v3 = 0 then f_M_whose_b123 N k45 l2 l3 l5 l7 h else f_M_whose_b113 N k45 l7 v1 v2 h)))))) else none)))) else none)) else none)
def f_M_whose_l45 (N : Nat)   (n : Nat) : Int32 → Int64 → Int64 → Int32 → sh_H → Option (Int32 × sh_H) := Nat.rec (motive := fun _ => Int32 → Int64 → Int64 → Int32 → sh_H → Option (Int32 × sh_H)) (fun _ _ _ _ _ => none) (fun _ k45 => f_M_whose_c45 N k45) n
theorem x_M_whose_l45 (N : Nat) {d : Nat} (hd : 2 ≤ d) {Q : ai_Q} {R : Int32 × sh_H → Prop} (hR : ∀ r h, R (r, h) → Q (some (aI r)) (sh_E h))   (n : Nat) : ∀ (l2 : Int32) (l3 : Int64) (l5 : Int64) (l7 : Int32) {d1 d4 d6 d8 d9 d10 d11 : Option ai_V} (h : sh_H), sh_ok (f_M_whose_l45 N n l2 l3 l5 l7 h) R → wq_334 d Q 45 [oR 12 0, d1, oI l2, oL l3, d4, oL l5, d6, oI l7, d8, d9, d10, d11] [] (sh_E h) := by
  induction n with
  | zero => intro l2 l3 l5 l7 d1 d4 d6 d8 d9 d10 d11 h H; exact H.elim
  | succ n ih =>
    intro l2 l3 l5 l7 d1 d4 d6 d8 d9 d10 d11 h H
    have hk45 := @ih
    replace H : sh_ok (f_M_whose_c45 N (f_M_whose_l45 N n) l2 l3 l5 l7 h) R := H
    revert hk45 H
    generalize f_M_whose_l45 N n = k45
    intro hk45 H
    have c := sh_okG H
    replace H := sh_okH H
    refine ai_WP_steps mc_334 (sh_CM d) 5 (And.intro c ?_)
    show wq_334 d Q 53 [oR 12 0, _, oI l2, oL l3, _, oL l5, _, oI l7, _, _, _, _] [aI (h.1 13 46 (1 : Int32).toNatClampNeg), aI l7] (sh_E h)
    refine ai_WP_steps mc_334 (sh_CM d) 1 (And.intro (fun c => ?_) (fun c => ?_))
    · replace H := sh_okT c H
      show wq_334 d Q 129 [oR 12 0, _, oI l2, oL l3, _, oL l5, _, oI l7, _, _, _, _] [] (sh_E h)
      exact ai_WP_steps mc_334 (sh_CM d) 2 (hR l2 h H)
    · replace H := sh_okF c H
      show wq_334 d Q 56 [oR 12 0, _, oI l2, oL l3, _, oL l5, _, oI l7, _, _, _, _] [] (sh_E h)
      have c := sh_okG H
      replace H := sh_okH H
      refine ai_WP_steps mc_334 (sh_CM d) 4 (And.intro c ?_)
      show wq_334 d Q 63 [oR 12 0, _, oI l2, oL l3, _, oL l5, _, oI l7, _, _, _, _] [aI (h.1 13 60 l7.toNatClampNeg)] (sh_E h)
      refine ai_WP_steps mc_334 (sh_CM d) 1 (And.intro (fun c => ?_) (fun c => ?_))
      · replace H := sh_okT c H
        show wq_334 d Q 66 [oR 12 0, _, oI l2, oL l3, _, oL l5, _, oI l7, _, _, _, _] [] (sh_E h)
        refine ai_WP_steps mc_334 (sh_CM d) 1 ?_
        exact x_M_whose_b123 N hd hR k45 hk45 l2 l3 l5 l7 h H
      · replace H := sh_okF c H
        show wq_334 d Q 69 [oR 12 0, _, oI l2, oL l3, _, oL l5, _, oI l7, _, _, _, _] [] (sh_E h)
        refine ai_WP_steps mc_334 (sh_CM d) 3 (And.intro (Nat.le_of_ble_eq_true rfl) (x_M_falseWays N (Nat.le_trans (Nat.le_of_ble_eq_true rfl) hd) l7 h (sh_okB H) (fun v1 H => ?_)))
        show wq_334 d Q 75 [oR 12 0, _, oI l2, oL l3, _, oL l5, _, oI l7, _, _, _, _] [aL v1] (sh_E h)
        have c := sh_okG H
        replace H := sh_okH H
        refine ai_WP_steps mc_334 (sh_CM d) 7 (And.intro c ?_)
        show wq_334 d Q 88 [oR 12 0, _, oI l2, oL l3, _, oL l5, _, oI l7, oL v1, _, _, _] [aI (h.1 13 60 l7.toNatClampNeg), aI (h.1 12 0 40)] (sh_E h)
        refine ai_WP_steps mc_334 (sh_CM d) 1 (And.intro (Nat.le_of_ble_eq_true rfl) (x_M_chosen N (Nat.le_trans (Nat.le_of_ble_eq_true rfl) hd) (h.1 12 0 40) (h.1 13 60 l7.toNatClampNeg) h (sh_okB H) (fun v2 H => ?_)))
        show wq_334 d Q 91 [oR 12 0, _, oI l2, oL l3, _, oL l5, _, oI l7, oL v1, _, _, _] [aL v2] (sh_E h)
        refine ai_WP_steps mc_334 (sh_CM d) 3 (And.intro (fun c => ?_) (fun c => ?_))
        · replace H := sh_okT c H
          exact x_M_whose_b113 N hd hR k45 hk45 l7 v1 v2 h H
        · replace H := sh_okF c H
          show wq_334 d Q 97 [oR 12 0, _, oI l2, oL l3, _, oL l5, _, oI l7, oL v1, _, oL v2, _] [] (sh_E h)
          refine ai_WP_steps mc_334 (sh_CM d) 5 (And.intro (Nat.le_of_ble_eq_true rfl) (x_M_isLess N (Nat.le_trans (Nat.le_of_ble_eq_true rfl) hd) v1 v2 l3 l5 h (sh_okB H) (fun v3 H => ?_)))
          show wq_334 d Q 107 [oR 12 0, _, oI l2, oL l3, _, oL l5, _, oI l7, oL v1, _, oL v2, _] [aI v3] (sh_E h)
          refine ai_WP_steps mc_334 (sh_CM d) 1 (And.intro (fun c => ?_) (fun c => ?_))
          · replace H := sh_okT c H
            show wq_334 d Q 110 [oR 12 0, _, oI l2, oL l3, _, oL l5, _, oI l7, oL v1, _, oL v2, _] [] (sh_E h)
            refine ai_WP_steps mc_334 (sh_CM d) 1 ?_
            exact x_M_whose_b123 N hd hR k45 hk45 l2 l3 l5 l7 h H
          · replace H := sh_okF c H
            exact x_M_whose_b113 N hd hR k45 hk45 l7 v1 v2 h H
def f_M_whose (N : Nat)  (l1 : Int32) (h : sh_H) : Option (Int32 × sh_H) := (Option.bind (f_M_isKnown l1 h) (fun v4 => (if v4 = 0 then (some ((-1 : Int32), h)) else (Option.bind (f_M_layFalse N l1 h) (fun h5 => (if (h5.1 12 0 40) = 0 then (some ((-2 : Int32), h5)) else (if (60 : Int32) < (h5.1 12 0 40) then (some ((-2 : Int32), h5)) else f_M_whose_l45 N N (-2 : Int32) (0 : Int64) (1 : Int64) (1 : Int32) h5)))))))
theorem x_M_whose (N : Nat) {d : Nat} (hd : 3 ≤ d) (l1 : Int32) (h : sh_H) {Q : ai_Q} {R : Int32 × sh_H → Prop} (H : sh_ok (f_M_whose N l1 h) R) (hR : ∀ r h, R (r, h) → Q (some (aI r)) (sh_E h)) : ai_Ex sh_T d 334 [aR 12 0, aI l1] (sh_E h) Q := by
  obtain ⟨d, rfl⟩ : ∃ e, d = e + 1 := ⟨d - 1, by omega⟩
  replace hd : 2 ≤ d := by omega
  refine And.intro (Nat.le_of_ble_eq_true rfl) ?_
  show wq_334 d Q 0 [oR 12 0, oI l1, none, none, none, none, none, none, none, none, none, none] [] (sh_E h)
  refine ai_WP_steps mc_334 (sh_CM d) 3 (And.intro (Nat.le_of_ble_eq_true rfl) (x_M_isKnown (Nat.le_trans (Nat.le_of_ble_eq_true rfl) hd) l1 h (sh_okB H) (fun v4 H => ?_)))
  show wq_334 d Q 5 [oR 12 0, oI l1, _, _, _, _, _, _, _, _, _, _] [aI v4] (sh_E h)
  refine ai_WP_steps mc_334 (sh_CM d) 1 (And.intro (fun c => ?_) (fun c => ?_))
  · replace H := sh_okT c H
    show wq_334 d Q 8 [oR 12 0, oI l1, _, _, _, _, _, _, _, _, _, _] [] (sh_E h)
    exact ai_WP_steps mc_334 (sh_CM d) 2 (hR (-1 : Int32) h H)
  · replace H := sh_okF c H
    show wq_334 d Q 10 [oR 12 0, oI l1, _, _, _, _, _, _, _, _, _, _] [] (sh_E h)
    refine ai_WP_steps mc_334 (sh_CM d) 3 (And.intro (Nat.le_of_ble_eq_true rfl) (x_M_layFalse N (Nat.le_trans (Nat.le_of_ble_eq_true rfl) hd) l1 h (sh_okB H) (fun h5 H => ?_)))
    show wq_334 d Q 15 [oR 12 0, oI l1, _, _, _, _, _, _, _, _, _, _] [] (sh_E h5)
    refine ai_WP_steps mc_334 (sh_CM d) 3 (And.intro (fun c => ?_) (fun c => ?_))
    · replace H := sh_okT c H
      show wq_334 d Q 31 [oR 12 0, oI l1, _, _, _, _, _, _, _, _, _, _] [] (sh_E h5)
      exact ai_WP_steps mc_334 (sh_CM d) 2 (hR (-2 : Int32) h5 H)
    · replace H := sh_okF c H
      show wq_334 d Q 22 [oR 12 0, oI l1, _, _, _, _, _, _, _, _, _, _] [] (sh_E h5)
      refine ai_WP_steps mc_334 (sh_CM d) 4 (And.intro (fun c => ?_) (fun c => ?_))
      · replace H := sh_okT c H
        show wq_334 d Q 31 [oR 12 0, oI l1, _, _, _, _, _, _, _, _, _, _] [] (sh_E h5)
        exact ai_WP_steps mc_334 (sh_CM d) 2 (hR (-2 : Int32) h5 H)
      · replace H := sh_okF c H
        show wq_334 d Q 34 [oR 12 0, oI l1, _, _, _, _, _, _, _, _, _, _] [] (sh_E h5)
        refine ai_WP_steps mc_334 (sh_CM d) 8 ?_
        exact x_M_whose_l45 N hd hR N (-2 : Int32) (0 : Int64) (1 : Int64) (1 : Int32) h5 H
def f_M_whoseWays_b16 (N : Nat)    (h : sh_H) : Option (Int64 × sh_H) := (some ((-1 : Int64), h))
theorem x_M_whoseWays_b16 (N : Nat) {d : Nat} (hd : 2 ≤ d) {Q : ai_Q} {R : Int64 × sh_H → Prop} (hR : ∀ r h, R (r, h) → Q (some (aL r)) (sh_E h))    {d0 d1 d2 d3 : Option ai_V} (h : sh_H) (H : sh_ok (f_M_whoseWays_b16 N h) R) : wq_335 d Q 16 [d0, d1, d2, d3] [] (sh_E h) := by
  exact ai_WP_steps mc_335 (sh_CM d) 2 (hR (-1 : Int64) h H)
def f_M_whoseWays_b50 (N : Nat)    (h : sh_H) : Option (Int64 × sh_H) := (some ((-2 : Int64), h))
theorem x_M_whoseWays_b50 (N : Nat) {d : Nat} (hd : 2 ≤ d) {Q : ai_Q} {R : Int64 × sh_H → Prop} (hR : ∀ r h, R (r, h) → Q (some (aL r)) (sh_E h))    {d0 d1 d2 d3 : Option ai_V} (h : sh_H) (H : sh_ok (f_M_whoseWays_b50 N h) R) : wq_335 d Q 50 [d0, d1, d2, d3] [] (sh_E h) := by
  exact ai_WP_steps mc_335 (sh_CM d) 2 (hR (-2 : Int64) h H)
def f_M_whoseWays (N : Nat)  (l1 : Int32) (l2 : Int32) (l3 : Int32) (h : sh_H) : Option (Int64 × sh_H) := (Option.bind (f_M_isIsland l1 h) (fun v1 => (if v1 = 0 then f_M_whoseWays_b16 N h else (Option.bind (f_M_isKnown l2 h) (fun v2 => (if v2 = 0 then f_M_whoseWays_b16 N h else (Option.bind (f_M_layFalse N l2 h) (fun h3 => (if (h3.1 12 0 40) = 0 then f_M_whoseWays_b50 N h3 else (if (60 : Int32) < (h3.1 12 0 40) then f_M_whoseWays_b50 N h3 else (if ai_in l1 5 then (if (h3.1 13 60 l1.toNatClampNeg) = 0 then f_M_whoseWays_b50 N h3 else (if l3 = 0 then (if ai_in l1 5 then (Option.bind (f_M_chosen N (h3.1 12 0 40) (h3.1 13 60 l1.toNatClampNeg) h3) (fun v4 => (some (v4, h3)))) else none) else (Option.bind (f_M_falseWays N l1 h3) (fun v5 => (some (v5, h3)))))) else none)))))))))))
theorem x_M_whoseWays (N : Nat) {d : Nat} (hd : 3 ≤ d) (l1 : Int32) (l2 : Int32) (l3 : Int32) (h : sh_H) {Q : ai_Q} {R : Int64 × sh_H → Prop} (H : sh_ok (f_M_whoseWays N l1 l2 l3 h) R) (hR : ∀ r h, R (r, h) → Q (some (aL r)) (sh_E h)) : ai_Ex sh_T d 335 [aR 12 0, aI l1, aI l2, aI l3] (sh_E h) Q := by
  obtain ⟨d, rfl⟩ : ∃ e, d = e + 1 := ⟨d - 1, by omega⟩
  replace hd : 2 ≤ d := by omega
  refine And.intro (Nat.le_of_ble_eq_true rfl) ?_
  show wq_335 d Q 0 [oR 12 0, oI l1, oI l2, oI l3] [] (sh_E h)
  refine ai_WP_steps mc_335 (sh_CM d) 3 (And.intro (Nat.le_of_ble_eq_true rfl) (x_M_isIsland (Nat.le_trans (Nat.le_of_ble_eq_true rfl) hd) l1 h (sh_okB H) (fun v1 H => ?_)))
  show wq_335 d Q 5 [oR 12 0, oI l1, oI l2, oI l3] [aI v1] (sh_E h)
  refine ai_WP_steps mc_335 (sh_CM d) 1 (And.intro (fun c => ?_) (fun c => ?_))
  · replace H := sh_okT c H
    exact x_M_whoseWays_b16 N hd hR h H
  · replace H := sh_okF c H
    show wq_335 d Q 8 [oR 12 0, oI l1, oI l2, oI l3] [] (sh_E h)
    refine ai_WP_steps mc_335 (sh_CM d) 3 (And.intro (Nat.le_of_ble_eq_true rfl) (x_M_isKnown (Nat.le_trans (Nat.le_of_ble_eq_true rfl) hd) l2 h (sh_okB H) (fun v2 H => ?_)))
    show wq_335 d Q 13 [oR 12 0, oI l1, oI l2, oI l3] [aI v2] (sh_E h)
    refine ai_WP_steps mc_335 (sh_CM d) 1 (And.intro (fun c => ?_) (fun c => ?_))
    · replace H := sh_okT c H
      exact x_M_whoseWays_b16 N hd hR h H
    · replace H := sh_okF c H
      show wq_335 d Q 20 [oR 12 0, oI l1, oI l2, oI l3] [] (sh_E h)
      refine ai_WP_steps mc_335 (sh_CM d) 3 (And.intro (Nat.le_of_ble_eq_true rfl) (x_M_layFalse N (Nat.le_trans (Nat.le_of_ble_eq_true rfl) hd) l2 h (sh_okB H) (fun h3 H => ?_)))
      show wq_335 d Q 25 [oR 12 0, oI l1, oI l2, oI l3] [] (sh_E h3)
      refine ai_WP_steps mc_335 (sh_CM d) 3 (And.intro (fun c => ?_) (fun c => ?_))
      · replace H := sh_okT c H
        exact x_M_whoseWays_b50 N hd hR h3 H
      · replace H := sh_okF c H
        show wq_335 d Q 32 [oR 12 0, oI l1, oI l2, oI l3] [] (sh_E h3)
        refine ai_WP_steps mc_335 (sh_CM d) 4 (And.intro (fun c => ?_) (fun c => ?_))
        · replace H := sh_okT c H
          exact x_M_whoseWays_b50 N hd hR h3 H
        · replace H := sh_okF c H
          show wq_335 d Q 41 [oR 12 0, oI l1, oI l2, oI l3] [] (sh_E h3)
          have c := sh_okG H
          replace H := sh_okH H
          refine ai_WP_steps mc_335 (sh_CM d) 4 (And.intro c ?_)
          show wq_335 d Q 47 [oR 12 0, oI l1, oI l2, oI l3] [aI (h3.1 13 60 l1.toNatClampNeg)] (sh_E h3)
          refine ai_WP_steps mc_335 (sh_CM d) 1 (And.intro (fun c => ?_) (fun c => ?_))
          · replace H := sh_okT c H
            exact x_M_whoseWays_b50 N hd hR h3 H
          · replace H := sh_okF c H
            show wq_335 d Q 54 [oR 12 0, oI l1, oI l2, oI l3] [] (sh_E h3)
            refine ai_WP_steps mc_335 (sh_CM d) 2 (And.intro (fun c => ?_) (fun c => ?_))
            · replace H := sh_okT c H
              show wq_335 d Q 66 [oR 12 0, oI l1, oI l2, oI l3] [] (sh_E h3)
              have c := sh_okG H
              replace H := sh_okH H
              refine ai_WP_steps mc_335 (sh_CM d) 6 (And.intro c ?_)
              show wq_335 d Q 76 [oR 12 0, oI l1, oI l2, oI l3] [aI (h3.1 13 60 l1.toNatClampNeg), aI (h3.1 12 0 40)] (sh_E h3)
              refine ai_WP_steps mc_335 (sh_CM d) 1 (And.intro (Nat.le_of_ble_eq_true rfl) (x_M_chosen N (Nat.le_trans (Nat.le_of_ble_eq_true rfl) hd) (h3.1 12 0 40) (h3.1 13 60 l1.toNatClampNeg) h3 (sh_okB H) (fun v4 H => ?_)))
              show wq_335 d Q 79 [oR 12 0, oI l1, oI l2, oI l3] [aL v4] (sh_E h3)
              exact ai_WP_steps mc_335 (sh_CM d) 1 (hR v4 h3 H)
            · replace H := sh_okF c H
              show wq_335 d Q 58 [oR 12 0, oI l1, oI l2, oI l3] [] (sh_E h3)
              refine ai_WP_steps mc_335 (sh_CM d) 3 (And.intro (Nat.le_of_ble_eq_true rfl) (x_M_falseWays N (Nat.le_trans (Nat.le_of_ble_eq_true rfl) hd) l1 h3 (sh_okB H) (fun v5 H => ?_)))
              show wq_335 d Q 63 [oR 12 0, oI l1, oI l2, oI l3] [aL v5] (sh_E h3)
              exact ai_WP_steps mc_335 (sh_CM d) 2 (hR v5 h3 H)
def f_M_isTrickle_b35    (h : sh_H) : Option Int32 := (some (ai_nar 1 (0 : Int32)))
theorem x_M_isTrickle_b35 {d : Nat} (hd : 1 ≤ d) (h : sh_H) {Q : ai_Q} {R : Int32 → Prop} (hR : ∀ r, R r → Q (some (aI r)) (sh_E h))    {d0 d1 d2 : Option ai_V} (H : sh_ok (f_M_isTrickle_b35 h) R) : wq_336 d Q 35 [d0, d1, d2] [] (sh_E h) := by
  exact ai_WP_steps mc_336 (sh_CM d) 2 (hR (ai_nar 1 (0 : Int32)) H)
def f_M_isTrickle  (l0 : Int32) (l1 : Int32) (l2 : Int32) (h : sh_H) : Option Int32 := (Option.bind (f_M_isIn l0 (0 : Int32) (9999 : Int32) h) (fun v1 => (if v1 = 0 then f_M_isTrickle_b35 h else (Option.bind (f_M_isIn l1 (0 : Int32) (10 : Int32) h) (fun v2 => (if v2 = 0 then f_M_isTrickle_b35 h else (Option.bind (f_M_isIn l2 (0 : Int32) (10 : Int32) h) (fun v3 => (if v3 = 0 then f_M_isTrickle_b35 h else (some (ai_nar 1 (1 : Int32))))))))))))
theorem x_M_isTrickle {d : Nat} (hd : 2 ≤ d) (l0 : Int32) (l1 : Int32) (l2 : Int32) (h : sh_H) {Q : ai_Q} {R : Int32 → Prop} (H : sh_ok (f_M_isTrickle l0 l1 l2 h) R) (hR : ∀ r, R r → Q (some (aI r)) (sh_E h)) : ai_Ex sh_T d 336 [aI l0, aI l1, aI l2] (sh_E h) Q := by
  obtain ⟨d, rfl⟩ : ∃ e, d = e + 1 := ⟨d - 1, by omega⟩
  replace hd : 1 ≤ d := by omega
  refine And.intro (Nat.le_of_ble_eq_true rfl) ?_
  show wq_336 d Q 0 [oI l0, oI l1, oI l2] [] (sh_E h)
  refine ai_WP_steps mc_336 (sh_CM d) 4 (And.intro (Nat.le_of_ble_eq_true rfl) (x_M_isIn (Nat.le_trans (Nat.le_of_ble_eq_true rfl) hd) l0 (0 : Int32) (9999 : Int32) h (sh_okB H) (fun v1 H => ?_)))
  show wq_336 d Q 8 [oI l0, oI l1, oI l2] [aI v1] (sh_E h)
  refine ai_WP_steps mc_336 (sh_CM d) 1 (And.intro (fun c => ?_) (fun c => ?_))
  · replace H := sh_okT c H
    exact x_M_isTrickle_b35 hd h hR H
  · replace H := sh_okF c H
    show wq_336 d Q 11 [oI l0, oI l1, oI l2] [] (sh_E h)
    refine ai_WP_steps mc_336 (sh_CM d) 4 (And.intro (Nat.le_of_ble_eq_true rfl) (x_M_isIn (Nat.le_trans (Nat.le_of_ble_eq_true rfl) hd) l1 (0 : Int32) (10 : Int32) h (sh_okB H) (fun v2 H => ?_)))
    show wq_336 d Q 18 [oI l0, oI l1, oI l2] [aI v2] (sh_E h)
    refine ai_WP_steps mc_336 (sh_CM d) 1 (And.intro (fun c => ?_) (fun c => ?_))
    · replace H := sh_okT c H
      exact x_M_isTrickle_b35 hd h hR H
    · replace H := sh_okF c H
      show wq_336 d Q 21 [oI l0, oI l1, oI l2] [] (sh_E h)
      refine ai_WP_steps mc_336 (sh_CM d) 4 (And.intro (Nat.le_of_ble_eq_true rfl) (x_M_isIn (Nat.le_trans (Nat.le_of_ble_eq_true rfl) hd) l2 (0 : Int32) (10 : Int32) h (sh_okB H) (fun v3 H => ?_)))
      show wq_336 d Q 28 [oI l0, oI l1, oI l2] [aI v3] (sh_E h)
      refine ai_WP_steps mc_336 (sh_CM d) 1 (And.intro (fun c => ?_) (fun c => ?_))
      · replace H := sh_okT c H
        exact x_M_isTrickle_b35 hd h hR H
      · replace H := sh_okF c H
        show wq_336 d Q 31 [oI l0, oI l1, oI l2] [] (sh_E h)
        exact ai_WP_steps mc_336 (sh_CM d) 3 (hR (ai_nar 1 (1 : Int32)) H)
def f_M_trickle_c31 (N : Nat)   (k31 : Int32 → Int32 → Int32 → Int32 → Int32 → Int32 → sh_H → Option Int32) (l2 : Int32) (l3 : Int32) (l4 : Int32) (l5 : Int32) (l6 : Int32) (l7 : Int32) (h : sh_H) : Option Int32 := (if l7 < l4 then (if ¬ (10 : Int32) = 0 then (if ¬ (10 : Int32) = 0 then k31 l2 l3 l4 ((l5 - (((l5 * l2) + (9 : Int32)) / (10 : Int32))) - (((l5 - (((l5 * l2) + (9 : Int32)) / (10 : Int32))) * l3) / (10 : Int32))) (l6 + (((l5 * l2) + (9 : Int32)) / (10 : Int32))) (l7 + (1 : Int32)) h else none) else none) else (some l6))
def f_M_trickle_l31 (N : Nat)   (n : Nat) : Int32 → Int32 → Int32 → Int32 → Int32 → Int32 → sh_H → Option Int32 := Nat.rec (motive := fun _ => Int32 → Int32 → Int32 → Int32 → Int32 → Int32 → sh_H → Option Int32) (fun _ _ _ _ _ _ _ => none) (fun _ k31 => f_M_trickle_c31 N k31) n
theorem x_M_trickle_l31 (N : Nat) {d : Nat} (hd : 2 ≤ d) (h : sh_H) {Q : ai_Q} {R : Int32 → Prop} (hR : ∀ r, R r → Q (some (aI r)) (sh_E h))   (n : Nat) : ∀ (l2 : Int32) (l3 : Int32) (l4 : Int32) (l5 : Int32) (l6 : Int32) (l7 : Int32) {d0 d1 d8 : Option ai_V}, sh_ok (f_M_trickle_l31 N n l2 l3 l4 l5 l6 l7 h) R → wq_337 d Q 31 [d0, d1, oI l2, oI l3, oI l4, oI l5, oI l6, oI l7, d8] [] (sh_E h) := by
  induction n with
  | zero => intro l2 l3 l4 l5 l6 l7 d0 d1 d8 H; exact H.elim
  | succ n ih =>
    intro l2 l3 l4 l5 l6 l7 d0 d1 d8 H
    have hk31 := @ih
    replace H : sh_ok (f_M_trickle_c31 N (f_M_trickle_l31 N n) l2 l3 l4 l5 l6 l7 h) R := H
    revert hk31 H
    generalize f_M_trickle_l31 N n = k31
    intro hk31 H
    refine ai_WP_steps mc_337 (sh_CM d) 3 (And.intro (fun c => ?_) (fun c => ?_))
    · replace H := sh_okT c H
      show wq_337 d Q 38 [_, _, oI l2, oI l3, oI l4, oI l5, oI l6, oI l7, _] [] (sh_E h)
      have c := sh_okG H
      replace H := sh_okH H
      refine ai_WP_steps mc_337 (sh_CM d) 7 (And.intro c ?_)
      show wq_337 d Q 48 [_, _, oI l2, oI l3, oI l4, oI l5, oI l6, oI l7, _] [aI (((l5 * l2) + (9 : Int32)) / (10 : Int32))] (sh_E h)
      have c := sh_okG H
      replace H := sh_okH H
      refine ai_WP_steps mc_337 (sh_CM d) 15 (And.intro c ?_)
      show wq_337 d Q 73 [_, _, oI l2, oI l3, oI l4, oI (l5 - (((l5 * l2) + (9 : Int32)) / (10 : Int32))), oI (l6 + (((l5 * l2) + (9 : Int32)) / (10 : Int32))), oI l7, oI (((l5 * l2) + (9 : Int32)) / (10 : Int32))] [aI (((l5 - (((l5 * l2) + (9 : Int32)) / (10 : Int32))) * l3) / (10 : Int32)), aI (l5 - (((l5 * l2) + (9 : Int32)) / (10 : Int32)))] (sh_E h)
      refine ai_WP_steps mc_337 (sh_CM d) 4 ?_
      exact hk31 l2 l3 l4 ((l5 - (((l5 * l2) + (9 : Int32)) / (10 : Int32))) - (((l5 - (((l5 * l2) + (9 : Int32)) / (10 : Int32))) * l3) / (10 : Int32))) (l6 + (((l5 * l2) + (9 : Int32)) / (10 : Int32))) (l7 + (1 : Int32)) H
    · replace H := sh_okF c H
      show wq_337 d Q 82 [_, _, oI l2, oI l3, oI l4, oI l5, oI l6, oI l7, _] [] (sh_E h)
      exact ai_WP_steps mc_337 (sh_CM d) 2 (hR l6 H)
def f_M_trickle (N : Nat)  (l1 : Int32) (l2 : Int32) (l3 : Int32) (l4 : Int32) (h : sh_H) : Option Int32 := (Option.bind (f_M_isTrickle l1 l2 l3 h) (fun v1 => (if v1 = 0 then (some (-1 : Int32)) else (Option.bind (f_M_isIn l4 (0 : Int32) (60 : Int32) h) (fun v2 => (if v2 = 0 then (some (-1 : Int32)) else f_M_trickle_l31 N N l2 l3 l4 l1 (0 : Int32) (0 : Int32) h))))))
theorem x_M_trickle (N : Nat) {d : Nat} (hd : 3 ≤ d) (l1 : Int32) (l2 : Int32) (l3 : Int32) (l4 : Int32) (h : sh_H) {Q : ai_Q} {R : Int32 → Prop} (H : sh_ok (f_M_trickle N l1 l2 l3 l4 h) R) (hR : ∀ r, R r → Q (some (aI r)) (sh_E h)) : ai_Ex sh_T d 337 [aR 12 0, aI l1, aI l2, aI l3, aI l4] (sh_E h) Q := by
  obtain ⟨d, rfl⟩ : ∃ e, d = e + 1 := ⟨d - 1, by omega⟩
  replace hd : 2 ≤ d := by omega
  refine And.intro (Nat.le_of_ble_eq_true rfl) ?_
  show wq_337 d Q 0 [oR 12 0, oI l1, oI l2, oI l3, oI l4, none, none, none, none] [] (sh_E h)
  refine ai_WP_steps mc_337 (sh_CM d) 4 (And.intro (Nat.le_of_ble_eq_true rfl) (x_M_isTrickle (Nat.le_trans (Nat.le_of_ble_eq_true rfl) hd) l1 l2 l3 h (sh_okB H) (fun v1 H => ?_)))
  show wq_337 d Q 6 [oR 12 0, oI l1, oI l2, oI l3, oI l4, _, _, _, _] [aI v1] (sh_E h)
  refine ai_WP_steps mc_337 (sh_CM d) 1 (And.intro (fun c => ?_) (fun c => ?_))
  · replace H := sh_okT c H
    show wq_337 d Q 20 [oR 12 0, oI l1, oI l2, oI l3, oI l4, _, _, _, _] [] (sh_E h)
    exact ai_WP_steps mc_337 (sh_CM d) 2 (hR (-1 : Int32) H)
  · replace H := sh_okF c H
    show wq_337 d Q 9 [oR 12 0, oI l1, oI l2, oI l3, oI l4, _, _, _, _] [] (sh_E h)
    refine ai_WP_steps mc_337 (sh_CM d) 4 (And.intro (Nat.le_of_ble_eq_true rfl) (x_M_isIn (Nat.le_trans (Nat.le_of_ble_eq_true rfl) hd) l4 (0 : Int32) (60 : Int32) h (sh_okB H) (fun v2 H => ?_)))
    show wq_337 d Q 17 [oR 12 0, oI l1, oI l2, oI l3, oI l4, _, _, _, _] [aI v2] (sh_E h)
    refine ai_WP_steps mc_337 (sh_CM d) 1 (And.intro (fun c => ?_) (fun c => ?_))
    · replace H := sh_okT c H
      show wq_337 d Q 20 [oR 12 0, oI l1, oI l2, oI l3, oI l4, _, _, _, _] [] (sh_E h)
      exact ai_WP_steps mc_337 (sh_CM d) 2 (hR (-1 : Int32) H)
    · replace H := sh_okF c H
      show wq_337 d Q 22 [oR 12 0, oI l1, oI l2, oI l3, oI l4, _, _, _, _] [] (sh_E h)
      refine ai_WP_steps mc_337 (sh_CM d) 6 ?_
      exact x_M_trickle_l31 N hd h hR N l2 l3 l4 l1 (0 : Int32) (0 : Int32) H
def f_M_trickled_c29 (N : Nat)   (k29 : Int32 → Int32 → Int32 → Int32 → Int32 → sh_H → Option Int32) (l2 : Int32) (l3 : Int32) (l4 : Int32) (l5 : Int32) (l6 : Int32) (h : sh_H) : Option Int32 := (if (240 : Int32) < l6 then (some (-2 : Int32)) else (if l4 < l5 then (if ¬ (10 : Int32) = 0 then (if ¬ (10 : Int32) = 0 then k29 l2 l3 l4 ((l5 - (((l5 * l2) + (9 : Int32)) / (10 : Int32))) - (((l5 - (((l5 * l2) + (9 : Int32)) / (10 : Int32))) * l3) / (10 : Int32))) (l6 + (1 : Int32)) h else none) else none) else (some l6)))
def f_M_trickled_l29 (N : Nat)   (n : Nat) : Int32 → Int32 → Int32 → Int32 → Int32 → sh_H → Option Int32 := Nat.rec (motive := fun _ => Int32 → Int32 → Int32 → Int32 → Int32 → sh_H → Option Int32) (fun _ _ _ _ _ _ => none) (fun _ k29 => f_M_trickled_c29 N k29) n
theorem x_M_trickled_l29 (N : Nat) {d : Nat} (hd : 2 ≤ d) (h : sh_H) {Q : ai_Q} {R : Int32 → Prop} (hR : ∀ r, R r → Q (some (aI r)) (sh_E h))   (n : Nat) : ∀ (l2 : Int32) (l3 : Int32) (l4 : Int32) (l5 : Int32) (l6 : Int32) {d0 d1 : Option ai_V}, sh_ok (f_M_trickled_l29 N n l2 l3 l4 l5 l6 h) R → wq_338 d Q 29 [d0, d1, oI l2, oI l3, oI l4, oI l5, oI l6] [] (sh_E h) := by
  induction n with
  | zero => intro l2 l3 l4 l5 l6 d0 d1 H; exact H.elim
  | succ n ih =>
    intro l2 l3 l4 l5 l6 d0 d1 H
    have hk29 := @ih
    replace H : sh_ok (f_M_trickled_c29 N (f_M_trickled_l29 N n) l2 l3 l4 l5 l6 h) R := H
    revert hk29 H
    generalize f_M_trickled_l29 N n = k29
    intro hk29 H
    refine ai_WP_steps mc_338 (sh_CM d) 3 (And.intro (fun c => ?_) (fun c => ?_))
    · replace H := sh_okT c H
      show wq_338 d Q 80 [_, _, oI l2, oI l3, oI l4, oI l5, oI l6] [] (sh_E h)
      exact ai_WP_steps mc_338 (sh_CM d) 2 (hR (-2 : Int32) H)
    · replace H := sh_okF c H
      show wq_338 d Q 37 [_, _, oI l2, oI l3, oI l4, oI l5, oI l6] [] (sh_E h)
      refine ai_WP_steps mc_338 (sh_CM d) 3 (And.intro (fun c => ?_) (fun c => ?_))
      · replace H := sh_okT c H
        show wq_338 d Q 47 [_, _, oI l2, oI l3, oI l4, oI l5, oI l6] [] (sh_E h)
        have c := sh_okG H
        replace H := sh_okH H
        refine ai_WP_steps mc_338 (sh_CM d) 8 (And.intro c ?_)
        show wq_338 d Q 59 [_, _, oI l2, oI l3, oI l4, oI l5, oI l6] [aI (((l5 * l2) + (9 : Int32)) / (10 : Int32)), aI l5] (sh_E h)
        have c := sh_okG H
        replace H := sh_okH H
        refine ai_WP_steps mc_338 (sh_CM d) 8 (And.intro c ?_)
        show wq_338 d Q 71 [_, _, oI l2, oI l3, oI l4, oI (l5 - (((l5 * l2) + (9 : Int32)) / (10 : Int32))), oI l6] [aI (((l5 - (((l5 * l2) + (9 : Int32)) / (10 : Int32))) * l3) / (10 : Int32)), aI (l5 - (((l5 * l2) + (9 : Int32)) / (10 : Int32)))] (sh_E h)
        refine ai_WP_steps mc_338 (sh_CM d) 4 ?_
        exact hk29 l2 l3 l4 ((l5 - (((l5 * l2) + (9 : Int32)) / (10 : Int32))) - (((l5 - (((l5 * l2) + (9 : Int32)) / (10 : Int32))) * l3) / (10 : Int32))) (l6 + (1 : Int32)) H
      · replace H := sh_okF c H
        show wq_338 d Q 44 [_, _, oI l2, oI l3, oI l4, oI l5, oI l6] [] (sh_E h)
        exact ai_WP_steps mc_338 (sh_CM d) 2 (hR l6 H)
def f_M_trickled (N : Nat)  (l1 : Int32) (l2 : Int32) (l3 : Int32) (l4 : Int32) (h : sh_H) : Option Int32 := (Option.bind (f_M_isTrickle l1 l2 l3 h) (fun v1 => (if v1 = 0 then (some (-1 : Int32)) else (Option.bind (f_M_isIn l4 (0 : Int32) (9999 : Int32) h) (fun v2 => (if v2 = 0 then (some (-1 : Int32)) else f_M_trickled_l29 N N l2 l3 l4 l1 (0 : Int32) h))))))
theorem x_M_trickled (N : Nat) {d : Nat} (hd : 3 ≤ d) (l1 : Int32) (l2 : Int32) (l3 : Int32) (l4 : Int32) (h : sh_H) {Q : ai_Q} {R : Int32 → Prop} (H : sh_ok (f_M_trickled N l1 l2 l3 l4 h) R) (hR : ∀ r, R r → Q (some (aI r)) (sh_E h)) : ai_Ex sh_T d 338 [aR 12 0, aI l1, aI l2, aI l3, aI l4] (sh_E h) Q := by
  obtain ⟨d, rfl⟩ : ∃ e, d = e + 1 := ⟨d - 1, by omega⟩
  replace hd : 2 ≤ d := by omega
  refine And.intro (Nat.le_of_ble_eq_true rfl) ?_
  show wq_338 d Q 0 [oR 12 0, oI l1, oI l2, oI l3, oI l4, none, none] [] (sh_E h)
  refine ai_WP_steps mc_338 (sh_CM d) 4 (And.intro (Nat.le_of_ble_eq_true rfl) (x_M_isTrickle (Nat.le_trans (Nat.le_of_ble_eq_true rfl) hd) l1 l2 l3 h (sh_okB H) (fun v1 H => ?_)))
  show wq_338 d Q 6 [oR 12 0, oI l1, oI l2, oI l3, oI l4, _, _] [aI v1] (sh_E h)
  refine ai_WP_steps mc_338 (sh_CM d) 1 (And.intro (fun c => ?_) (fun c => ?_))
  · replace H := sh_okT c H
    show wq_338 d Q 21 [oR 12 0, oI l1, oI l2, oI l3, oI l4, _, _] [] (sh_E h)
    exact ai_WP_steps mc_338 (sh_CM d) 2 (hR (-1 : Int32) H)
  · replace H := sh_okF c H
    show wq_338 d Q 9 [oR 12 0, oI l1, oI l2, oI l3, oI l4, _, _] [] (sh_E h)
    refine ai_WP_steps mc_338 (sh_CM d) 4 (And.intro (Nat.le_of_ble_eq_true rfl) (x_M_isIn (Nat.le_trans (Nat.le_of_ble_eq_true rfl) hd) l4 (0 : Int32) (9999 : Int32) h (sh_okB H) (fun v2 H => ?_)))
    show wq_338 d Q 18 [oR 12 0, oI l1, oI l2, oI l3, oI l4, _, _] [aI v2] (sh_E h)
    refine ai_WP_steps mc_338 (sh_CM d) 1 (And.intro (fun c => ?_) (fun c => ?_))
    · replace H := sh_okT c H
      show wq_338 d Q 21 [oR 12 0, oI l1, oI l2, oI l3, oI l4, _, _] [] (sh_E h)
      exact ai_WP_steps mc_338 (sh_CM d) 2 (hR (-1 : Int32) H)
    · replace H := sh_okF c H
      show wq_338 d Q 23 [oR 12 0, oI l1, oI l2, oI l3, oI l4, _, _] [] (sh_E h)
      refine ai_WP_steps mc_338 (sh_CM d) 4 ?_
      exact x_M_trickled_l29 N hd h hR N l2 l3 l4 l1 (0 : Int32) H
def f_M_burnAt_b103 (N : Nat)  (k55 : Int32 → Int32 → Int32 → Int32 → Int32 → Int32 → sh_H → Option Int32) (l2 : Int32) (l3 : Int32) (l4 : Int32) (l5 : Int32) (l6 : Int32) (l7 : Int32) (h : sh_H) : Option Int32 := k55 l2 l3 l4 l5 l6 (l7 + (1 : Int32)) h
theorem x_M_burnAt_b103 (N : Nat) {d : Nat} (hd : 1 ≤ d) (h : sh_H) {Q : ai_Q} {R : Int32 → Prop} (hR : ∀ r, R r → Q (some (aI r)) (sh_E h))  (k55 : Int32 → Int32 → Int32 → Int32 → Int32 → Int32 → sh_H → Option Int32) (hk55 : ∀ (l2 : Int32) (l3 : Int32) (l4 : Int32) (l5 : Int32) (l6 : Int32) (l7 : Int32) {d0 d1 : Option ai_V}, sh_ok (k55 l2 l3 l4 l5 l6 l7 h) R → wq_339 d Q 55 [d0, d1, oI l2, oI l3, oI l4, oI l5, oI l6, oI l7] [] (sh_E h)) (l2 : Int32) (l3 : Int32) (l4 : Int32) (l5 : Int32) (l6 : Int32) (l7 : Int32) {d0 d1 : Option ai_V} (H : sh_ok (f_M_burnAt_b103 N k55 l2 l3 l4 l5 l6 l7 h) R) : wq_339 d Q 103 [d0, d1, oI l2, oI l3, oI l4, oI l5, oI l6, oI l7] [] (sh_E h) := by
  refine ai_WP_steps mc_339 (sh_CM d) 2 ?_
  exact hk55 l2 l3 l4 l5 l6 (l7 + (1 : Int32)) H
def f_M_burnAt_c55 (N : Nat)   (k55 : Int32 → Int32 → Int32 → Int32 → Int32 → Int32 → sh_H → Option Int32) (l2 : Int32) (l3 : Int32) (l4 : Int32) (l5 : Int32) (l6 : Int32) (l7 : Int32) (h : sh_H) : Option Int32 := (if l7 < (5 : Int32) then (if ((l5 + ((((l7 - (1 : Int32)) * (l7 - (1 : Int32))) * l2) * l3)) * l4) < (l6 * l7) then f_M_burnAt_b103 N k55 l2 l3 l7 (l5 + ((((l7 - (1 : Int32)) * (l7 - (1 : Int32))) * l2) * l3)) (l5 + ((((l7 - (1 : Int32)) * (l7 - (1 : Int32))) * l2) * l3)) l7 h else f_M_burnAt_b103 N k55 l2 l3 l4 (l5 + ((((l7 - (1 : Int32)) * (l7 - (1 : Int32))) * l2) * l3)) l6 l7 h) else (some l4))
def f_M_burnAt_l55 (N : Nat)   (n : Nat) : Int32 → Int32 → Int32 → Int32 → Int32 → Int32 → sh_H → Option Int32 := Nat.rec (motive := fun _ => Int32 → Int32 → Int32 → Int32 → Int32 → Int32 → sh_H → Option Int32) (fun _ _ _ _ _ _ _ => none) (fun _ k55 => f_M_burnAt_c55 N k55) n
theorem x_M_burnAt_l55 (N : Nat) {d : Nat} (hd : 1 ≤ d) (h : sh_H) {Q : ai_Q} {R : Int32 → Prop} (hR : ∀ r, R r → Q (some (aI r)) (sh_E h))   (n : Nat) : ∀ (l2 : Int32) (l3 : Int32) (l4 : Int32) (l5 : Int32) (l6 : Int32) (l7 : Int32) {d0 d1 : Option ai_V}, sh_ok (f_M_burnAt_l55 N n l2 l3 l4 l5 l6 l7 h) R → wq_339 d Q 55 [d0, d1, oI l2, oI l3, oI l4, oI l5, oI l6, oI l7] [] (sh_E h) := by
  induction n with
  | zero => intro l2 l3 l4 l5 l6 l7 d0 d1 H; exact H.elim
  | succ n ih =>
    intro l2 l3 l4 l5 l6 l7 d0 d1 H
    have hk55 := @ih
    replace H : sh_ok (f_M_burnAt_c55 N (f_M_burnAt_l55 N n) l2 l3 l4 l5 l6 l7 h) R := H
    revert hk55 H
    generalize f_M_burnAt_l55 N n = k55
    intro hk55 H
    refine ai_WP_steps mc_339 (sh_CM d) 3 (And.intro (fun c => ?_) (fun c => ?_))
    · replace H := sh_okT c H
      show wq_339 d Q 61 [_, _, oI l2, oI l3, oI l4, oI l5, oI l6, oI l7] [] (sh_E h)
      refine ai_WP_steps mc_339 (sh_CM d) 21 (And.intro (fun c => ?_) (fun c => ?_))
      · replace H := sh_okT c H
        show wq_339 d Q 95 [_, _, oI l2, oI l3, oI l4, oI (l5 + ((((l7 - (1 : Int32)) * (l7 - (1 : Int32))) * l2) * l3)), oI l6, oI l7] [] (sh_E h)
        refine ai_WP_steps mc_339 (sh_CM d) 4 ?_
        exact x_M_burnAt_b103 N hd h hR k55 hk55 l2 l3 l7 (l5 + ((((l7 - (1 : Int32)) * (l7 - (1 : Int32))) * l2) * l3)) (l5 + ((((l7 - (1 : Int32)) * (l7 - (1 : Int32))) * l2) * l3)) l7 H
      · replace H := sh_okF c H
        show wq_339 d Q 92 [_, _, oI l2, oI l3, oI l4, oI (l5 + ((((l7 - (1 : Int32)) * (l7 - (1 : Int32))) * l2) * l3)), oI l6, oI l7] [] (sh_E h)
        refine ai_WP_steps mc_339 (sh_CM d) 1 ?_
        exact x_M_burnAt_b103 N hd h hR k55 hk55 l2 l3 l4 (l5 + ((((l7 - (1 : Int32)) * (l7 - (1 : Int32))) * l2) * l3)) l6 l7 H
    · replace H := sh_okF c H
      show wq_339 d Q 109 [_, _, oI l2, oI l3, oI l4, oI l5, oI l6, oI l7] [] (sh_E h)
      exact ai_WP_steps mc_339 (sh_CM d) 2 (hR l4 H)
def f_M_burnAt (N : Nat)  (l1 : Int32) (l2 : Int32) (l3 : Int32) (h : sh_H) : Option Int32 := (Option.bind (f_M_isKind l1 h) (fun v1 => (if v1 = 0 then (some (-1 : Int32)) else (Option.bind (f_M_isIn l2 (0 : Int32) (99 : Int32) h) (fun v2 => (if v2 = 0 then (some (-1 : Int32)) else (Option.bind (f_M_isIn l3 (1 : Int32) (12 : Int32) h) (fun v3 => (if v3 = 0 then (some (-1 : Int32)) else (if ai_in (((20 : Int32) + ((3 : Int32) * l1)) + (2 : Int32)) 8000 then f_M_burnAt_l55 N N l2 l3 (1 : Int32) (h.1 13 46 (((20 : Int32) + ((3 : Int32) * l1)) + (2 : Int32)).toNatClampNeg) (h.1 13 46 (((20 : Int32) + ((3 : Int32) * l1)) + (2 : Int32)).toNatClampNeg) (2 : Int32) h else none))))))))))
theorem x_M_burnAt (N : Nat) {d : Nat} (hd : 2 ≤ d) (l1 : Int32) (l2 : Int32) (l3 : Int32) (h : sh_H) {Q : ai_Q} {R : Int32 → Prop} (H : sh_ok (f_M_burnAt N l1 l2 l3 h) R) (hR : ∀ r, R r → Q (some (aI r)) (sh_E h)) : ai_Ex sh_T d 339 [aR 12 0, aI l1, aI l2, aI l3] (sh_E h) Q := by
  obtain ⟨d, rfl⟩ : ∃ e, d = e + 1 := ⟨d - 1, by omega⟩
  replace hd : 1 ≤ d := by omega
  refine And.intro (Nat.le_of_ble_eq_true rfl) ?_
  show wq_339 d Q 0 [oR 12 0, oI l1, oI l2, oI l3, none, none, none, none] [] (sh_E h)
  refine ai_WP_steps mc_339 (sh_CM d) 3 (And.intro (Nat.le_of_ble_eq_true rfl) (x_M_isKind (Nat.le_trans (Nat.le_of_ble_eq_true rfl) hd) l1 h (sh_okB H) (fun v1 H => ?_)))
  show wq_339 d Q 5 [oR 12 0, oI l1, oI l2, oI l3, _, _, _, _] [aI v1] (sh_E h)
  refine ai_WP_steps mc_339 (sh_CM d) 1 (And.intro (fun c => ?_) (fun c => ?_))
  · replace H := sh_okT c H
    show wq_339 d Q 28 [oR 12 0, oI l1, oI l2, oI l3, _, _, _, _] [] (sh_E h)
    exact ai_WP_steps mc_339 (sh_CM d) 2 (hR (-1 : Int32) H)
  · replace H := sh_okF c H
    show wq_339 d Q 8 [oR 12 0, oI l1, oI l2, oI l3, _, _, _, _] [] (sh_E h)
    refine ai_WP_steps mc_339 (sh_CM d) 4 (And.intro (Nat.le_of_ble_eq_true rfl) (x_M_isIn (Nat.le_trans (Nat.le_of_ble_eq_true rfl) hd) l2 (0 : Int32) (99 : Int32) h (sh_okB H) (fun v2 H => ?_)))
    show wq_339 d Q 15 [oR 12 0, oI l1, oI l2, oI l3, _, _, _, _] [aI v2] (sh_E h)
    refine ai_WP_steps mc_339 (sh_CM d) 1 (And.intro (fun c => ?_) (fun c => ?_))
    · replace H := sh_okT c H
      show wq_339 d Q 28 [oR 12 0, oI l1, oI l2, oI l3, _, _, _, _] [] (sh_E h)
      exact ai_WP_steps mc_339 (sh_CM d) 2 (hR (-1 : Int32) H)
    · replace H := sh_okF c H
      show wq_339 d Q 18 [oR 12 0, oI l1, oI l2, oI l3, _, _, _, _] [] (sh_E h)
      refine ai_WP_steps mc_339 (sh_CM d) 4 (And.intro (Nat.le_of_ble_eq_true rfl) (x_M_isIn (Nat.le_trans (Nat.le_of_ble_eq_true rfl) hd) l3 (1 : Int32) (12 : Int32) h (sh_okB H) (fun v3 H => ?_)))
      show wq_339 d Q 25 [oR 12 0, oI l1, oI l2, oI l3, _, _, _, _] [aI v3] (sh_E h)
      refine ai_WP_steps mc_339 (sh_CM d) 1 (And.intro (fun c => ?_) (fun c => ?_))
      · replace H := sh_okT c H
        show wq_339 d Q 28 [oR 12 0, oI l1, oI l2, oI l3, _, _, _, _] [] (sh_E h)
        exact ai_WP_steps mc_339 (sh_CM d) 2 (hR (-1 : Int32) H)
      · replace H := sh_okF c H
        show wq_339 d Q 30 [oR 12 0, oI l1, oI l2, oI l3, _, _, _, _] [] (sh_E h)
        have c := sh_okG H
        replace H := sh_okH H
        refine ai_WP_steps mc_339 (sh_CM d) 12 (And.intro c ?_)
        show wq_339 d Q 46 [oR 12 0, oI l1, oI l2, oI l3, oI (1 : Int32), _, _, _] [aI (h.1 13 46 (((20 : Int32) + ((3 : Int32) * l1)) + (2 : Int32)).toNatClampNeg)] (sh_E h)
        refine ai_WP_steps mc_339 (sh_CM d) 5 ?_
        exact x_M_burnAt_l55 N hd h hR N l2 l3 (1 : Int32) (h.1 13 46 (((20 : Int32) + ((3 : Int32) * l1)) + (2 : Int32)).toNatClampNeg) (h.1 13 46 (((20 : Int32) + ((3 : Int32) * l1)) + (2 : Int32)).toNatClampNeg) (2 : Int32) H
def f_M_isCost  (l0 : Int32) (h : sh_H) : Option Int32 := (Option.bind (f_M_isIn l0 (0 : Int32) (9999 : Int32) h) (fun v1 => (some (ai_nar 1 v1))))
theorem x_M_isCost {d : Nat} (hd : 2 ≤ d) (l0 : Int32) (h : sh_H) {Q : ai_Q} {R : Int32 → Prop} (H : sh_ok (f_M_isCost l0 h) R) (hR : ∀ r, R r → Q (some (aI r)) (sh_E h)) : ai_Ex sh_T d 340 [aI l0] (sh_E h) Q := by
  obtain ⟨d, rfl⟩ : ∃ e, d = e + 1 := ⟨d - 1, by omega⟩
  replace hd : 1 ≤ d := by omega
  refine And.intro (Nat.le_of_ble_eq_true rfl) ?_
  show wq_340 d Q 0 [oI l0] [] (sh_E h)
  refine ai_WP_steps mc_340 (sh_CM d) 4 (And.intro (Nat.le_of_ble_eq_true rfl) (x_M_isIn (Nat.le_trans (Nat.le_of_ble_eq_true rfl) hd) l0 (0 : Int32) (9999 : Int32) h (sh_okB H) (fun v1 H => ?_)))
  show wq_340 d Q 8 [oI l0] [aI v1] (sh_E h)
  exact ai_WP_steps mc_340 (sh_CM d) 1 (hR (ai_nar 1 v1) H)
def f_M_sort  (l1 : Int32) (l2 : Int32) (l3 : Int32) (l4 : Int32) (l5 : Int32) (l6 : Int32) (l7 : Int32) (h : sh_H) : Option Int32 := (Option.bind (f_M_isCost l1 h) (fun v1 => (if v1 = 0 then (some (-1 : Int32)) else (Option.bind (f_M_isCost l2 h) (fun v2 => (if v2 = 0 then (some (-1 : Int32)) else (Option.bind (f_M_isIn l3 (0 : Int32) (100 : Int32) h) (fun v3 => (if v3 = 0 then (some (-1 : Int32)) else (Option.bind (f_M_isCost l4 h) (fun v4 => (if v4 = 0 then (some (-1 : Int32)) else (Option.bind (f_M_isIn l5 (0 : Int32) (100 : Int32) h) (fun v5 => (if v5 = 0 then (some (-1 : Int32)) else (Option.bind (f_M_isCost l6 h) (fun v6 => (if v6 = 0 then (some (-1 : Int32)) else (Option.bind (f_M_isCost l7 h) (fun v7 => (if v7 = 0 then (some (-1 : Int32)) else (if (lg_cmp ((l1.toInt64 * (((100 : Int64) * l4.toInt64) + (l5.toInt64 * l6.toInt64))) + ((100 : Int64) * l7.toInt64)) (l1.toInt64 * (((100 : Int64) * l2.toInt64) + (l3.toInt64 * l6.toInt64)))) < 0 then (some (1 : Int32)) else (some (0 : Int32))))))))))))))))))))))))
theorem x_M_sort {d : Nat} (hd : 3 ≤ d) (l1 : Int32) (l2 : Int32) (l3 : Int32) (l4 : Int32) (l5 : Int32) (l6 : Int32) (l7 : Int32) (h : sh_H) {Q : ai_Q} {R : Int32 → Prop} (H : sh_ok (f_M_sort l1 l2 l3 l4 l5 l6 l7 h) R) (hR : ∀ r, R r → Q (some (aI r)) (sh_E h)) : ai_Ex sh_T d 341 [aR 12 0, aI l1, aI l2, aI l3, aI l4, aI l5, aI l6, aI l7] (sh_E h) Q := by
  obtain ⟨d, rfl⟩ : ∃ e, d = e + 1 := ⟨d - 1, by omega⟩
  replace hd : 2 ≤ d := by omega
  refine And.intro (Nat.le_of_ble_eq_true rfl) ?_
  show wq_341 d Q 0 [oR 12 0, oI l1, oI l2, oI l3, oI l4, oI l5, oI l6, oI l7, none, none, none, none] [] (sh_E h)
  refine ai_WP_steps mc_341 (sh_CM d) 2 (And.intro (Nat.le_of_ble_eq_true rfl) (x_M_isCost (Nat.le_trans (Nat.le_of_ble_eq_true rfl) hd) l1 h (sh_okB H) (fun v1 H => ?_)))
  show wq_341 d Q 4 [oR 12 0, oI l1, oI l2, oI l3, oI l4, oI l5, oI l6, oI l7, _, _, _, _] [aI v1] (sh_E h)
  refine ai_WP_steps mc_341 (sh_CM d) 1 (And.intro (fun c => ?_) (fun c => ?_))
  · replace H := sh_okT c H
    show wq_341 d Q 59 [oR 12 0, oI l1, oI l2, oI l3, oI l4, oI l5, oI l6, oI l7, _, _, _, _] [] (sh_E h)
    exact ai_WP_steps mc_341 (sh_CM d) 2 (hR (-1 : Int32) H)
  · replace H := sh_okF c H
    show wq_341 d Q 7 [oR 12 0, oI l1, oI l2, oI l3, oI l4, oI l5, oI l6, oI l7, _, _, _, _] [] (sh_E h)
    refine ai_WP_steps mc_341 (sh_CM d) 2 (And.intro (Nat.le_of_ble_eq_true rfl) (x_M_isCost (Nat.le_trans (Nat.le_of_ble_eq_true rfl) hd) l2 h (sh_okB H) (fun v2 H => ?_)))
    show wq_341 d Q 11 [oR 12 0, oI l1, oI l2, oI l3, oI l4, oI l5, oI l6, oI l7, _, _, _, _] [aI v2] (sh_E h)
    refine ai_WP_steps mc_341 (sh_CM d) 1 (And.intro (fun c => ?_) (fun c => ?_))
    · replace H := sh_okT c H
      show wq_341 d Q 59 [oR 12 0, oI l1, oI l2, oI l3, oI l4, oI l5, oI l6, oI l7, _, _, _, _] [] (sh_E h)
      exact ai_WP_steps mc_341 (sh_CM d) 2 (hR (-1 : Int32) H)
    · replace H := sh_okF c H
      show wq_341 d Q 14 [oR 12 0, oI l1, oI l2, oI l3, oI l4, oI l5, oI l6, oI l7, _, _, _, _] [] (sh_E h)
      refine ai_WP_steps mc_341 (sh_CM d) 4 (And.intro (Nat.le_of_ble_eq_true rfl) (x_M_isIn (Nat.le_trans (Nat.le_of_ble_eq_true rfl) hd) l3 (0 : Int32) (100 : Int32) h (sh_okB H) (fun v3 H => ?_)))
      show wq_341 d Q 21 [oR 12 0, oI l1, oI l2, oI l3, oI l4, oI l5, oI l6, oI l7, _, _, _, _] [aI v3] (sh_E h)
      refine ai_WP_steps mc_341 (sh_CM d) 1 (And.intro (fun c => ?_) (fun c => ?_))
      · replace H := sh_okT c H
        show wq_341 d Q 59 [oR 12 0, oI l1, oI l2, oI l3, oI l4, oI l5, oI l6, oI l7, _, _, _, _] [] (sh_E h)
        exact ai_WP_steps mc_341 (sh_CM d) 2 (hR (-1 : Int32) H)
      · replace H := sh_okF c H
        show wq_341 d Q 24 [oR 12 0, oI l1, oI l2, oI l3, oI l4, oI l5, oI l6, oI l7, _, _, _, _] [] (sh_E h)
        refine ai_WP_steps mc_341 (sh_CM d) 2 (And.intro (Nat.le_of_ble_eq_true rfl) (x_M_isCost (Nat.le_trans (Nat.le_of_ble_eq_true rfl) hd) l4 h (sh_okB H) (fun v4 H => ?_)))
        show wq_341 d Q 29 [oR 12 0, oI l1, oI l2, oI l3, oI l4, oI l5, oI l6, oI l7, _, _, _, _] [aI v4] (sh_E h)
        refine ai_WP_steps mc_341 (sh_CM d) 1 (And.intro (fun c => ?_) (fun c => ?_))
        · replace H := sh_okT c H
          show wq_341 d Q 59 [oR 12 0, oI l1, oI l2, oI l3, oI l4, oI l5, oI l6, oI l7, _, _, _, _] [] (sh_E h)
          exact ai_WP_steps mc_341 (sh_CM d) 2 (hR (-1 : Int32) H)
        · replace H := sh_okF c H
          show wq_341 d Q 32 [oR 12 0, oI l1, oI l2, oI l3, oI l4, oI l5, oI l6, oI l7, _, _, _, _] [] (sh_E h)
          refine ai_WP_steps mc_341 (sh_CM d) 4 (And.intro (Nat.le_of_ble_eq_true rfl) (x_M_isIn (Nat.le_trans (Nat.le_of_ble_eq_true rfl) hd) l5 (0 : Int32) (100 : Int32) h (sh_okB H) (fun v5 H => ?_)))
          show wq_341 d Q 40 [oR 12 0, oI l1, oI l2, oI l3, oI l4, oI l5, oI l6, oI l7, _, _, _, _] [aI v5] (sh_E h)
          refine ai_WP_steps mc_341 (sh_CM d) 1 (And.intro (fun c => ?_) (fun c => ?_))
          · replace H := sh_okT c H
            show wq_341 d Q 59 [oR 12 0, oI l1, oI l2, oI l3, oI l4, oI l5, oI l6, oI l7, _, _, _, _] [] (sh_E h)
            exact ai_WP_steps mc_341 (sh_CM d) 2 (hR (-1 : Int32) H)
          · replace H := sh_okF c H
            show wq_341 d Q 43 [oR 12 0, oI l1, oI l2, oI l3, oI l4, oI l5, oI l6, oI l7, _, _, _, _] [] (sh_E h)
            refine ai_WP_steps mc_341 (sh_CM d) 2 (And.intro (Nat.le_of_ble_eq_true rfl) (x_M_isCost (Nat.le_trans (Nat.le_of_ble_eq_true rfl) hd) l6 h (sh_okB H) (fun v6 H => ?_)))
            show wq_341 d Q 48 [oR 12 0, oI l1, oI l2, oI l3, oI l4, oI l5, oI l6, oI l7, _, _, _, _] [aI v6] (sh_E h)
            refine ai_WP_steps mc_341 (sh_CM d) 1 (And.intro (fun c => ?_) (fun c => ?_))
            · replace H := sh_okT c H
              show wq_341 d Q 59 [oR 12 0, oI l1, oI l2, oI l3, oI l4, oI l5, oI l6, oI l7, _, _, _, _] [] (sh_E h)
              exact ai_WP_steps mc_341 (sh_CM d) 2 (hR (-1 : Int32) H)
            · replace H := sh_okF c H
              show wq_341 d Q 51 [oR 12 0, oI l1, oI l2, oI l3, oI l4, oI l5, oI l6, oI l7, _, _, _, _] [] (sh_E h)
              refine ai_WP_steps mc_341 (sh_CM d) 2 (And.intro (Nat.le_of_ble_eq_true rfl) (x_M_isCost (Nat.le_trans (Nat.le_of_ble_eq_true rfl) hd) l7 h (sh_okB H) (fun v7 H => ?_)))
              show wq_341 d Q 56 [oR 12 0, oI l1, oI l2, oI l3, oI l4, oI l5, oI l6, oI l7, _, _, _, _] [aI v7] (sh_E h)
              refine ai_WP_steps mc_341 (sh_CM d) 1 (And.intro (fun c => ?_) (fun c => ?_))
              · replace H := sh_okT c H
                show wq_341 d Q 59 [oR 12 0, oI l1, oI l2, oI l3, oI l4, oI l5, oI l6, oI l7, _, _, _, _] [] (sh_E h)
                exact ai_WP_steps mc_341 (sh_CM d) 2 (hR (-1 : Int32) H)
              · replace H := sh_okF c H
                show wq_341 d Q 61 [oR 12 0, oI l1, oI l2, oI l3, oI l4, oI l5, oI l6, oI l7, _, _, _, _] [] (sh_E h)
                refine ai_WP_steps mc_341 (sh_CM d) 37 (And.intro (fun c => ?_) (fun c => ?_))
                · replace H := sh_okT c H
                  show wq_341 d Q 115 [oR 12 0, oI l1, oI l2, oI l3, oI l4, oI l5, oI l6, oI l7, oL (l1.toInt64 * (((100 : Int64) * l2.toInt64) + (l3.toInt64 * l6.toInt64))), _, oL ((l1.toInt64 * (((100 : Int64) * l4.toInt64) + (l5.toInt64 * l6.toInt64))) + ((100 : Int64) * l7.toInt64)), _] [] (sh_E h)
                  exact ai_WP_steps mc_341 (sh_CM d) 3 (hR (1 : Int32) H)
                · replace H := sh_okF c H
                  show wq_341 d Q 119 [oR 12 0, oI l1, oI l2, oI l3, oI l4, oI l5, oI l6, oI l7, oL (l1.toInt64 * (((100 : Int64) * l2.toInt64) + (l3.toInt64 * l6.toInt64))), _, oL ((l1.toInt64 * (((100 : Int64) * l4.toInt64) + (l5.toInt64 * l6.toInt64))) + ((100 : Int64) * l7.toInt64)), _] [] (sh_E h)
                  exact ai_WP_steps mc_341 (sh_CM d) 2 (hR (0 : Int32) H)
def f_M_count_b157   (s0 : Int32) (s1 : Int32) (h : sh_H) : Option Int32 := (some (s0 + s1))
theorem x_M_count_b157 {d : Nat} (hd : 0 ≤ d) (h : sh_H) {Q : ai_Q} {R : Int32 → Prop} (hR : ∀ r, R r → Q (some (aI r)) (sh_E h))   (s0 : Int32) (s1 : Int32) {d0 d1 : Option ai_V} (H : sh_ok (f_M_count_b157 s0 s1 h) R) : wq_342 d Q 157 [d0, d1] [aI s1, aI s0] (sh_E h) := by
  exact ai_WP_steps mc_342 (sh_CM d) 2 (hR (s0 + s1) H)
def f_M_count_b143   (s0 : Int32) (h : sh_H) : Option Int32 := (if ai_in (3 : Int32) 4 then (if (h.1 16 0 (3 : Int32).toNatClampNeg) = 0 then f_M_count_b157 s0 (0 : Int32) h else f_M_count_b157 s0 (1 : Int32) h) else none)
theorem x_M_count_b143 {d : Nat} (hd : 0 ≤ d) (h : sh_H) {Q : ai_Q} {R : Int32 → Prop} (hR : ∀ r, R r → Q (some (aI r)) (sh_E h))   (s0 : Int32) {d1 : Option ai_V} (H : sh_ok (f_M_count_b143 s0 h) R) : wq_342 d Q 143 [oR 12 0, d1] [aI s0] (sh_E h) := by
  have c := sh_okG H
  replace H := sh_okH H
  refine ai_WP_steps mc_342 (sh_CM d) 4 (And.intro c ?_)
  show wq_342 d Q 149 [oR 12 0, _] [aI (h.1 16 0 (3 : Int32).toNatClampNeg), aI s0] (sh_E h)
  refine ai_WP_steps mc_342 (sh_CM d) 1 (And.intro (fun c => ?_) (fun c => ?_))
  · replace H := sh_okT c H
    show wq_342 d Q 156 [oR 12 0, _] [aI s0] (sh_E h)
    refine ai_WP_steps mc_342 (sh_CM d) 1 ?_
    exact x_M_count_b157 hd h hR s0 (0 : Int32) H
  · replace H := sh_okF c H
    show wq_342 d Q 152 [oR 12 0, _] [aI s0] (sh_E h)
    refine ai_WP_steps mc_342 (sh_CM d) 2 ?_
    exact x_M_count_b157 hd h hR s0 (1 : Int32) H
def f_M_count  (l1 : Int32) (h : sh_H) : Option Int32 := (if l1 = (0 : Int32) then (if ai_in (0 : Int32) 8000 then (some (h.1 13 46 (0 : Int32).toNatClampNeg)) else none) else (if l1 = (1 : Int32) then (if ai_in (1 : Int32) 8000 then (some (h.1 13 46 (1 : Int32).toNatClampNeg)) else none) else (if l1 = (2 : Int32) then (if ai_in (2 : Int32) 8000 then (some (h.1 13 46 (2 : Int32).toNatClampNeg)) else none) else (if l1 = (3 : Int32) then (if ai_in (4 : Int32) 8000 then (some (h.1 13 46 (4 : Int32).toNatClampNeg)) else none) else (if l1 = (4 : Int32) then (if ai_in (6 : Int32) 8000 then (some (h.1 13 46 (6 : Int32).toNatClampNeg)) else none) else (if l1 = (5 : Int32) then (if ai_in (7 : Int32) 8000 then (some (h.1 13 46 (7 : Int32).toNatClampNeg)) else none) else (if l1 = (6 : Int32) then (if ai_in (8 : Int32) 8000 then (some (h.1 13 46 (8 : Int32).toNatClampNeg)) else none) else (if l1 = (7 : Int32) then (if ai_in (9 : Int32) 8000 then (some (h.1 13 46 (9 : Int32).toNatClampNeg)) else none) else (if l1 = (8 : Int32) then (some (h.1 12 0 0)) else (if l1 = (9 : Int32) then (if ai_in (2 : Int32) 4 then (if (h.1 16 0 (2 : Int32).toNatClampNeg) = 0 then f_M_count_b143 (0 : Int32) h else f_M_count_b143 (1 : Int32) h) else none) else (if l1 = (10 : Int32) then (if ai_in (3 : Int32) 8000 then (some (h.1 13 46 (3 : Int32).toNatClampNeg)) else none) else (if l1 = (11 : Int32) then (if ai_in (5 : Int32) 8000 then (some (h.1 13 46 (5 : Int32).toNatClampNeg)) else none) else (some (-1 : Int32))))))))))))))
theorem x_M_count {d : Nat} (hd : 1 ≤ d) (l1 : Int32) (h : sh_H) {Q : ai_Q} {R : Int32 → Prop} (H : sh_ok (f_M_count l1 h) R) (hR : ∀ r, R r → Q (some (aI r)) (sh_E h)) : ai_Ex sh_T d 342 [aR 12 0, aI l1] (sh_E h) Q := by
  obtain ⟨d, rfl⟩ : ∃ e, d = e + 1 := ⟨d - 1, by omega⟩
  replace hd : 0 ≤ d := by omega
  refine And.intro (Nat.le_of_ble_eq_true rfl) ?_
  show wq_342 d Q 0 [oR 12 0, oI l1] [] (sh_E h)
  refine ai_WP_steps mc_342 (sh_CM d) 2 (And.intro (fun c => ?_) (fun c => ?_))
  · replace H := sh_okT c H
    show wq_342 d Q 64 [oR 12 0, oI l1] [] (sh_E h)
    have c := sh_okG H
    replace H := sh_okH H
    refine ai_WP_steps mc_342 (sh_CM d) 4 (And.intro c ?_)
    show wq_342 d Q 70 [oR 12 0, oI l1] [aI (h.1 13 46 (0 : Int32).toNatClampNeg)] (sh_E h)
    exact ai_WP_steps mc_342 (sh_CM d) 1 (hR (h.1 13 46 (0 : Int32).toNatClampNeg) H)
  replace H := sh_okF c H
  refine And.intro (fun c => ?_) (fun c => ?_)
  · replace H := sh_okT c H
    show wq_342 d Q 71 [oR 12 0, oI l1] [] (sh_E h)
    have c := sh_okG H
    replace H := sh_okH H
    refine ai_WP_steps mc_342 (sh_CM d) 4 (And.intro c ?_)
    show wq_342 d Q 77 [oR 12 0, oI l1] [aI (h.1 13 46 (1 : Int32).toNatClampNeg)] (sh_E h)
    exact ai_WP_steps mc_342 (sh_CM d) 1 (hR (h.1 13 46 (1 : Int32).toNatClampNeg) H)
  replace H := sh_okF c H
  refine And.intro (fun c => ?_) (fun c => ?_)
  · replace H := sh_okT c H
    show wq_342 d Q 78 [oR 12 0, oI l1] [] (sh_E h)
    have c := sh_okG H
    replace H := sh_okH H
    refine ai_WP_steps mc_342 (sh_CM d) 4 (And.intro c ?_)
    show wq_342 d Q 84 [oR 12 0, oI l1] [aI (h.1 13 46 (2 : Int32).toNatClampNeg)] (sh_E h)
    exact ai_WP_steps mc_342 (sh_CM d) 1 (hR (h.1 13 46 (2 : Int32).toNatClampNeg) H)
  replace H := sh_okF c H
  refine And.intro (fun c => ?_) (fun c => ?_)
  · replace H := sh_okT c H
    show wq_342 d Q 85 [oR 12 0, oI l1] [] (sh_E h)
    have c := sh_okG H
    replace H := sh_okH H
    refine ai_WP_steps mc_342 (sh_CM d) 4 (And.intro c ?_)
    show wq_342 d Q 91 [oR 12 0, oI l1] [aI (h.1 13 46 (4 : Int32).toNatClampNeg)] (sh_E h)
    exact ai_WP_steps mc_342 (sh_CM d) 1 (hR (h.1 13 46 (4 : Int32).toNatClampNeg) H)
  replace H := sh_okF c H
  refine And.intro (fun c => ?_) (fun c => ?_)
  · replace H := sh_okT c H
    show wq_342 d Q 92 [oR 12 0, oI l1] [] (sh_E h)
    have c := sh_okG H
    replace H := sh_okH H
    refine ai_WP_steps mc_342 (sh_CM d) 4 (And.intro c ?_)
    show wq_342 d Q 99 [oR 12 0, oI l1] [aI (h.1 13 46 (6 : Int32).toNatClampNeg)] (sh_E h)
    exact ai_WP_steps mc_342 (sh_CM d) 1 (hR (h.1 13 46 (6 : Int32).toNatClampNeg) H)
  replace H := sh_okF c H
  refine And.intro (fun c => ?_) (fun c => ?_)
  · replace H := sh_okT c H
    show wq_342 d Q 100 [oR 12 0, oI l1] [] (sh_E h)
    have c := sh_okG H
    replace H := sh_okH H
    refine ai_WP_steps mc_342 (sh_CM d) 4 (And.intro c ?_)
    show wq_342 d Q 107 [oR 12 0, oI l1] [aI (h.1 13 46 (7 : Int32).toNatClampNeg)] (sh_E h)
    exact ai_WP_steps mc_342 (sh_CM d) 1 (hR (h.1 13 46 (7 : Int32).toNatClampNeg) H)
  replace H := sh_okF c H
  refine And.intro (fun c => ?_) (fun c => ?_)
  · replace H := sh_okT c H
    show wq_342 d Q 108 [oR 12 0, oI l1] [] (sh_E h)
    have c := sh_okG H
    replace H := sh_okH H
    refine ai_WP_steps mc_342 (sh_CM d) 4 (And.intro c ?_)
    show wq_342 d Q 115 [oR 12 0, oI l1] [aI (h.1 13 46 (8 : Int32).toNatClampNeg)] (sh_E h)
    exact ai_WP_steps mc_342 (sh_CM d) 1 (hR (h.1 13 46 (8 : Int32).toNatClampNeg) H)
  replace H := sh_okF c H
  refine And.intro (fun c => ?_) (fun c => ?_)
  · replace H := sh_okT c H
    show wq_342 d Q 116 [oR 12 0, oI l1] [] (sh_E h)
    have c := sh_okG H
    replace H := sh_okH H
    refine ai_WP_steps mc_342 (sh_CM d) 4 (And.intro c ?_)
    show wq_342 d Q 123 [oR 12 0, oI l1] [aI (h.1 13 46 (9 : Int32).toNatClampNeg)] (sh_E h)
    exact ai_WP_steps mc_342 (sh_CM d) 1 (hR (h.1 13 46 (9 : Int32).toNatClampNeg) H)
  replace H := sh_okF c H
  refine And.intro (fun c => ?_) (fun c => ?_)
  · replace H := sh_okT c H
    show wq_342 d Q 124 [oR 12 0, oI l1] [] (sh_E h)
    exact ai_WP_steps mc_342 (sh_CM d) 3 (hR (h.1 12 0 0) H)
  replace H := sh_okF c H
  refine And.intro (fun c => ?_) (fun c => ?_)
  · replace H := sh_okT c H
    show wq_342 d Q 129 [oR 12 0, oI l1] [] (sh_E h)
    have c := sh_okG H
    replace H := sh_okH H
    refine ai_WP_steps mc_342 (sh_CM d) 4 (And.intro c ?_)
    show wq_342 d Q 135 [oR 12 0, oI l1] [aI (h.1 16 0 (2 : Int32).toNatClampNeg)] (sh_E h)
    refine ai_WP_steps mc_342 (sh_CM d) 1 (And.intro (fun c => ?_) (fun c => ?_))
    · replace H := sh_okT c H
      show wq_342 d Q 142 [oR 12 0, oI l1] [] (sh_E h)
      refine ai_WP_steps mc_342 (sh_CM d) 1 ?_
      exact x_M_count_b143 hd h hR (0 : Int32) H
    · replace H := sh_okF c H
      show wq_342 d Q 138 [oR 12 0, oI l1] [] (sh_E h)
      refine ai_WP_steps mc_342 (sh_CM d) 2 ?_
      exact x_M_count_b143 hd h hR (1 : Int32) H
  replace H := sh_okF c H
  refine And.intro (fun c => ?_) (fun c => ?_)
  · replace H := sh_okT c H
    show wq_342 d Q 159 [oR 12 0, oI l1] [] (sh_E h)
    have c := sh_okG H
    replace H := sh_okH H
    refine ai_WP_steps mc_342 (sh_CM d) 4 (And.intro c ?_)
    show wq_342 d Q 165 [oR 12 0, oI l1] [aI (h.1 13 46 (3 : Int32).toNatClampNeg)] (sh_E h)
    exact ai_WP_steps mc_342 (sh_CM d) 1 (hR (h.1 13 46 (3 : Int32).toNatClampNeg) H)
  replace H := sh_okF c H
  refine And.intro (fun c => ?_) (fun c => ?_)
  · replace H := sh_okT c H
    show wq_342 d Q 166 [oR 12 0, oI l1] [] (sh_E h)
    have c := sh_okG H
    replace H := sh_okH H
    refine ai_WP_steps mc_342 (sh_CM d) 4 (And.intro c ?_)
    show wq_342 d Q 172 [oR 12 0, oI l1] [aI (h.1 13 46 (5 : Int32).toNatClampNeg)] (sh_E h)
    exact ai_WP_steps mc_342 (sh_CM d) 1 (hR (h.1 13 46 (5 : Int32).toNatClampNeg) H)
  replace H := sh_okF c H
  show wq_342 d Q 173 [oR 12 0, oI l1] [] (sh_E h)
  exact ai_WP_steps mc_342 (sh_CM d) 2 (hR (-1 : Int32) H)
