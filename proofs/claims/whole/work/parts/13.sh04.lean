/-! shallow functions, written by program -/
def f_CB_annul (N : Nat)  (l1 : Int32) (h : sh_H) : Option (Int32 × sh_H) := (if l1 < 0 then (some ((-1 : Int32), h)) else (Option.bind (f_Rows_size (4 * 0 + 16) h) (fun v1 => (if l1 < v1 then (Option.bind (f_Rows_get (4 * 0 + 16) l1 (2 : Int32) h) (fun v2 => (if v2 = (3 : Int32) then (some ((-1 : Int32), h)) else (sh_b2 (f_Rows_add N (4 * 0 + 16) h) (fun v3 h4 => (Option.bind (f_Rows_put (4 * 0 + 16) v3 (2 : Int32) (3 : Int32) h4) (fun h5 => (Option.bind (f_Rows_put (4 * 0 + 16) v3 (3 : Int32) l1 h5) (fun h6 => (some (v3, h6))))))))))) else (some ((-1 : Int32), h))))))
theorem x_CB_annul (N : Nat) {d : Nat} (hd : 4 ≤ d) (l1 : Int32) (h : sh_H) {Q : ai_Q} {R : Int32 × sh_H → Prop} (H : sh_ok (f_CB_annul N l1 h) R) (hR : ∀ r h, R (r, h) → Q (some (aI r)) (sh_E h)) : ai_Ex sh_T d 180 [aR 11 0, aI l1] (sh_E h) Q := by
  obtain ⟨d, rfl⟩ : ∃ e, d = e + 1 := ⟨d - 1, by omega⟩
  replace hd : 3 ≤ d := by omega
  refine And.intro (Nat.le_of_ble_eq_true rfl) ?_
  show wq_180 d Q 0 [oR 11 0, oI l1, none] [] (sh_E h)
  refine ai_WP_steps mc_180 (sh_CM d) 2 (And.intro (fun c => ?_) (fun c => ?_))
  · replace H := sh_okT c H
    show wq_180 d Q 34 [oR 11 0, oI l1, _] [] (sh_E h)
    exact ai_WP_steps mc_180 (sh_CM d) 2 (hR (-1 : Int32) h H)
  · replace H := sh_okF c H
    show wq_180 d Q 4 [oR 11 0, oI l1, _] [] (sh_E h)
    refine ai_WP_steps mc_180 (sh_CM d) 5 (And.intro (Nat.le_of_ble_eq_true rfl) (x_Rows_size (Nat.le_trans (Nat.le_of_ble_eq_true rfl) hd) (4 * 0 + 16) h (sh_okB H) (fun v1 H => ?_)))
    show wq_180 d Q 15 [oR 11 0, oI l1, _] [aI v1, aI l1] (sh_E h)
    refine ai_WP_steps mc_180 (sh_CM d) 1 (And.intro (fun c => ?_) (fun c => ?_))
    · replace H := sh_okT c H
      show wq_180 d Q 18 [oR 11 0, oI l1, _] [] (sh_E h)
      refine ai_WP_steps mc_180 (sh_CM d) 6 (And.intro (Nat.le_of_ble_eq_true rfl) (x_Rows_get (Nat.le_trans (Nat.le_of_ble_eq_true rfl) hd) (4 * 0 + 16) l1 (2 : Int32) h (sh_okB H) (fun v2 H => ?_)))
      show wq_180 d Q 30 [oR 11 0, oI l1, _] [aI v2] (sh_E h)
      refine ai_WP_steps mc_180 (sh_CM d) 2 (And.intro (fun c => ?_) (fun c => ?_))
      · replace H := sh_okT c H
        show wq_180 d Q 34 [oR 11 0, oI l1, _] [] (sh_E h)
        exact ai_WP_steps mc_180 (sh_CM d) 2 (hR (-1 : Int32) h H)
      · replace H := sh_okF c H
        show wq_180 d Q 36 [oR 11 0, oI l1, _] [] (sh_E h)
        refine ai_WP_steps mc_180 (sh_CM d) 4 (And.intro (Nat.le_of_ble_eq_true rfl) (x_Rows_add N (Nat.le_trans (Nat.le_of_ble_eq_true rfl) hd) (4 * 0 + 16) h (sh_okB H) (fun v3 h4 H => ?_)))
        show wq_180 d Q 46 [oR 11 0, oI l1, _] [aI v3] (sh_E h4)
        refine ai_WP_steps mc_180 (sh_CM d) 8 (And.intro (Nat.le_of_ble_eq_true rfl) (x_Rows_put (Nat.le_trans (Nat.le_of_ble_eq_true rfl) hd) (4 * 0 + 16) v3 (2 : Int32) (3 : Int32) h4 (sh_okB H) (fun h5 H => ?_)))
        show wq_180 d Q 60 [oR 11 0, oI l1, oI v3] [] (sh_E h5)
        refine ai_WP_steps mc_180 (sh_CM d) 7 (And.intro (Nat.le_of_ble_eq_true rfl) (x_Rows_put (Nat.le_trans (Nat.le_of_ble_eq_true rfl) hd) (4 * 0 + 16) v3 (3 : Int32) l1 h5 (sh_okB H) (fun h6 H => ?_)))
        show wq_180 d Q 73 [oR 11 0, oI l1, oI v3] [] (sh_E h6)
        exact ai_WP_steps mc_180 (sh_CM d) 2 (hR v3 h6 H)
    · replace H := sh_okF c H
      show wq_180 d Q 34 [oR 11 0, oI l1, _] [] (sh_E h)
      exact ai_WP_steps mc_180 (sh_CM d) 2 (hR (-1 : Int32) h H)
def f_CB_isKnown  (l1 : Int32) (h : sh_H) : Option Int32 := (Option.bind (f_Rows_size (4 * 0 + 16) h) (fun v1 => (Option.bind (f_CB_within l1 (0 : Int32) v1 h) (fun v2 => (some (ai_nar 1 v2))))))
theorem x_CB_isKnown {d : Nat} (hd : 2 ≤ d) (l1 : Int32) (h : sh_H) {Q : ai_Q} {R : Int32 → Prop} (H : sh_ok (f_CB_isKnown l1 h) R) (hR : ∀ r, R r → Q (some (aI r)) (sh_E h)) : ai_Ex sh_T d 197 [aR 11 0, aI l1] (sh_E h) Q := by
  obtain ⟨d, rfl⟩ : ∃ e, d = e + 1 := ⟨d - 1, by omega⟩
  replace hd : 1 ≤ d := by omega
  refine And.intro (Nat.le_of_ble_eq_true rfl) ?_
  show wq_197 d Q 0 [oR 11 0, oI l1] [] (sh_E h)
  refine ai_WP_steps mc_197 (sh_CM d) 6 (And.intro (Nat.le_of_ble_eq_true rfl) (x_Rows_size (Nat.le_trans (Nat.le_of_ble_eq_true rfl) hd) (4 * 0 + 16) h (sh_okB H) (fun v1 H => ?_)))
  show wq_197 d Q 12 [oR 11 0, oI l1] [aI v1, aI (0 : Int32), aI l1] (sh_E h)
  refine ai_WP_steps mc_197 (sh_CM d) 1 (And.intro (Nat.le_of_ble_eq_true rfl) (x_CB_within (Nat.le_trans (Nat.le_of_ble_eq_true rfl) hd) l1 (0 : Int32) v1 h (sh_okB H) (fun v2 H => ?_)))
  show wq_197 d Q 15 [oR 11 0, oI l1] [aI v2] (sh_E h)
  exact ai_WP_steps mc_197 (sh_CM d) 1 (hR (ai_nar 1 v2) H)
def f_CB_balance_b17 (N : Nat)    (h : sh_H) : Option (Int32 × sh_H) := (some ((-1000000 : Int32), h))
theorem x_CB_balance_b17 (N : Nat) {d : Nat} (hd : 5 ≤ d) {Q : ai_Q} {R : Int32 × sh_H → Prop} (hR : ∀ r h, R (r, h) → Q (some (aI r)) (sh_E h))    {d0 d1 d2 d3 : Option ai_V} (h : sh_H) (H : sh_ok (f_CB_balance_b17 N h) R) : wq_181 d Q 17 [d0, d1, d2, d3] [] (sh_E h) := by
  exact ai_WP_steps mc_181 (sh_CM d) 2 (hR (-1000000 : Int32) h H)
def f_CB_balance (N : Nat)  (l1 : Int32) (l2 : Int32) (l3 : Int32) (h : sh_H) : Option (Int32 × sh_H) := (Option.bind (f_CB_isOf l1 l2 h) (fun v1 => (if v1 = 0 then f_CB_balance_b17 N h else (Option.bind (f_CB_isKnown l3 h) (fun v2 => (if v2 = 0 then f_CB_balance_b17 N h else (Option.bind (f_Ledger_know N (4 * 0 + 16) l3 h) (fun h3 => (Option.bind (f_Ledger_went l1 l2 h3) (fun v4 => (Option.bind (f_Ledger_came l1 l2 h3) (fun v5 => (some ((v4 - v5), h3))))))))))))))
theorem x_CB_balance (N : Nat) {d : Nat} (hd : 6 ≤ d) (l1 : Int32) (l2 : Int32) (l3 : Int32) (h : sh_H) {Q : ai_Q} {R : Int32 × sh_H → Prop} (H : sh_ok (f_CB_balance N l1 l2 l3 h) R) (hR : ∀ r h, R (r, h) → Q (some (aI r)) (sh_E h)) : ai_Ex sh_T d 181 [aR 11 0, aI l1, aI l2, aI l3] (sh_E h) Q := by
  obtain ⟨d, rfl⟩ : ∃ e, d = e + 1 := ⟨d - 1, by omega⟩
  replace hd : 5 ≤ d := by omega
  refine And.intro (Nat.le_of_ble_eq_true rfl) ?_
  show wq_181 d Q 0 [oR 11 0, oI l1, oI l2, oI l3] [] (sh_E h)
  refine ai_WP_steps mc_181 (sh_CM d) 4 (And.intro (Nat.le_of_ble_eq_true rfl) (x_CB_isOf (Nat.le_trans (Nat.le_of_ble_eq_true rfl) hd) l1 l2 h (sh_okB H) (fun v1 H => ?_)))
  show wq_181 d Q 6 [oR 11 0, oI l1, oI l2, oI l3] [aI v1] (sh_E h)
  refine ai_WP_steps mc_181 (sh_CM d) 1 (And.intro (fun c => ?_) (fun c => ?_))
  · replace H := sh_okT c H
    exact x_CB_balance_b17 N hd hR h H
  · replace H := sh_okF c H
    show wq_181 d Q 9 [oR 11 0, oI l1, oI l2, oI l3] [] (sh_E h)
    refine ai_WP_steps mc_181 (sh_CM d) 3 (And.intro (Nat.le_of_ble_eq_true rfl) (x_CB_isKnown (Nat.le_trans (Nat.le_of_ble_eq_true rfl) hd) l3 h (sh_okB H) (fun v2 H => ?_)))
    show wq_181 d Q 14 [oR 11 0, oI l1, oI l2, oI l3] [aI v2] (sh_E h)
    refine ai_WP_steps mc_181 (sh_CM d) 1 (And.intro (fun c => ?_) (fun c => ?_))
    · replace H := sh_okT c H
      exact x_CB_balance_b17 N hd hR h H
    · replace H := sh_okF c H
      show wq_181 d Q 21 [oR 11 0, oI l1, oI l2, oI l3] [] (sh_E h)
      refine ai_WP_steps mc_181 (sh_CM d) 7 (And.intro (Nat.le_of_ble_eq_true rfl) (x_Ledger_know N (Nat.le_trans (Nat.le_of_ble_eq_true rfl) hd) (4 * 0 + 16) l3 h (sh_okB H) (fun h3 H => ?_)))
      show wq_181 d Q 36 [oR 11 0, oI l1, oI l2, oI l3] [] (sh_E h3)
      refine ai_WP_steps mc_181 (sh_CM d) 5 (And.intro (Nat.le_of_ble_eq_true rfl) (x_Ledger_went (Nat.le_trans (Nat.le_of_ble_eq_true rfl) hd) l1 l2 h3 (sh_okB H) (fun v4 H => ?_)))
      show wq_181 d Q 45 [oR 11 0, oI l1, oI l2, oI l3] [aI v4] (sh_E h3)
      refine ai_WP_steps mc_181 (sh_CM d) 5 (And.intro (Nat.le_of_ble_eq_true rfl) (x_Ledger_came (Nat.le_trans (Nat.le_of_ble_eq_true rfl) hd) l1 l2 h3 (sh_okB H) (fun v5 H => ?_)))
      show wq_181 d Q 54 [oR 11 0, oI l1, oI l2, oI l3] [aI v5, aI v4] (sh_E h3)
      exact ai_WP_steps mc_181 (sh_CM d) 2 (hR (v4 - v5) h3 H)
def f_CB_richest (N : Nat)  (l1 : Int32) (h : sh_H) : Option (Int32 × sh_H) := (Option.bind (f_CB_isKnown l1 h) (fun v1 => (if v1 = 0 then (some ((-1 : Int32), h)) else (Option.bind (f_Ledger_know N (4 * 0 + 16) l1 h) (fun h2 => (Option.bind (f_Ledger_gainer N h2.2.2.1 h2) (fun v3 => (some (v3, h2)))))))))
theorem x_CB_richest (N : Nat) {d : Nat} (hd : 6 ≤ d) (l1 : Int32) (h : sh_H) {Q : ai_Q} {R : Int32 × sh_H → Prop} (H : sh_ok (f_CB_richest N l1 h) R) (hR : ∀ r h, R (r, h) → Q (some (aI r)) (sh_E h)) : ai_Ex sh_T d 182 [aR 11 0, aI l1] (sh_E h) Q := by
  obtain ⟨d, rfl⟩ : ∃ e, d = e + 1 := ⟨d - 1, by omega⟩
  replace hd : 5 ≤ d := by omega
  refine And.intro (Nat.le_of_ble_eq_true rfl) ?_
  show wq_182 d Q 0 [oR 11 0, oI l1] [] (sh_E h)
  refine ai_WP_steps mc_182 (sh_CM d) 3 (And.intro (Nat.le_of_ble_eq_true rfl) (x_CB_isKnown (Nat.le_trans (Nat.le_of_ble_eq_true rfl) hd) l1 h (sh_okB H) (fun v1 H => ?_)))
  show wq_182 d Q 5 [oR 11 0, oI l1] [aI v1] (sh_E h)
  refine ai_WP_steps mc_182 (sh_CM d) 1 (And.intro (fun c => ?_) (fun c => ?_))
  · replace H := sh_okT c H
    show wq_182 d Q 8 [oR 11 0, oI l1] [] (sh_E h)
    exact ai_WP_steps mc_182 (sh_CM d) 2 (hR (-1 : Int32) h H)
  · replace H := sh_okF c H
    show wq_182 d Q 10 [oR 11 0, oI l1] [] (sh_E h)
    refine ai_WP_steps mc_182 (sh_CM d) 7 (And.intro (Nat.le_of_ble_eq_true rfl) (x_Ledger_know N (Nat.le_trans (Nat.le_of_ble_eq_true rfl) hd) (4 * 0 + 16) l1 h (sh_okB H) (fun h2 H => ?_)))
    show wq_182 d Q 25 [oR 11 0, oI l1] [] (sh_E h2)
    refine ai_WP_steps mc_182 (sh_CM d) 5 (And.intro (Nat.le_of_ble_eq_true rfl) (x_Ledger_gainer N (Nat.le_trans (Nat.le_of_ble_eq_true rfl) hd) h2.2.2.1 h2 (sh_okB H) (fun v3 H => ?_)))
    show wq_182 d Q 36 [oR 11 0, oI l1] [aI v3] (sh_E h2)
    exact ai_WP_steps mc_182 (sh_CM d) 1 (hR v3 h2 H)
def f_CB_isJars_b34    (h : sh_H) : Option Int32 := (some (ai_nar 1 (0 : Int32)))
theorem x_CB_isJars_b34 {d : Nat} (hd : 2 ≤ d) (h : sh_H) {Q : ai_Q} {R : Int32 → Prop} (hR : ∀ r, R r → Q (some (aI r)) (sh_E h))    {d0 d1 d2 d3 : Option ai_V} (H : sh_ok (f_CB_isJars_b34 h) R) : wq_200 d Q 34 [d0, d1, d2, d3] [] (sh_E h) := by
  exact ai_WP_steps mc_200 (sh_CM d) 2 (hR (ai_nar 1 (0 : Int32)) H)
def f_CB_isJars  (l1 : Int32) (l2 : Int32) (l3 : Int32) (h : sh_H) : Option Int32 := (Option.bind (f_Text_isIsland h.2.2.1 l1 h) (fun v1 => (if v1 = 0 then f_CB_isJars_b34 h else (Option.bind (f_CB_isKnown l2 h) (fun v2 => (if v2 = 0 then f_CB_isJars_b34 h else (Option.bind (f_CB_within l3 (1 : Int32) (501 : Int32) h) (fun v3 => (if v3 = 0 then f_CB_isJars_b34 h else (some (ai_nar 1 (1 : Int32))))))))))))
theorem x_CB_isJars {d : Nat} (hd : 3 ≤ d) (l1 : Int32) (l2 : Int32) (l3 : Int32) (h : sh_H) {Q : ai_Q} {R : Int32 → Prop} (H : sh_ok (f_CB_isJars l1 l2 l3 h) R) (hR : ∀ r, R r → Q (some (aI r)) (sh_E h)) : ai_Ex sh_T d 200 [aR 11 0, aI l1, aI l2, aI l3] (sh_E h) Q := by
  obtain ⟨d, rfl⟩ : ∃ e, d = e + 1 := ⟨d - 1, by omega⟩
  replace hd : 2 ≤ d := by omega
  refine And.intro (Nat.le_of_ble_eq_true rfl) ?_
  show wq_200 d Q 0 [oR 11 0, oI l1, oI l2, oI l3] [] (sh_E h)
  refine ai_WP_steps mc_200 (sh_CM d) 4 (And.intro (Nat.le_of_ble_eq_true rfl) (x_Text_isIsland (Nat.le_trans (Nat.le_of_ble_eq_true rfl) hd) h.2.2.1 l1 h (sh_okB H) (fun v1 H => ?_)))
  show wq_200 d Q 8 [oR 11 0, oI l1, oI l2, oI l3] [aI v1] (sh_E h)
  refine ai_WP_steps mc_200 (sh_CM d) 1 (And.intro (fun c => ?_) (fun c => ?_))
  · replace H := sh_okT c H
    exact x_CB_isJars_b34 hd h hR H
  · replace H := sh_okF c H
    show wq_200 d Q 11 [oR 11 0, oI l1, oI l2, oI l3] [] (sh_E h)
    refine ai_WP_steps mc_200 (sh_CM d) 3 (And.intro (Nat.le_of_ble_eq_true rfl) (x_CB_isKnown (Nat.le_trans (Nat.le_of_ble_eq_true rfl) hd) l2 h (sh_okB H) (fun v2 H => ?_)))
    show wq_200 d Q 16 [oR 11 0, oI l1, oI l2, oI l3] [aI v2] (sh_E h)
    refine ai_WP_steps mc_200 (sh_CM d) 1 (And.intro (fun c => ?_) (fun c => ?_))
    · replace H := sh_okT c H
      exact x_CB_isJars_b34 hd h hR H
    · replace H := sh_okF c H
      show wq_200 d Q 19 [oR 11 0, oI l1, oI l2, oI l3] [] (sh_E h)
      refine ai_WP_steps mc_200 (sh_CM d) 4 (And.intro (Nat.le_of_ble_eq_true rfl) (x_CB_within (Nat.le_trans (Nat.le_of_ble_eq_true rfl) hd) l3 (1 : Int32) (501 : Int32) h (sh_okB H) (fun v3 H => ?_)))
      show wq_200 d Q 27 [oR 11 0, oI l1, oI l2, oI l3] [aI v3] (sh_E h)
      refine ai_WP_steps mc_200 (sh_CM d) 1 (And.intro (fun c => ?_) (fun c => ?_))
      · replace H := sh_okT c H
        exact x_CB_isJars_b34 hd h hR H
      · replace H := sh_okF c H
        show wq_200 d Q 30 [oR 11 0, oI l1, oI l2, oI l3] [] (sh_E h)
        exact ai_WP_steps mc_200 (sh_CM d) 3 (hR (ai_nar 1 (1 : Int32)) H)
def f_CB_jars (N : Nat)  (l1 : Int32) (l2 : Int32) (l3 : Int32) (l4 : Int32) (h : sh_H) : Option (Int32 × sh_H) := (Option.bind (f_CB_isJars l1 l2 l3 h) (fun v1 => (if v1 = 0 then (some ((-1 : Int32), h)) else (Option.bind (f_CB_within l4 (0 : Int32) (2 : Int32) h) (fun v2 => (if v2 = 0 then (some ((-1 : Int32), h)) else (Option.bind (f_Ledger_know N (4 * 0 + 16) l2 h) (fun h3 => (sh_b2 (f_Ledger_leastOff N h3.2.2.1 l1 l3 h3) (fun v4 h5 => (if l4 = (0 : Int32) then (Option.bind (f_Ledger_kept h5) (fun v6 => (some (v6, h5)))) else (if l4 = (1 : Int32) then (Option.bind (f_Ledger_lost h5) (fun v7 => (some (v7, h5)))) else (some (v4, h5))))))))))))))
theorem x_CB_jars (N : Nat) {d : Nat} (hd : 6 ≤ d) (l1 : Int32) (l2 : Int32) (l3 : Int32) (l4 : Int32) (h : sh_H) {Q : ai_Q} {R : Int32 × sh_H → Prop} (H : sh_ok (f_CB_jars N l1 l2 l3 l4 h) R) (hR : ∀ r h, R (r, h) → Q (some (aI r)) (sh_E h)) : ai_Ex sh_T d 183 [aR 11 0, aI l1, aI l2, aI l3, aI l4] (sh_E h) Q := by
  obtain ⟨d, rfl⟩ : ∃ e, d = e + 1 := ⟨d - 1, by omega⟩
  replace hd : 5 ≤ d := by omega
  refine And.intro (Nat.le_of_ble_eq_true rfl) ?_
  show wq_183 d Q 0 [oR 11 0, oI l1, oI l2, oI l3, oI l4, none] [] (sh_E h)
  refine ai_WP_steps mc_183 (sh_CM d) 5 (And.intro (Nat.le_of_ble_eq_true rfl) (x_CB_isJars (Nat.le_trans (Nat.le_of_ble_eq_true rfl) hd) l1 l2 l3 h (sh_okB H) (fun v1 H => ?_)))
  show wq_183 d Q 7 [oR 11 0, oI l1, oI l2, oI l3, oI l4, _] [aI v1] (sh_E h)
  refine ai_WP_steps mc_183 (sh_CM d) 1 (And.intro (fun c => ?_) (fun c => ?_))
  · replace H := sh_okT c H
    show wq_183 d Q 20 [oR 11 0, oI l1, oI l2, oI l3, oI l4, _] [] (sh_E h)
    exact ai_WP_steps mc_183 (sh_CM d) 2 (hR (-1 : Int32) h H)
  · replace H := sh_okF c H
    show wq_183 d Q 10 [oR 11 0, oI l1, oI l2, oI l3, oI l4, _] [] (sh_E h)
    refine ai_WP_steps mc_183 (sh_CM d) 4 (And.intro (Nat.le_of_ble_eq_true rfl) (x_CB_within (Nat.le_trans (Nat.le_of_ble_eq_true rfl) hd) l4 (0 : Int32) (2 : Int32) h (sh_okB H) (fun v2 H => ?_)))
    show wq_183 d Q 17 [oR 11 0, oI l1, oI l2, oI l3, oI l4, _] [aI v2] (sh_E h)
    refine ai_WP_steps mc_183 (sh_CM d) 1 (And.intro (fun c => ?_) (fun c => ?_))
    · replace H := sh_okT c H
      show wq_183 d Q 20 [oR 11 0, oI l1, oI l2, oI l3, oI l4, _] [] (sh_E h)
      exact ai_WP_steps mc_183 (sh_CM d) 2 (hR (-1 : Int32) h H)
    · replace H := sh_okF c H
      show wq_183 d Q 22 [oR 11 0, oI l1, oI l2, oI l3, oI l4, _] [] (sh_E h)
      refine ai_WP_steps mc_183 (sh_CM d) 7 (And.intro (Nat.le_of_ble_eq_true rfl) (x_Ledger_know N (Nat.le_trans (Nat.le_of_ble_eq_true rfl) hd) (4 * 0 + 16) l2 h (sh_okB H) (fun h3 H => ?_)))
      show wq_183 d Q 37 [oR 11 0, oI l1, oI l2, oI l3, oI l4, _] [] (sh_E h3)
      refine ai_WP_steps mc_183 (sh_CM d) 7 (And.intro (Nat.le_of_ble_eq_true rfl) (x_Ledger_leastOff N (Nat.le_trans (Nat.le_of_ble_eq_true rfl) hd) h3.2.2.1 l1 l3 h3 (sh_okB H) (fun v4 h5 H => ?_)))
      show wq_183 d Q 50 [oR 11 0, oI l1, oI l2, oI l3, oI l4, _] [aI v4] (sh_E h5)
      refine ai_WP_steps mc_183 (sh_CM d) 3 (And.intro (fun c => ?_) (fun c => ?_))
      · replace H := sh_okT c H
        show wq_183 d Q 80 [oR 11 0, oI l1, oI l2, oI l3, oI l4, oI v4] [] (sh_E h5)
        refine ai_WP_steps mc_183 (sh_CM d) 3 (And.intro (Nat.le_of_ble_eq_true rfl) (x_Ledger_kept (Nat.le_trans (Nat.le_of_ble_eq_true rfl) hd) h5 (sh_okB H) (fun v6 H => ?_)))
        show wq_183 d Q 87 [oR 11 0, oI l1, oI l2, oI l3, oI l4, oI v4] [aI v6] (sh_E h5)
        exact ai_WP_steps mc_183 (sh_CM d) 1 (hR v6 h5 H)
      replace H := sh_okF c H
      refine And.intro (fun c => ?_) (fun c => ?_)
      · replace H := sh_okT c H
        show wq_183 d Q 88 [oR 11 0, oI l1, oI l2, oI l3, oI l4, oI v4] [] (sh_E h5)
        refine ai_WP_steps mc_183 (sh_CM d) 3 (And.intro (Nat.le_of_ble_eq_true rfl) (x_Ledger_lost (Nat.le_trans (Nat.le_of_ble_eq_true rfl) hd) h5 (sh_okB H) (fun v7 H => ?_)))
        show wq_183 d Q 95 [oR 11 0, oI l1, oI l2, oI l3, oI l4, oI v4] [aI v7] (sh_E h5)
        exact ai_WP_steps mc_183 (sh_CM d) 1 (hR v7 h5 H)
      replace H := sh_okF c H
      show wq_183 d Q 96 [oR 11 0, oI l1, oI l2, oI l3, oI l4, oI v4] [] (sh_E h5)
      exact ai_WP_steps mc_183 (sh_CM d) 2 (hR v4 h5 H)
def f_CB_ends (N : Nat)  (l1 : Int32) (l2 : Int32) (l3 : Int32) (l4 : Int32) (h : sh_H) : Option (Int32 × sh_H) := (Option.bind (f_CB_isJars l1 l2 l3 h) (fun v1 => (if v1 = 0 then (some ((-1 : Int32), h)) else (Option.bind (f_CB_within l4 (0 : Int32) (99999 : Int32) h) (fun v2 => (if v2 = 0 then (some ((-1 : Int32), h)) else (Option.bind (f_Ledger_know N (4 * 0 + 16) l2 h) (fun h3 => (Option.bind (f_Ledger_keptEnds N h3.2.2.1 l1 l3 l4 h3) (fun v4 => (some (v4, h3))))))))))))
theorem x_CB_ends (N : Nat) {d : Nat} (hd : 7 ≤ d) (l1 : Int32) (l2 : Int32) (l3 : Int32) (l4 : Int32) (h : sh_H) {Q : ai_Q} {R : Int32 × sh_H → Prop} (H : sh_ok (f_CB_ends N l1 l2 l3 l4 h) R) (hR : ∀ r h, R (r, h) → Q (some (aI r)) (sh_E h)) : ai_Ex sh_T d 184 [aR 11 0, aI l1, aI l2, aI l3, aI l4] (sh_E h) Q := by
  obtain ⟨d, rfl⟩ : ∃ e, d = e + 1 := ⟨d - 1, by omega⟩
  replace hd : 6 ≤ d := by omega
  refine And.intro (Nat.le_of_ble_eq_true rfl) ?_
  show wq_184 d Q 0 [oR 11 0, oI l1, oI l2, oI l3, oI l4] [] (sh_E h)
  refine ai_WP_steps mc_184 (sh_CM d) 5 (And.intro (Nat.le_of_ble_eq_true rfl) (x_CB_isJars (Nat.le_trans (Nat.le_of_ble_eq_true rfl) hd) l1 l2 l3 h (sh_okB H) (fun v1 H => ?_)))
  show wq_184 d Q 7 [oR 11 0, oI l1, oI l2, oI l3, oI l4] [aI v1] (sh_E h)
  refine ai_WP_steps mc_184 (sh_CM d) 1 (And.intro (fun c => ?_) (fun c => ?_))
  · replace H := sh_okT c H
    show wq_184 d Q 22 [oR 11 0, oI l1, oI l2, oI l3, oI l4] [] (sh_E h)
    exact ai_WP_steps mc_184 (sh_CM d) 2 (hR (-1 : Int32) h H)
  · replace H := sh_okF c H
    show wq_184 d Q 10 [oR 11 0, oI l1, oI l2, oI l3, oI l4] [] (sh_E h)
    refine ai_WP_steps mc_184 (sh_CM d) 4 (And.intro (Nat.le_of_ble_eq_true rfl) (x_CB_within (Nat.le_trans (Nat.le_of_ble_eq_true rfl) hd) l4 (0 : Int32) (99999 : Int32) h (sh_okB H) (fun v2 H => ?_)))
    show wq_184 d Q 19 [oR 11 0, oI l1, oI l2, oI l3, oI l4] [aI v2] (sh_E h)
    refine ai_WP_steps mc_184 (sh_CM d) 1 (And.intro (fun c => ?_) (fun c => ?_))
    · replace H := sh_okT c H
      show wq_184 d Q 22 [oR 11 0, oI l1, oI l2, oI l3, oI l4] [] (sh_E h)
      exact ai_WP_steps mc_184 (sh_CM d) 2 (hR (-1 : Int32) h H)
    · replace H := sh_okF c H
      show wq_184 d Q 24 [oR 11 0, oI l1, oI l2, oI l3, oI l4] [] (sh_E h)
      refine ai_WP_steps mc_184 (sh_CM d) 7 (And.intro (Nat.le_of_ble_eq_true rfl) (x_Ledger_know N (Nat.le_trans (Nat.le_of_ble_eq_true rfl) hd) (4 * 0 + 16) l2 h (sh_okB H) (fun h3 H => ?_)))
      show wq_184 d Q 39 [oR 11 0, oI l1, oI l2, oI l3, oI l4] [] (sh_E h3)
      refine ai_WP_steps mc_184 (sh_CM d) 8 (And.intro (Nat.le_of_ble_eq_true rfl) (x_Ledger_keptEnds N (Nat.le_trans (Nat.le_of_ble_eq_true rfl) hd) h3.2.2.1 l1 l3 l4 h3 (sh_okB H) (fun v4 H => ?_)))
      show wq_184 d Q 54 [oR 11 0, oI l1, oI l2, oI l3, oI l4] [aI v4] (sh_E h3)
      exact ai_WP_steps mc_184 (sh_CM d) 1 (hR v4 h3 H)
def f_CB_whose (N : Nat)  (l1 : Int32) (h : sh_H) : Option (Int32 × sh_H) := (Option.bind (f_CB_isKnown l1 h) (fun v1 => (if v1 = 0 then (some ((-1 : Int32), h)) else (Option.bind (f_Ledger_know N (4 * 0 + 16) l1 h) (fun h2 => (Option.bind (f_Rows_size (7 * h2.2.2.1 + 1) h2) (fun v3 => (Option.bind (f_Ledger_beyondLuck N v3 h2) (fun v4 => (some (v4, h2)))))))))))
theorem x_CB_whose (N : Nat) {d : Nat} (hd : 7 ≤ d) (l1 : Int32) (h : sh_H) {Q : ai_Q} {R : Int32 × sh_H → Prop} (H : sh_ok (f_CB_whose N l1 h) R) (hR : ∀ r h, R (r, h) → Q (some (aI r)) (sh_E h)) : ai_Ex sh_T d 185 [aR 11 0, aI l1] (sh_E h) Q := by
  obtain ⟨d, rfl⟩ : ∃ e, d = e + 1 := ⟨d - 1, by omega⟩
  replace hd : 6 ≤ d := by omega
  refine And.intro (Nat.le_of_ble_eq_true rfl) ?_
  show wq_185 d Q 0 [oR 11 0, oI l1] [] (sh_E h)
  refine ai_WP_steps mc_185 (sh_CM d) 3 (And.intro (Nat.le_of_ble_eq_true rfl) (x_CB_isKnown (Nat.le_trans (Nat.le_of_ble_eq_true rfl) hd) l1 h (sh_okB H) (fun v1 H => ?_)))
  show wq_185 d Q 5 [oR 11 0, oI l1] [aI v1] (sh_E h)
  refine ai_WP_steps mc_185 (sh_CM d) 1 (And.intro (fun c => ?_) (fun c => ?_))
  · replace H := sh_okT c H
    show wq_185 d Q 8 [oR 11 0, oI l1] [] (sh_E h)
    exact ai_WP_steps mc_185 (sh_CM d) 2 (hR (-1 : Int32) h H)
  · replace H := sh_okF c H
    show wq_185 d Q 10 [oR 11 0, oI l1] [] (sh_E h)
    refine ai_WP_steps mc_185 (sh_CM d) 7 (And.intro (Nat.le_of_ble_eq_true rfl) (x_Ledger_know N (Nat.le_trans (Nat.le_of_ble_eq_true rfl) hd) (4 * 0 + 16) l1 h (sh_okB H) (fun h2 H => ?_)))
    show wq_185 d Q 25 [oR 11 0, oI l1] [] (sh_E h2)
    refine ai_WP_steps mc_185 (sh_CM d) 6 (And.intro (Nat.le_of_ble_eq_true rfl) (x_Rows_size (Nat.le_trans (Nat.le_of_ble_eq_true rfl) hd) (7 * h2.2.2.1 + 1) h2 (sh_okB H) (fun v3 H => ?_)))
    show wq_185 d Q 39 [oR 11 0, oI l1] [aI v3, aR 3 0] (sh_E h2)
    refine ai_WP_steps mc_185 (sh_CM d) 1 (And.intro (Nat.le_of_ble_eq_true rfl) (x_Ledger_beyondLuck N (Nat.le_trans (Nat.le_of_ble_eq_true rfl) hd) v3 h2 (sh_okB H) (fun v4 H => ?_)))
    show wq_185 d Q 42 [oR 11 0, oI l1] [aI v4] (sh_E h2)
    exact ai_WP_steps mc_185 (sh_CM d) 1 (hR v4 h2 H)
def f_CB_whoseWays_b19 (N : Nat)    (h : sh_H) : Option (Int64 × sh_H) := (some ((-1 : Int64), h))
theorem x_CB_whoseWays_b19 (N : Nat) {d : Nat} (hd : 5 ≤ d) {Q : ai_Q} {R : Int64 × sh_H → Prop} (hR : ∀ r h, R (r, h) → Q (some (aL r)) (sh_E h))    {d0 d1 d2 d3 : Option ai_V} (h : sh_H) (H : sh_ok (f_CB_whoseWays_b19 N h) R) : wq_186 d Q 19 [d0, d1, d2, d3] [] (sh_E h) := by
  exact ai_WP_steps mc_186 (sh_CM d) 2 (hR (-1 : Int64) h H)
def f_CB_whoseWays_b59 (N : Nat)    (h : sh_H) : Option (Int64 × sh_H) := (some ((-2 : Int64), h))
theorem x_CB_whoseWays_b59 (N : Nat) {d : Nat} (hd : 5 ≤ d) {Q : ai_Q} {R : Int64 × sh_H → Prop} (hR : ∀ r h, R (r, h) → Q (some (aL r)) (sh_E h))    {d0 d1 d2 d3 : Option ai_V} (h : sh_H) (H : sh_ok (f_CB_whoseWays_b59 N h) R) : wq_186 d Q 59 [d0, d1, d2, d3] [] (sh_E h) := by
  exact ai_WP_steps mc_186 (sh_CM d) 2 (hR (-2 : Int64) h H)
def f_CB_whoseWays (N : Nat)  (l1 : Int32) (l2 : Int32) (l3 : Int32) (h : sh_H) : Option (Int64 × sh_H) := (Option.bind (f_Text_isIsland h.2.2.1 l1 h) (fun v1 => (if v1 = 0 then f_CB_whoseWays_b19 N h else (Option.bind (f_CB_isKnown l2 h) (fun v2 => (if v2 = 0 then f_CB_whoseWays_b19 N h else (Option.bind (f_Ledger_know N (4 * 0 + 16) l2 h) (fun h3 => (Option.bind (f_Ledger_isCountable h3) (fun v4 => (if v4 = 0 then f_CB_whoseWays_b59 N h3 else (Option.bind (f_Ledger_seen l1 h3) (fun v5 => (if v5 = 0 then f_CB_whoseWays_b59 N h3 else (if l3 = 0 then (Option.bind (f_Ledger_waysOfAll N l1 h3) (fun v6 => (some (v6, h3)))) else (Option.bind (f_Ledger_waysOfMore N l1 h3) (fun v7 => (some (v7, h3)))))))))))))))))))
theorem x_CB_whoseWays (N : Nat) {d : Nat} (hd : 6 ≤ d) (l1 : Int32) (l2 : Int32) (l3 : Int32) (h : sh_H) {Q : ai_Q} {R : Int64 × sh_H → Prop} (H : sh_ok (f_CB_whoseWays N l1 l2 l3 h) R) (hR : ∀ r h, R (r, h) → Q (some (aL r)) (sh_E h)) : ai_Ex sh_T d 186 [aR 11 0, aI l1, aI l2, aI l3] (sh_E h) Q := by
  obtain ⟨d, rfl⟩ : ∃ e, d = e + 1 := ⟨d - 1, by omega⟩
  replace hd : 5 ≤ d := by omega
  refine And.intro (Nat.le_of_ble_eq_true rfl) ?_
  show wq_186 d Q 0 [oR 11 0, oI l1, oI l2, oI l3] [] (sh_E h)
  refine ai_WP_steps mc_186 (sh_CM d) 4 (And.intro (Nat.le_of_ble_eq_true rfl) (x_Text_isIsland (Nat.le_trans (Nat.le_of_ble_eq_true rfl) hd) h.2.2.1 l1 h (sh_okB H) (fun v1 H => ?_)))
  show wq_186 d Q 8 [oR 11 0, oI l1, oI l2, oI l3] [aI v1] (sh_E h)
  refine ai_WP_steps mc_186 (sh_CM d) 1 (And.intro (fun c => ?_) (fun c => ?_))
  · replace H := sh_okT c H
    exact x_CB_whoseWays_b19 N hd hR h H
  · replace H := sh_okF c H
    show wq_186 d Q 11 [oR 11 0, oI l1, oI l2, oI l3] [] (sh_E h)
    refine ai_WP_steps mc_186 (sh_CM d) 3 (And.intro (Nat.le_of_ble_eq_true rfl) (x_CB_isKnown (Nat.le_trans (Nat.le_of_ble_eq_true rfl) hd) l2 h (sh_okB H) (fun v2 H => ?_)))
    show wq_186 d Q 16 [oR 11 0, oI l1, oI l2, oI l3] [aI v2] (sh_E h)
    refine ai_WP_steps mc_186 (sh_CM d) 1 (And.intro (fun c => ?_) (fun c => ?_))
    · replace H := sh_okT c H
      exact x_CB_whoseWays_b19 N hd hR h H
    · replace H := sh_okF c H
      show wq_186 d Q 23 [oR 11 0, oI l1, oI l2, oI l3] [] (sh_E h)
      refine ai_WP_steps mc_186 (sh_CM d) 7 (And.intro (Nat.le_of_ble_eq_true rfl) (x_Ledger_know N (Nat.le_trans (Nat.le_of_ble_eq_true rfl) hd) (4 * 0 + 16) l2 h (sh_okB H) (fun h3 H => ?_)))
      show wq_186 d Q 38 [oR 11 0, oI l1, oI l2, oI l3] [] (sh_E h3)
      refine ai_WP_steps mc_186 (sh_CM d) 3 (And.intro (Nat.le_of_ble_eq_true rfl) (x_Ledger_isCountable (Nat.le_trans (Nat.le_of_ble_eq_true rfl) hd) h3 (sh_okB H) (fun v4 H => ?_)))
      show wq_186 d Q 45 [oR 11 0, oI l1, oI l2, oI l3] [aI v4] (sh_E h3)
      refine ai_WP_steps mc_186 (sh_CM d) 1 (And.intro (fun c => ?_) (fun c => ?_))
      · replace H := sh_okT c H
        exact x_CB_whoseWays_b59 N hd hR h3 H
      · replace H := sh_okF c H
        show wq_186 d Q 48 [oR 11 0, oI l1, oI l2, oI l3] [] (sh_E h3)
        refine ai_WP_steps mc_186 (sh_CM d) 4 (And.intro (Nat.le_of_ble_eq_true rfl) (x_Ledger_seen (Nat.le_trans (Nat.le_of_ble_eq_true rfl) hd) l1 h3 (sh_okB H) (fun v5 H => ?_)))
        show wq_186 d Q 56 [oR 11 0, oI l1, oI l2, oI l3] [aI v5] (sh_E h3)
        refine ai_WP_steps mc_186 (sh_CM d) 1 (And.intro (fun c => ?_) (fun c => ?_))
        · replace H := sh_okT c H
          exact x_CB_whoseWays_b59 N hd hR h3 H
        · replace H := sh_okF c H
          show wq_186 d Q 63 [oR 11 0, oI l1, oI l2, oI l3] [] (sh_E h3)
          refine ai_WP_steps mc_186 (sh_CM d) 2 (And.intro (fun c => ?_) (fun c => ?_))
          · replace H := sh_okT c H
            show wq_186 d Q 78 [oR 11 0, oI l1, oI l2, oI l3] [] (sh_E h3)
            refine ai_WP_steps mc_186 (sh_CM d) 4 (And.intro (Nat.le_of_ble_eq_true rfl) (x_Ledger_waysOfAll N (Nat.le_trans (Nat.le_of_ble_eq_true rfl) hd) l1 h3 (sh_okB H) (fun v6 H => ?_)))
            show wq_186 d Q 86 [oR 11 0, oI l1, oI l2, oI l3] [aL v6] (sh_E h3)
            exact ai_WP_steps mc_186 (sh_CM d) 1 (hR v6 h3 H)
          · replace H := sh_okF c H
            show wq_186 d Q 67 [oR 11 0, oI l1, oI l2, oI l3] [] (sh_E h3)
            refine ai_WP_steps mc_186 (sh_CM d) 4 (And.intro (Nat.le_of_ble_eq_true rfl) (x_Ledger_waysOfMore N (Nat.le_trans (Nat.le_of_ble_eq_true rfl) hd) l1 h3 (sh_okB H) (fun v7 H => ?_)))
            show wq_186 d Q 75 [oR 11 0, oI l1, oI l2, oI l3] [aL v7] (sh_E h3)
            exact ai_WP_steps mc_186 (sh_CM d) 2 (hR v7 h3 H)
def f_CB_comesBack  (l0 : Int32) (l1 : Int32) (h : sh_H) : Option Int32 := (if ¬ (10 : Int32) = 0 then (some (((l0 * l1) + (9 : Int32)) / (10 : Int32))) else none)
theorem x_CB_comesBack {d : Nat} (hd : 1 ≤ d) (l0 : Int32) (l1 : Int32) (h : sh_H) {Q : ai_Q} {R : Int32 → Prop} (H : sh_ok (f_CB_comesBack l0 l1 h) R) (hR : ∀ r, R r → Q (some (aI r)) (sh_E h)) : ai_Ex sh_T d 189 [aI l0, aI l1] (sh_E h) Q := by
  obtain ⟨d, rfl⟩ : ∃ e, d = e + 1 := ⟨d - 1, by omega⟩
  replace hd : 0 ≤ d := by omega
  refine And.intro (Nat.le_of_ble_eq_true rfl) ?_
  show wq_189 d Q 0 [oI l0, oI l1] [] (sh_E h)
  have c := sh_okG H
  replace H := sh_okH H
  refine ai_WP_steps mc_189 (sh_CM d) 7 (And.intro c ?_)
  show wq_189 d Q 9 [oI l0, oI l1] [aI (((l0 * l1) + (9 : Int32)) / (10 : Int32))] (sh_E h)
  exact ai_WP_steps mc_189 (sh_CM d) 1 (hR (((l0 * l1) + (9 : Int32)) / (10 : Int32)) H)
def f_CB_isTrickle_b35    (h : sh_H) : Option Int32 := (some (ai_nar 1 (0 : Int32)))
theorem x_CB_isTrickle_b35 {d : Nat} (hd : 1 ≤ d) (h : sh_H) {Q : ai_Q} {R : Int32 → Prop} (hR : ∀ r, R r → Q (some (aI r)) (sh_E h))    {d0 d1 d2 : Option ai_V} (H : sh_ok (f_CB_isTrickle_b35 h) R) : wq_201 d Q 35 [d0, d1, d2] [] (sh_E h) := by
  exact ai_WP_steps mc_201 (sh_CM d) 2 (hR (ai_nar 1 (0 : Int32)) H)
def f_CB_isTrickle  (l0 : Int32) (l1 : Int32) (l2 : Int32) (h : sh_H) : Option Int32 := (Option.bind (f_CB_within l0 (0 : Int32) (9999 : Int32) h) (fun v1 => (if v1 = 0 then f_CB_isTrickle_b35 h else (Option.bind (f_CB_within l1 (0 : Int32) (10 : Int32) h) (fun v2 => (if v2 = 0 then f_CB_isTrickle_b35 h else (Option.bind (f_CB_within l2 (0 : Int32) (10 : Int32) h) (fun v3 => (if v3 = 0 then f_CB_isTrickle_b35 h else (some (ai_nar 1 (1 : Int32))))))))))))
theorem x_CB_isTrickle {d : Nat} (hd : 2 ≤ d) (l0 : Int32) (l1 : Int32) (l2 : Int32) (h : sh_H) {Q : ai_Q} {R : Int32 → Prop} (H : sh_ok (f_CB_isTrickle l0 l1 l2 h) R) (hR : ∀ r, R r → Q (some (aI r)) (sh_E h)) : ai_Ex sh_T d 201 [aI l0, aI l1, aI l2] (sh_E h) Q := by
  obtain ⟨d, rfl⟩ : ∃ e, d = e + 1 := ⟨d - 1, by omega⟩
  replace hd : 1 ≤ d := by omega
  refine And.intro (Nat.le_of_ble_eq_true rfl) ?_
  show wq_201 d Q 0 [oI l0, oI l1, oI l2] [] (sh_E h)
  refine ai_WP_steps mc_201 (sh_CM d) 4 (And.intro (Nat.le_of_ble_eq_true rfl) (x_CB_within (Nat.le_trans (Nat.le_of_ble_eq_true rfl) hd) l0 (0 : Int32) (9999 : Int32) h (sh_okB H) (fun v1 H => ?_)))
  show wq_201 d Q 8 [oI l0, oI l1, oI l2] [aI v1] (sh_E h)
  refine ai_WP_steps mc_201 (sh_CM d) 1 (And.intro (fun c => ?_) (fun c => ?_))
  · replace H := sh_okT c H
    exact x_CB_isTrickle_b35 hd h hR H
  · replace H := sh_okF c H
    show wq_201 d Q 11 [oI l0, oI l1, oI l2] [] (sh_E h)
    refine ai_WP_steps mc_201 (sh_CM d) 4 (And.intro (Nat.le_of_ble_eq_true rfl) (x_CB_within (Nat.le_trans (Nat.le_of_ble_eq_true rfl) hd) l1 (0 : Int32) (10 : Int32) h (sh_okB H) (fun v2 H => ?_)))
    show wq_201 d Q 18 [oI l0, oI l1, oI l2] [aI v2] (sh_E h)
    refine ai_WP_steps mc_201 (sh_CM d) 1 (And.intro (fun c => ?_) (fun c => ?_))
    · replace H := sh_okT c H
      exact x_CB_isTrickle_b35 hd h hR H
    · replace H := sh_okF c H
      show wq_201 d Q 21 [oI l0, oI l1, oI l2] [] (sh_E h)
      refine ai_WP_steps mc_201 (sh_CM d) 4 (And.intro (Nat.le_of_ble_eq_true rfl) (x_CB_within (Nat.le_trans (Nat.le_of_ble_eq_true rfl) hd) l2 (0 : Int32) (10 : Int32) h (sh_okB H) (fun v3 H => ?_)))
      show wq_201 d Q 28 [oI l0, oI l1, oI l2] [aI v3] (sh_E h)
      refine ai_WP_steps mc_201 (sh_CM d) 1 (And.intro (fun c => ?_) (fun c => ?_))
      · replace H := sh_okT c H
        exact x_CB_isTrickle_b35 hd h hR H
      · replace H := sh_okF c H
        show wq_201 d Q 31 [oI l0, oI l1, oI l2] [] (sh_E h)
        exact ai_WP_steps mc_201 (sh_CM d) 3 (hR (ai_nar 1 (1 : Int32)) H)
def f_CB_stillOut  (l0 : Int32) (l1 : Int32) (h : sh_H) : Option Int32 := (if ¬ (10 : Int32) = 0 then (some (l0 - ((l0 * l1) / (10 : Int32)))) else none)
theorem x_CB_stillOut {d : Nat} (hd : 1 ≤ d) (l0 : Int32) (l1 : Int32) (h : sh_H) {Q : ai_Q} {R : Int32 → Prop} (H : sh_ok (f_CB_stillOut l0 l1 h) R) (hR : ∀ r, R r → Q (some (aI r)) (sh_E h)) : ai_Ex sh_T d 190 [aI l0, aI l1] (sh_E h) Q := by
  obtain ⟨d, rfl⟩ : ∃ e, d = e + 1 := ⟨d - 1, by omega⟩
  replace hd : 0 ≤ d := by omega
  refine And.intro (Nat.le_of_ble_eq_true rfl) ?_
  show wq_190 d Q 0 [oI l0, oI l1] [] (sh_E h)
  have c := sh_okG H
  replace H := sh_okH H
  refine ai_WP_steps mc_190 (sh_CM d) 6 (And.intro c ?_)
  show wq_190 d Q 7 [oI l0, oI l1] [aI ((l0 * l1) / (10 : Int32)), aI l0] (sh_E h)
  exact ai_WP_steps mc_190 (sh_CM d) 2 (hR (l0 - ((l0 * l1) / (10 : Int32))) H)
def f_CB_trickle_c31 (N : Nat)   (k31 : Int32 → Int32 → Int32 → Int32 → Int32 → Int32 → sh_H → Option Int32) (l2 : Int32) (l3 : Int32) (l4 : Int32) (l5 : Int32) (l6 : Int32) (l7 : Int32) (h : sh_H) : Option Int32 := (if l7 < l4 then (Option.bind (f_CB_comesBack l5 l2 h) (fun v1 => (Option.bind (f_CB_stillOut (l5 - v1) l3 h) (fun v2 => k31 l2 l3 l4 v2 (l6 + v1) (l7 + (1 : Int32)) h)))) else (some l6))
def f_CB_trickle_l31 (N : Nat)   (n : Nat) : Int32 → Int32 → Int32 → Int32 → Int32 → Int32 → sh_H → Option Int32 := Nat.rec (motive := fun _ => Int32 → Int32 → Int32 → Int32 → Int32 → Int32 → sh_H → Option Int32) (fun _ _ _ _ _ _ _ => none) (fun _ k31 => f_CB_trickle_c31 N k31) n
theorem x_CB_trickle_l31 (N : Nat) {d : Nat} (hd : 2 ≤ d) (h : sh_H) {Q : ai_Q} {R : Int32 → Prop} (hR : ∀ r, R r → Q (some (aI r)) (sh_E h))   (n : Nat) : ∀ (l2 : Int32) (l3 : Int32) (l4 : Int32) (l5 : Int32) (l6 : Int32) (l7 : Int32) {d0 d1 d8 : Option ai_V}, sh_ok (f_CB_trickle_l31 N n l2 l3 l4 l5 l6 l7 h) R → wq_187 d Q 31 [d0, d1, oI l2, oI l3, oI l4, oI l5, oI l6, oI l7, d8] [] (sh_E h) := by
  induction n with
  | zero => intro l2 l3 l4 l5 l6 l7 d0 d1 d8 H; exact H.elim
  | succ n ih =>
    intro l2 l3 l4 l5 l6 l7 d0 d1 d8 H
    have hk31 := @ih
    replace H : sh_ok (f_CB_trickle_c31 N (f_CB_trickle_l31 N n) l2 l3 l4 l5 l6 l7 h) R := H
    revert hk31 H
    generalize f_CB_trickle_l31 N n = k31
    intro hk31 H
    refine ai_WP_steps mc_187 (sh_CM d) 3 (And.intro (fun c => ?_) (fun c => ?_))
    · replace H := sh_okT c H
      show wq_187 d Q 38 [_, _, oI l2, oI l3, oI l4, oI l5, oI l6, oI l7, _] [] (sh_E h)
      refine ai_WP_steps mc_187 (sh_CM d) 3 (And.intro (Nat.le_of_ble_eq_true rfl) (x_CB_comesBack (Nat.le_trans (Nat.le_of_ble_eq_true rfl) hd) l5 l2 h (sh_okB H) (fun v1 H => ?_)))
      show wq_187 d Q 44 [_, _, oI l2, oI l3, oI l4, oI l5, oI l6, oI l7, _] [aI v1] (sh_E h)
      refine ai_WP_steps mc_187 (sh_CM d) 10 (And.intro (Nat.le_of_ble_eq_true rfl) (x_CB_stillOut (Nat.le_trans (Nat.le_of_ble_eq_true rfl) hd) (l5 - v1) l3 h (sh_okB H) (fun v2 H => ?_)))
      show wq_187 d Q 62 [_, _, oI l2, oI l3, oI l4, oI l5, oI (l6 + v1), oI l7, oI v1] [aI v2] (sh_E h)
      refine ai_WP_steps mc_187 (sh_CM d) 3 ?_
      exact hk31 l2 l3 l4 v2 (l6 + v1) (l7 + (1 : Int32)) H
    · replace H := sh_okF c H
      show wq_187 d Q 70 [_, _, oI l2, oI l3, oI l4, oI l5, oI l6, oI l7, _] [] (sh_E h)
      exact ai_WP_steps mc_187 (sh_CM d) 2 (hR l6 H)
def f_CB_trickle (N : Nat)  (l1 : Int32) (l2 : Int32) (l3 : Int32) (l4 : Int32) (h : sh_H) : Option Int32 := (Option.bind (f_CB_isTrickle l1 l2 l3 h) (fun v3 => (if v3 = 0 then (some (-1 : Int32)) else (Option.bind (f_CB_within l4 (0 : Int32) (60 : Int32) h) (fun v4 => (if v4 = 0 then (some (-1 : Int32)) else f_CB_trickle_l31 N N l2 l3 l4 l1 (0 : Int32) (0 : Int32) h))))))
theorem x_CB_trickle (N : Nat) {d : Nat} (hd : 3 ≤ d) (l1 : Int32) (l2 : Int32) (l3 : Int32) (l4 : Int32) (h : sh_H) {Q : ai_Q} {R : Int32 → Prop} (H : sh_ok (f_CB_trickle N l1 l2 l3 l4 h) R) (hR : ∀ r, R r → Q (some (aI r)) (sh_E h)) : ai_Ex sh_T d 187 [aR 11 0, aI l1, aI l2, aI l3, aI l4] (sh_E h) Q := by
  obtain ⟨d, rfl⟩ : ∃ e, d = e + 1 := ⟨d - 1, by omega⟩
  replace hd : 2 ≤ d := by omega
  refine And.intro (Nat.le_of_ble_eq_true rfl) ?_
  show wq_187 d Q 0 [oR 11 0, oI l1, oI l2, oI l3, oI l4, none, none, none, none] [] (sh_E h)
  refine ai_WP_steps mc_187 (sh_CM d) 4 (And.intro (Nat.le_of_ble_eq_true rfl) (x_CB_isTrickle (Nat.le_trans (Nat.le_of_ble_eq_true rfl) hd) l1 l2 l3 h (sh_okB H) (fun v3 H => ?_)))
  show wq_187 d Q 6 [oR 11 0, oI l1, oI l2, oI l3, oI l4, _, _, _, _] [aI v3] (sh_E h)
  refine ai_WP_steps mc_187 (sh_CM d) 1 (And.intro (fun c => ?_) (fun c => ?_))
  · replace H := sh_okT c H
    show wq_187 d Q 20 [oR 11 0, oI l1, oI l2, oI l3, oI l4, _, _, _, _] [] (sh_E h)
    exact ai_WP_steps mc_187 (sh_CM d) 2 (hR (-1 : Int32) H)
  · replace H := sh_okF c H
    show wq_187 d Q 9 [oR 11 0, oI l1, oI l2, oI l3, oI l4, _, _, _, _] [] (sh_E h)
    refine ai_WP_steps mc_187 (sh_CM d) 4 (And.intro (Nat.le_of_ble_eq_true rfl) (x_CB_within (Nat.le_trans (Nat.le_of_ble_eq_true rfl) hd) l4 (0 : Int32) (60 : Int32) h (sh_okB H) (fun v4 H => ?_)))
    show wq_187 d Q 17 [oR 11 0, oI l1, oI l2, oI l3, oI l4, _, _, _, _] [aI v4] (sh_E h)
    refine ai_WP_steps mc_187 (sh_CM d) 1 (And.intro (fun c => ?_) (fun c => ?_))
    · replace H := sh_okT c H
      show wq_187 d Q 20 [oR 11 0, oI l1, oI l2, oI l3, oI l4, _, _, _, _] [] (sh_E h)
      exact ai_WP_steps mc_187 (sh_CM d) 2 (hR (-1 : Int32) H)
    · replace H := sh_okF c H
      show wq_187 d Q 22 [oR 11 0, oI l1, oI l2, oI l3, oI l4, _, _, _, _] [] (sh_E h)
      refine ai_WP_steps mc_187 (sh_CM d) 6 ?_
      exact x_CB_trickle_l31 N hd h hR N l2 l3 l4 l1 (0 : Int32) (0 : Int32) H
def f_CB_trickled_c29 (N : Nat)   (k29 : Int32 → Int32 → Int32 → Int32 → Int32 → sh_H → Option Int32) (l2 : Int32) (l3 : Int32) (l4 : Int32) (l5 : Int32) (l6 : Int32) (h : sh_H) : Option Int32 := (if (240 : Int32) < l6 then (some (-2 : Int32)) else (if l4 < l5 then (Option.bind (f_CB_comesBack l5 l2 h) (fun v1 => (Option.bind (f_CB_stillOut (l5 - v1) l3 h) (fun v2 => k29 l2 l3 l4 v2 (l6 + (1 : Int32)) h)))) else (some l6)))
def f_CB_trickled_l29 (N : Nat)   (n : Nat) : Int32 → Int32 → Int32 → Int32 → Int32 → sh_H → Option Int32 := Nat.rec (motive := fun _ => Int32 → Int32 → Int32 → Int32 → Int32 → sh_H → Option Int32) (fun _ _ _ _ _ _ => none) (fun _ k29 => f_CB_trickled_c29 N k29) n
theorem x_CB_trickled_l29 (N : Nat) {d : Nat} (hd : 2 ≤ d) (h : sh_H) {Q : ai_Q} {R : Int32 → Prop} (hR : ∀ r, R r → Q (some (aI r)) (sh_E h))   (n : Nat) : ∀ (l2 : Int32) (l3 : Int32) (l4 : Int32) (l5 : Int32) (l6 : Int32) {d0 d1 : Option ai_V}, sh_ok (f_CB_trickled_l29 N n l2 l3 l4 l5 l6 h) R → wq_188 d Q 29 [d0, d1, oI l2, oI l3, oI l4, oI l5, oI l6] [] (sh_E h) := by
  induction n with
  | zero => intro l2 l3 l4 l5 l6 d0 d1 H; exact H.elim
  | succ n ih =>
    intro l2 l3 l4 l5 l6 d0 d1 H
    have hk29 := @ih
    replace H : sh_ok (f_CB_trickled_c29 N (f_CB_trickled_l29 N n) l2 l3 l4 l5 l6 h) R := H
    revert hk29 H
    generalize f_CB_trickled_l29 N n = k29
    intro hk29 H
    refine ai_WP_steps mc_188 (sh_CM d) 3 (And.intro (fun c => ?_) (fun c => ?_))
    · replace H := sh_okT c H
      show wq_188 d Q 68 [_, _, oI l2, oI l3, oI l4, oI l5, oI l6] [] (sh_E h)
      exact ai_WP_steps mc_188 (sh_CM d) 2 (hR (-2 : Int32) H)
    · replace H := sh_okF c H
      show wq_188 d Q 37 [_, _, oI l2, oI l3, oI l4, oI l5, oI l6] [] (sh_E h)
      refine ai_WP_steps mc_188 (sh_CM d) 3 (And.intro (fun c => ?_) (fun c => ?_))
      · replace H := sh_okT c H
        show wq_188 d Q 47 [_, _, oI l2, oI l3, oI l4, oI l5, oI l6] [] (sh_E h)
        refine ai_WP_steps mc_188 (sh_CM d) 4 (And.intro (Nat.le_of_ble_eq_true rfl) (x_CB_comesBack (Nat.le_trans (Nat.le_of_ble_eq_true rfl) hd) l5 l2 h (sh_okB H) (fun v1 H => ?_)))
        show wq_188 d Q 55 [_, _, oI l2, oI l3, oI l4, oI l5, oI l6] [aI v1, aI l5] (sh_E h)
        refine ai_WP_steps mc_188 (sh_CM d) 3 (And.intro (Nat.le_of_ble_eq_true rfl) (x_CB_stillOut (Nat.le_trans (Nat.le_of_ble_eq_true rfl) hd) (l5 - v1) l3 h (sh_okB H) (fun v2 H => ?_)))
        show wq_188 d Q 60 [_, _, oI l2, oI l3, oI l4, oI l5, oI l6] [aI v2] (sh_E h)
        refine ai_WP_steps mc_188 (sh_CM d) 3 ?_
        exact hk29 l2 l3 l4 v2 (l6 + (1 : Int32)) H
      · replace H := sh_okF c H
        show wq_188 d Q 44 [_, _, oI l2, oI l3, oI l4, oI l5, oI l6] [] (sh_E h)
        exact ai_WP_steps mc_188 (sh_CM d) 2 (hR l6 H)
def f_CB_trickled (N : Nat)  (l1 : Int32) (l2 : Int32) (l3 : Int32) (l4 : Int32) (h : sh_H) : Option Int32 := (Option.bind (f_CB_isTrickle l1 l2 l3 h) (fun v3 => (if v3 = 0 then (some (-1 : Int32)) else (Option.bind (f_CB_within l4 (0 : Int32) (9999 : Int32) h) (fun v4 => (if v4 = 0 then (some (-1 : Int32)) else f_CB_trickled_l29 N N l2 l3 l4 l1 (0 : Int32) h))))))
theorem x_CB_trickled (N : Nat) {d : Nat} (hd : 3 ≤ d) (l1 : Int32) (l2 : Int32) (l3 : Int32) (l4 : Int32) (h : sh_H) {Q : ai_Q} {R : Int32 → Prop} (H : sh_ok (f_CB_trickled N l1 l2 l3 l4 h) R) (hR : ∀ r, R r → Q (some (aI r)) (sh_E h)) : ai_Ex sh_T d 188 [aR 11 0, aI l1, aI l2, aI l3, aI l4] (sh_E h) Q := by
  obtain ⟨d, rfl⟩ : ∃ e, d = e + 1 := ⟨d - 1, by omega⟩
  replace hd : 2 ≤ d := by omega
  refine And.intro (Nat.le_of_ble_eq_true rfl) ?_
  show wq_188 d Q 0 [oR 11 0, oI l1, oI l2, oI l3, oI l4, none, none] [] (sh_E h)
  refine ai_WP_steps mc_188 (sh_CM d) 4 (And.intro (Nat.le_of_ble_eq_true rfl) (x_CB_isTrickle (Nat.le_trans (Nat.le_of_ble_eq_true rfl) hd) l1 l2 l3 h (sh_okB H) (fun v3 H => ?_)))
  show wq_188 d Q 6 [oR 11 0, oI l1, oI l2, oI l3, oI l4, _, _] [aI v3] (sh_E h)
  refine ai_WP_steps mc_188 (sh_CM d) 1 (And.intro (fun c => ?_) (fun c => ?_))
  · replace H := sh_okT c H
    show wq_188 d Q 21 [oR 11 0, oI l1, oI l2, oI l3, oI l4, _, _] [] (sh_E h)
    exact ai_WP_steps mc_188 (sh_CM d) 2 (hR (-1 : Int32) H)
  · replace H := sh_okF c H
    show wq_188 d Q 9 [oR 11 0, oI l1, oI l2, oI l3, oI l4, _, _] [] (sh_E h)
    refine ai_WP_steps mc_188 (sh_CM d) 4 (And.intro (Nat.le_of_ble_eq_true rfl) (x_CB_within (Nat.le_trans (Nat.le_of_ble_eq_true rfl) hd) l4 (0 : Int32) (9999 : Int32) h (sh_okB H) (fun v4 H => ?_)))
    show wq_188 d Q 18 [oR 11 0, oI l1, oI l2, oI l3, oI l4, _, _] [aI v4] (sh_E h)
    refine ai_WP_steps mc_188 (sh_CM d) 1 (And.intro (fun c => ?_) (fun c => ?_))
    · replace H := sh_okT c H
      show wq_188 d Q 21 [oR 11 0, oI l1, oI l2, oI l3, oI l4, _, _] [] (sh_E h)
      exact ai_WP_steps mc_188 (sh_CM d) 2 (hR (-1 : Int32) H)
    · replace H := sh_okF c H
      show wq_188 d Q 23 [oR 11 0, oI l1, oI l2, oI l3, oI l4, _, _] [] (sh_E h)
      refine ai_WP_steps mc_188 (sh_CM d) 4 ?_
      exact x_CB_trickled_l29 N hd h hR N l2 l3 l4 l1 (0 : Int32) H
def f_CB_burnAt_b102 (N : Nat)  (k57 : Int32 → Int32 → Int32 → Int32 → Int32 → Int32 → sh_H → Option Int32) (l2 : Int32) (l3 : Int32) (l4 : Int32) (l5 : Int32) (l6 : Int32) (l7 : Int32) (h : sh_H) : Option Int32 := k57 l2 l3 l4 l5 l6 (l7 + (1 : Int32)) h
theorem x_CB_burnAt_b102 (N : Nat) {d : Nat} (hd : 2 ≤ d) (h : sh_H) {Q : ai_Q} {R : Int32 → Prop} (hR : ∀ r, R r → Q (some (aI r)) (sh_E h))  (k57 : Int32 → Int32 → Int32 → Int32 → Int32 → Int32 → sh_H → Option Int32) (hk57 : ∀ (l2 : Int32) (l3 : Int32) (l4 : Int32) (l5 : Int32) (l6 : Int32) (l7 : Int32) {d0 d1 : Option ai_V}, sh_ok (k57 l2 l3 l4 l5 l6 l7 h) R → wq_191 d Q 57 [d0, d1, oI l2, oI l3, oI l4, oI l5, oI l6, oI l7] [] (sh_E h)) (l2 : Int32) (l3 : Int32) (l4 : Int32) (l5 : Int32) (l6 : Int32) (l7 : Int32) {d0 d1 : Option ai_V} (H : sh_ok (f_CB_burnAt_b102 N k57 l2 l3 l4 l5 l6 l7 h) R) : wq_191 d Q 102 [d0, d1, oI l2, oI l3, oI l4, oI l5, oI l6, oI l7] [] (sh_E h) := by
  refine ai_WP_steps mc_191 (sh_CM d) 2 ?_
  exact hk57 l2 l3 l4 l5 l6 (l7 + (1 : Int32)) H
def f_CB_burnAt_c57 (N : Nat)   (k57 : Int32 → Int32 → Int32 → Int32 → Int32 → Int32 → sh_H → Option Int32) (l2 : Int32) (l3 : Int32) (l4 : Int32) (l5 : Int32) (l6 : Int32) (l7 : Int32) (h : sh_H) : Option Int32 := (if (4 : Int32) < l7 then (some l5) else (if ((l4 + (((l3 * (l7 - (1 : Int32))) * (l7 - (1 : Int32))) * l2)) * l5) < (l6 * l7) then f_CB_burnAt_b102 N k57 l2 l3 (l4 + (((l3 * (l7 - (1 : Int32))) * (l7 - (1 : Int32))) * l2)) l7 (l4 + (((l3 * (l7 - (1 : Int32))) * (l7 - (1 : Int32))) * l2)) l7 h else f_CB_burnAt_b102 N k57 l2 l3 (l4 + (((l3 * (l7 - (1 : Int32))) * (l7 - (1 : Int32))) * l2)) l5 l6 l7 h))
def f_CB_burnAt_l57 (N : Nat)   (n : Nat) : Int32 → Int32 → Int32 → Int32 → Int32 → Int32 → sh_H → Option Int32 := Nat.rec (motive := fun _ => Int32 → Int32 → Int32 → Int32 → Int32 → Int32 → sh_H → Option Int32) (fun _ _ _ _ _ _ _ => none) (fun _ k57 => f_CB_burnAt_c57 N k57) n
theorem x_CB_burnAt_l57 (N : Nat) {d : Nat} (hd : 2 ≤ d) (h : sh_H) {Q : ai_Q} {R : Int32 → Prop} (hR : ∀ r, R r → Q (some (aI r)) (sh_E h))   (n : Nat) : ∀ (l2 : Int32) (l3 : Int32) (l4 : Int32) (l5 : Int32) (l6 : Int32) (l7 : Int32) {d0 d1 : Option ai_V}, sh_ok (f_CB_burnAt_l57 N n l2 l3 l4 l5 l6 l7 h) R → wq_191 d Q 57 [d0, d1, oI l2, oI l3, oI l4, oI l5, oI l6, oI l7] [] (sh_E h) := by
  induction n with
  | zero => intro l2 l3 l4 l5 l6 l7 d0 d1 H; exact H.elim
  | succ n ih =>
    intro l2 l3 l4 l5 l6 l7 d0 d1 H
    have hk57 := @ih
    replace H : sh_ok (f_CB_burnAt_c57 N (f_CB_burnAt_l57 N n) l2 l3 l4 l5 l6 l7 h) R := H
    revert hk57 H
    generalize f_CB_burnAt_l57 N n = k57
    intro hk57 H
    refine ai_WP_steps mc_191 (sh_CM d) 3 (And.intro (fun c => ?_) (fun c => ?_))
    · replace H := sh_okT c H
      show wq_191 d Q 108 [_, _, oI l2, oI l3, oI l4, oI l5, oI l6, oI l7] [] (sh_E h)
      exact ai_WP_steps mc_191 (sh_CM d) 2 (hR l5 H)
    · replace H := sh_okF c H
      show wq_191 d Q 63 [_, _, oI l2, oI l3, oI l4, oI l5, oI l6, oI l7] [] (sh_E h)
      refine ai_WP_steps mc_191 (sh_CM d) 21 (And.intro (fun c => ?_) (fun c => ?_))
      · replace H := sh_okT c H
        show wq_191 d Q 94 [_, _, oI l2, oI l3, oI (l4 + (((l3 * (l7 - (1 : Int32))) * (l7 - (1 : Int32))) * l2)), oI l5, oI l6, oI l7] [] (sh_E h)
        refine ai_WP_steps mc_191 (sh_CM d) 4 ?_
        exact x_CB_burnAt_b102 N hd h hR k57 hk57 l2 l3 (l4 + (((l3 * (l7 - (1 : Int32))) * (l7 - (1 : Int32))) * l2)) l7 (l4 + (((l3 * (l7 - (1 : Int32))) * (l7 - (1 : Int32))) * l2)) l7 H
      · replace H := sh_okF c H
        exact x_CB_burnAt_b102 N hd h hR k57 hk57 l2 l3 (l4 + (((l3 * (l7 - (1 : Int32))) * (l7 - (1 : Int32))) * l2)) l5 l6 l7 H
def f_CB_burnAt (N : Nat)  (l1 : Int32) (l2 : Int32) (l3 : Int32) (h : sh_H) : Option Int32 := (Option.bind (f_Text_isKind h.2.2.1 l1 h) (fun v1 => (if v1 = 0 then (some (-1 : Int32)) else (Option.bind (f_CB_within l2 (0 : Int32) (99 : Int32) h) (fun v2 => (if v2 = 0 then (some (-1 : Int32)) else (Option.bind (f_CB_within l3 (1 : Int32) (12 : Int32) h) (fun v3 => (if v3 = 0 then (some (-1 : Int32)) else (Option.bind (f_Rows_get (7 * h.2.2.1 + 0) l1 (2 : Int32) h) (fun v4 => f_CB_burnAt_l57 N N l2 l3 v4 (1 : Int32) v4 (2 : Int32) h)))))))))))
theorem x_CB_burnAt (N : Nat) {d : Nat} (hd : 3 ≤ d) (l1 : Int32) (l2 : Int32) (l3 : Int32) (h : sh_H) {Q : ai_Q} {R : Int32 → Prop} (H : sh_ok (f_CB_burnAt N l1 l2 l3 h) R) (hR : ∀ r, R r → Q (some (aI r)) (sh_E h)) : ai_Ex sh_T d 191 [aR 11 0, aI l1, aI l2, aI l3] (sh_E h) Q := by
  obtain ⟨d, rfl⟩ : ∃ e, d = e + 1 := ⟨d - 1, by omega⟩
  replace hd : 2 ≤ d := by omega
  refine And.intro (Nat.le_of_ble_eq_true rfl) ?_
  show wq_191 d Q 0 [oR 11 0, oI l1, oI l2, oI l3, none, none, none, none] [] (sh_E h)
  refine ai_WP_steps mc_191 (sh_CM d) 4 (And.intro (Nat.le_of_ble_eq_true rfl) (x_Text_isKind (Nat.le_trans (Nat.le_of_ble_eq_true rfl) hd) h.2.2.1 l1 h (sh_okB H) (fun v1 H => ?_)))
  show wq_191 d Q 8 [oR 11 0, oI l1, oI l2, oI l3, _, _, _, _] [aI v1] (sh_E h)
  refine ai_WP_steps mc_191 (sh_CM d) 1 (And.intro (fun c => ?_) (fun c => ?_))
  · replace H := sh_okT c H
    show wq_191 d Q 31 [oR 11 0, oI l1, oI l2, oI l3, _, _, _, _] [] (sh_E h)
    exact ai_WP_steps mc_191 (sh_CM d) 2 (hR (-1 : Int32) H)
  · replace H := sh_okF c H
    show wq_191 d Q 11 [oR 11 0, oI l1, oI l2, oI l3, _, _, _, _] [] (sh_E h)
    refine ai_WP_steps mc_191 (sh_CM d) 4 (And.intro (Nat.le_of_ble_eq_true rfl) (x_CB_within (Nat.le_trans (Nat.le_of_ble_eq_true rfl) hd) l2 (0 : Int32) (99 : Int32) h (sh_okB H) (fun v2 H => ?_)))
    show wq_191 d Q 18 [oR 11 0, oI l1, oI l2, oI l3, _, _, _, _] [aI v2] (sh_E h)
    refine ai_WP_steps mc_191 (sh_CM d) 1 (And.intro (fun c => ?_) (fun c => ?_))
    · replace H := sh_okT c H
      show wq_191 d Q 31 [oR 11 0, oI l1, oI l2, oI l3, _, _, _, _] [] (sh_E h)
      exact ai_WP_steps mc_191 (sh_CM d) 2 (hR (-1 : Int32) H)
    · replace H := sh_okF c H
      show wq_191 d Q 21 [oR 11 0, oI l1, oI l2, oI l3, _, _, _, _] [] (sh_E h)
      refine ai_WP_steps mc_191 (sh_CM d) 4 (And.intro (Nat.le_of_ble_eq_true rfl) (x_CB_within (Nat.le_trans (Nat.le_of_ble_eq_true rfl) hd) l3 (1 : Int32) (12 : Int32) h (sh_okB H) (fun v3 H => ?_)))
      show wq_191 d Q 28 [oR 11 0, oI l1, oI l2, oI l3, _, _, _, _] [aI v3] (sh_E h)
      refine ai_WP_steps mc_191 (sh_CM d) 1 (And.intro (fun c => ?_) (fun c => ?_))
      · replace H := sh_okT c H
        show wq_191 d Q 31 [oR 11 0, oI l1, oI l2, oI l3, _, _, _, _] [] (sh_E h)
        exact ai_WP_steps mc_191 (sh_CM d) 2 (hR (-1 : Int32) H)
      · replace H := sh_okF c H
        show wq_191 d Q 33 [oR 11 0, oI l1, oI l2, oI l3, _, _, _, _] [] (sh_E h)
        refine ai_WP_steps mc_191 (sh_CM d) 6 (And.intro (Nat.le_of_ble_eq_true rfl) (x_Rows_get (Nat.le_trans (Nat.le_of_ble_eq_true rfl) hd) (7 * h.2.2.1 + 0) l1 (2 : Int32) h (sh_okB H) (fun v4 H => ?_)))
        show wq_191 d Q 45 [oR 11 0, oI l1, oI l2, oI l3, _, _, _, _] [aI v4] (sh_E h)
        refine ai_WP_steps mc_191 (sh_CM d) 7 ?_
        exact x_CB_burnAt_l57 N hd h hR N l2 l3 v4 (1 : Int32) v4 (2 : Int32) H
def f_CB_sort  (l1 : Int32) (l2 : Int32) (l3 : Int32) (l4 : Int32) (l5 : Int32) (l6 : Int32) (l7 : Int32) (h : sh_H) : Option Int32 := (Option.bind (f_CB_within l1 (0 : Int32) (9999 : Int32) h) (fun v1 => (if v1 = 0 then (some (-1 : Int32)) else (Option.bind (f_CB_within l6 (0 : Int32) (9999 : Int32) h) (fun v2 => (if v2 = 0 then (some (-1 : Int32)) else (Option.bind (f_CB_within l7 (0 : Int32) (9999 : Int32) h) (fun v3 => (if v3 = 0 then (some (-1 : Int32)) else (Option.bind (f_CB_within l2 (0 : Int32) (9999 : Int32) h) (fun v4 => (if v4 = 0 then (some (-1 : Int32)) else (Option.bind (f_CB_within l4 (0 : Int32) (9999 : Int32) h) (fun v5 => (if v5 = 0 then (some (-1 : Int32)) else (Option.bind (f_CB_within l3 (0 : Int32) (100 : Int32) h) (fun v6 => (if v6 = 0 then (some (-1 : Int32)) else (Option.bind (f_CB_within l5 (0 : Int32) (100 : Int32) h) (fun v7 => (if v7 = 0 then (some (-1 : Int32)) else (if (lg_cmp ((l1.toInt64 * (((100 : Int32) * l4) + (l5 * l6)).toInt64) + ((100 : Int32) * l7).toInt64) (l1.toInt64 * (((100 : Int32) * l2) + (l3 * l6)).toInt64)) < 0 then (some (1 : Int32)) else (some (0 : Int32))))))))))))))))))))))))
theorem x_CB_sort {d : Nat} (hd : 2 ≤ d) (l1 : Int32) (l2 : Int32) (l3 : Int32) (l4 : Int32) (l5 : Int32) (l6 : Int32) (l7 : Int32) (h : sh_H) {Q : ai_Q} {R : Int32 → Prop} (H : sh_ok (f_CB_sort l1 l2 l3 l4 l5 l6 l7 h) R) (hR : ∀ r, R r → Q (some (aI r)) (sh_E h)) : ai_Ex sh_T d 192 [aR 11 0, aI l1, aI l2, aI l3, aI l4, aI l5, aI l6, aI l7] (sh_E h) Q := by
  obtain ⟨d, rfl⟩ : ∃ e, d = e + 1 := ⟨d - 1, by omega⟩
  replace hd : 1 ≤ d := by omega
  refine And.intro (Nat.le_of_ble_eq_true rfl) ?_
  show wq_192 d Q 0 [oR 11 0, oI l1, oI l2, oI l3, oI l4, oI l5, oI l6, oI l7, none, none, none, none] [] (sh_E h)
  refine ai_WP_steps mc_192 (sh_CM d) 4 (And.intro (Nat.le_of_ble_eq_true rfl) (x_CB_within (Nat.le_trans (Nat.le_of_ble_eq_true rfl) hd) l1 (0 : Int32) (9999 : Int32) h (sh_okB H) (fun v1 H => ?_)))
  show wq_192 d Q 8 [oR 11 0, oI l1, oI l2, oI l3, oI l4, oI l5, oI l6, oI l7, _, _, _, _] [aI v1] (sh_E h)
  refine ai_WP_steps mc_192 (sh_CM d) 1 (And.intro (fun c => ?_) (fun c => ?_))
  · replace H := sh_okT c H
    show wq_192 d Q 79 [oR 11 0, oI l1, oI l2, oI l3, oI l4, oI l5, oI l6, oI l7, _, _, _, _] [] (sh_E h)
    exact ai_WP_steps mc_192 (sh_CM d) 2 (hR (-1 : Int32) H)
  · replace H := sh_okF c H
    show wq_192 d Q 11 [oR 11 0, oI l1, oI l2, oI l3, oI l4, oI l5, oI l6, oI l7, _, _, _, _] [] (sh_E h)
    refine ai_WP_steps mc_192 (sh_CM d) 4 (And.intro (Nat.le_of_ble_eq_true rfl) (x_CB_within (Nat.le_trans (Nat.le_of_ble_eq_true rfl) hd) l6 (0 : Int32) (9999 : Int32) h (sh_okB H) (fun v2 H => ?_)))
    show wq_192 d Q 20 [oR 11 0, oI l1, oI l2, oI l3, oI l4, oI l5, oI l6, oI l7, _, _, _, _] [aI v2] (sh_E h)
    refine ai_WP_steps mc_192 (sh_CM d) 1 (And.intro (fun c => ?_) (fun c => ?_))
    · replace H := sh_okT c H
      show wq_192 d Q 79 [oR 11 0, oI l1, oI l2, oI l3, oI l4, oI l5, oI l6, oI l7, _, _, _, _] [] (sh_E h)
      exact ai_WP_steps mc_192 (sh_CM d) 2 (hR (-1 : Int32) H)
    · replace H := sh_okF c H
      show wq_192 d Q 23 [oR 11 0, oI l1, oI l2, oI l3, oI l4, oI l5, oI l6, oI l7, _, _, _, _] [] (sh_E h)
      refine ai_WP_steps mc_192 (sh_CM d) 4 (And.intro (Nat.le_of_ble_eq_true rfl) (x_CB_within (Nat.le_trans (Nat.le_of_ble_eq_true rfl) hd) l7 (0 : Int32) (9999 : Int32) h (sh_okB H) (fun v3 H => ?_)))
      show wq_192 d Q 32 [oR 11 0, oI l1, oI l2, oI l3, oI l4, oI l5, oI l6, oI l7, _, _, _, _] [aI v3] (sh_E h)
      refine ai_WP_steps mc_192 (sh_CM d) 1 (And.intro (fun c => ?_) (fun c => ?_))
      · replace H := sh_okT c H
        show wq_192 d Q 79 [oR 11 0, oI l1, oI l2, oI l3, oI l4, oI l5, oI l6, oI l7, _, _, _, _] [] (sh_E h)
        exact ai_WP_steps mc_192 (sh_CM d) 2 (hR (-1 : Int32) H)
      · replace H := sh_okF c H
        show wq_192 d Q 35 [oR 11 0, oI l1, oI l2, oI l3, oI l4, oI l5, oI l6, oI l7, _, _, _, _] [] (sh_E h)
        refine ai_WP_steps mc_192 (sh_CM d) 4 (And.intro (Nat.le_of_ble_eq_true rfl) (x_CB_within (Nat.le_trans (Nat.le_of_ble_eq_true rfl) hd) l2 (0 : Int32) (9999 : Int32) h (sh_okB H) (fun v4 H => ?_)))
        show wq_192 d Q 43 [oR 11 0, oI l1, oI l2, oI l3, oI l4, oI l5, oI l6, oI l7, _, _, _, _] [aI v4] (sh_E h)
        refine ai_WP_steps mc_192 (sh_CM d) 1 (And.intro (fun c => ?_) (fun c => ?_))
        · replace H := sh_okT c H
          show wq_192 d Q 79 [oR 11 0, oI l1, oI l2, oI l3, oI l4, oI l5, oI l6, oI l7, _, _, _, _] [] (sh_E h)
          exact ai_WP_steps mc_192 (sh_CM d) 2 (hR (-1 : Int32) H)
        · replace H := sh_okF c H
          show wq_192 d Q 46 [oR 11 0, oI l1, oI l2, oI l3, oI l4, oI l5, oI l6, oI l7, _, _, _, _] [] (sh_E h)
          refine ai_WP_steps mc_192 (sh_CM d) 4 (And.intro (Nat.le_of_ble_eq_true rfl) (x_CB_within (Nat.le_trans (Nat.le_of_ble_eq_true rfl) hd) l4 (0 : Int32) (9999 : Int32) h (sh_okB H) (fun v5 H => ?_)))
          show wq_192 d Q 55 [oR 11 0, oI l1, oI l2, oI l3, oI l4, oI l5, oI l6, oI l7, _, _, _, _] [aI v5] (sh_E h)
          refine ai_WP_steps mc_192 (sh_CM d) 1 (And.intro (fun c => ?_) (fun c => ?_))
          · replace H := sh_okT c H
            show wq_192 d Q 79 [oR 11 0, oI l1, oI l2, oI l3, oI l4, oI l5, oI l6, oI l7, _, _, _, _] [] (sh_E h)
            exact ai_WP_steps mc_192 (sh_CM d) 2 (hR (-1 : Int32) H)
          · replace H := sh_okF c H
            show wq_192 d Q 58 [oR 11 0, oI l1, oI l2, oI l3, oI l4, oI l5, oI l6, oI l7, _, _, _, _] [] (sh_E h)
            refine ai_WP_steps mc_192 (sh_CM d) 4 (And.intro (Nat.le_of_ble_eq_true rfl) (x_CB_within (Nat.le_trans (Nat.le_of_ble_eq_true rfl) hd) l3 (0 : Int32) (100 : Int32) h (sh_okB H) (fun v6 H => ?_)))
            show wq_192 d Q 65 [oR 11 0, oI l1, oI l2, oI l3, oI l4, oI l5, oI l6, oI l7, _, _, _, _] [aI v6] (sh_E h)
            refine ai_WP_steps mc_192 (sh_CM d) 1 (And.intro (fun c => ?_) (fun c => ?_))
            · replace H := sh_okT c H
              show wq_192 d Q 79 [oR 11 0, oI l1, oI l2, oI l3, oI l4, oI l5, oI l6, oI l7, _, _, _, _] [] (sh_E h)
              exact ai_WP_steps mc_192 (sh_CM d) 2 (hR (-1 : Int32) H)
            · replace H := sh_okF c H
              show wq_192 d Q 68 [oR 11 0, oI l1, oI l2, oI l3, oI l4, oI l5, oI l6, oI l7, _, _, _, _] [] (sh_E h)
              refine ai_WP_steps mc_192 (sh_CM d) 4 (And.intro (Nat.le_of_ble_eq_true rfl) (x_CB_within (Nat.le_trans (Nat.le_of_ble_eq_true rfl) hd) l5 (0 : Int32) (100 : Int32) h (sh_okB H) (fun v7 H => ?_)))
              show wq_192 d Q 76 [oR 11 0, oI l1, oI l2, oI l3, oI l4, oI l5, oI l6, oI l7, _, _, _, _] [aI v7] (sh_E h)
              refine ai_WP_steps mc_192 (sh_CM d) 1 (And.intro (fun c => ?_) (fun c => ?_))
              · replace H := sh_okT c H
                show wq_192 d Q 79 [oR 11 0, oI l1, oI l2, oI l3, oI l4, oI l5, oI l6, oI l7, _, _, _, _] [] (sh_E h)
                exact ai_WP_steps mc_192 (sh_CM d) 2 (hR (-1 : Int32) H)
              · replace H := sh_okF c H
                show wq_192 d Q 81 [oR 11 0, oI l1, oI l2, oI l3, oI l4, oI l5, oI l6, oI l7, _, _, _, _] [] (sh_E h)
                refine ai_WP_steps mc_192 (sh_CM d) 33 (And.intro (fun c => ?_) (fun c => ?_))
                · replace H := sh_okT c H
                  show wq_192 d Q 128 [oR 11 0, oI l1, oI l2, oI l3, oI l4, oI l5, oI l6, oI l7, oL (l1.toInt64 * (((100 : Int32) * l2) + (l3 * l6)).toInt64), _, oL ((l1.toInt64 * (((100 : Int32) * l4) + (l5 * l6)).toInt64) + ((100 : Int32) * l7).toInt64), _] [] (sh_E h)
                  exact ai_WP_steps mc_192 (sh_CM d) 3 (hR (1 : Int32) H)
                · replace H := sh_okF c H
                  show wq_192 d Q 132 [oR 11 0, oI l1, oI l2, oI l3, oI l4, oI l5, oI l6, oI l7, oL (l1.toInt64 * (((100 : Int32) * l2) + (l3 * l6)).toInt64), _, oL ((l1.toInt64 * (((100 : Int32) * l4) + (l5 * l6)).toInt64) + ((100 : Int32) * l7).toInt64), _] [] (sh_E h)
                  exact ai_WP_steps mc_192 (sh_CM d) 2 (hR (0 : Int32) H)
def f_CB_hold_b26 (N : Nat)   (s0 : Nat) (h : sh_H) : Option (Int32 × sh_H) := (Option.bind (f_State_copy N s0 0 h) (fun h1 => (sh_let (sh_pI h1 7 s0 8 (1 : Int32)) (fun h2 => (some ((ai_nar 1 (1 : Int32)), h2))))))
theorem x_CB_hold_b26 (N : Nat) {d : Nat} (hd : 4 ≤ d) {Q : ai_Q} {R : Int32 × sh_H → Prop} (hR : ∀ r h, R (r, h) → Q (some (aI r)) (sh_E h))   (s0 : Nat) {d1 d2 : Option ai_V} (h : sh_H) (H : sh_ok (f_CB_hold_b26 N s0 h) R) : wq_193 d Q 26 [oR 11 0, d1, d2] [aR 7 s0] (sh_E h) := by
  refine ai_WP_steps mc_193 (sh_CM d) 5 (And.intro (Nat.le_of_ble_eq_true rfl) (x_State_copy N (Nat.le_trans (Nat.le_of_ble_eq_true rfl) hd) s0 0 h (sh_okB H) (fun h1 H => ?_)))
  show wq_193 d Q 35 [oR 11 0, _, oR 7 s0] [] (sh_E h1)
  refine ai_WP_steps mc_193 (sh_CM d) 3 (And.intro (Or.inr rfl) ?_)
  show wq_193 d Q 40 [oR 11 0, _, oR 7 s0] [] (sh_E (sh_pI h1 7 s0 8 (1 : Int32)))
  replace H := sh_okL H
  generalize sh_pI h1 7 s0 8 (1 : Int32) = h2 at H ⊢
  exact ai_WP_steps mc_193 (sh_CM d) 2 (hR (ai_nar 1 (1 : Int32)) h2 H)
def f_CB_hold (N : Nat)  (l1 : Int32) (h : sh_H) : Option (Int32 × sh_H) := (Option.bind (f_CB_within l1 (0 : Int32) (1 : Int32) h) (fun v3 => (if v3 = 0 then (some ((ai_nar 1 (0 : Int32)), h)) else (if l1 = 0 then f_CB_hold_b26 N 1 h else f_CB_hold_b26 N 2 h))))
theorem x_CB_hold (N : Nat) {d : Nat} (hd : 5 ≤ d) (l1 : Int32) (h : sh_H) {Q : ai_Q} {R : Int32 × sh_H → Prop} (H : sh_ok (f_CB_hold N l1 h) R) (hR : ∀ r h, R (r, h) → Q (some (aI r)) (sh_E h)) : ai_Ex sh_T d 193 [aR 11 0, aI l1] (sh_E h) Q := by
  obtain ⟨d, rfl⟩ : ∃ e, d = e + 1 := ⟨d - 1, by omega⟩
  replace hd : 4 ≤ d := by omega
  refine And.intro (Nat.le_of_ble_eq_true rfl) ?_
  show wq_193 d Q 0 [oR 11 0, oI l1, none] [] (sh_E h)
  refine ai_WP_steps mc_193 (sh_CM d) 4 (And.intro (Nat.le_of_ble_eq_true rfl) (x_CB_within (Nat.le_trans (Nat.le_of_ble_eq_true rfl) hd) l1 (0 : Int32) (1 : Int32) h (sh_okB H) (fun v3 H => ?_)))
  show wq_193 d Q 6 [oR 11 0, oI l1, _] [aI v3] (sh_E h)
  refine ai_WP_steps mc_193 (sh_CM d) 1 (And.intro (fun c => ?_) (fun c => ?_))
  · replace H := sh_okT c H
    show wq_193 d Q 9 [oR 11 0, oI l1, _] [] (sh_E h)
    exact ai_WP_steps mc_193 (sh_CM d) 2 (hR (ai_nar 1 (0 : Int32)) h H)
  · replace H := sh_okF c H
    show wq_193 d Q 11 [oR 11 0, oI l1, _] [] (sh_E h)
    refine ai_WP_steps mc_193 (sh_CM d) 2 (And.intro (fun c => ?_) (fun c => ?_))
    · replace H := sh_okT c H
      show wq_193 d Q 15 [oR 11 0, oI l1, _] [] (sh_E h)
      refine ai_WP_steps mc_193 (sh_CM d) 3 ?_
      exact x_CB_hold_b26 N hd hR 1 h H
    · replace H := sh_okF c H
      show wq_193 d Q 22 [oR 11 0, oI l1, _] [] (sh_E h)
      refine ai_WP_steps mc_193 (sh_CM d) 2 ?_
      exact x_CB_hold_b26 N hd hR 2 h H
def f_CB_restore_b15 (N : Nat)   (l1 : Int32) (s0 : Nat) (h : sh_H) : Option (Int32 × sh_H) := (Option.bind (f_CB_within l1 (0 : Int32) (1 : Int32) h) (fun v1 => (if v1 = 0 then (some ((ai_nar 1 (0 : Int32)), h)) else (if (h.1 7 s0 8) = 0 then (some ((ai_nar 1 (0 : Int32)), h)) else (Option.bind (f_State_copy N 0 s0 h) (fun h2 => (some ((ai_nar 1 (1 : Int32)), h2))))))))
theorem x_CB_restore_b15 (N : Nat) {d : Nat} (hd : 4 ≤ d) {Q : ai_Q} {R : Int32 × sh_H → Prop} (hR : ∀ r h, R (r, h) → Q (some (aI r)) (sh_E h))   (l1 : Int32) (s0 : Nat) {d2 : Option ai_V} (h : sh_H) (H : sh_ok (f_CB_restore_b15 N l1 s0 h) R) : wq_194 d Q 15 [oR 11 0, oI l1, d2] [aR 7 s0] (sh_E h) := by
  refine ai_WP_steps mc_194 (sh_CM d) 5 (And.intro (Nat.le_of_ble_eq_true rfl) (x_CB_within (Nat.le_trans (Nat.le_of_ble_eq_true rfl) hd) l1 (0 : Int32) (1 : Int32) h (sh_okB H) (fun v1 H => ?_)))
  show wq_194 d Q 22 [oR 11 0, oI l1, oR 7 s0] [aI v1] (sh_E h)
  refine ai_WP_steps mc_194 (sh_CM d) 1 (And.intro (fun c => ?_) (fun c => ?_))
  · replace H := sh_okT c H
    show wq_194 d Q 32 [oR 11 0, oI l1, oR 7 s0] [] (sh_E h)
    exact ai_WP_steps mc_194 (sh_CM d) 2 (hR (ai_nar 1 (0 : Int32)) h H)
  · replace H := sh_okF c H
    show wq_194 d Q 25 [oR 11 0, oI l1, oR 7 s0] [] (sh_E h)
    refine ai_WP_steps mc_194 (sh_CM d) 3 (And.intro (fun c => ?_) (fun c => ?_))
    · replace H := sh_okT c H
      show wq_194 d Q 32 [oR 11 0, oI l1, oR 7 s0] [] (sh_E h)
      exact ai_WP_steps mc_194 (sh_CM d) 2 (hR (ai_nar 1 (0 : Int32)) h H)
    · replace H := sh_okF c H
      show wq_194 d Q 34 [oR 11 0, oI l1, oR 7 s0] [] (sh_E h)
      refine ai_WP_steps mc_194 (sh_CM d) 4 (And.intro (Nat.le_of_ble_eq_true rfl) (x_State_copy N (Nat.le_trans (Nat.le_of_ble_eq_true rfl) hd) 0 s0 h (sh_okB H) (fun h2 H => ?_)))
      show wq_194 d Q 42 [oR 11 0, oI l1, oR 7 s0] [] (sh_E h2)
      exact ai_WP_steps mc_194 (sh_CM d) 2 (hR (ai_nar 1 (1 : Int32)) h2 H)
def f_CB_restore (N : Nat)  (l1 : Int32) (h : sh_H) : Option (Int32 × sh_H) := (if l1 = 0 then f_CB_restore_b15 N l1 1 h else f_CB_restore_b15 N l1 2 h)
theorem x_CB_restore (N : Nat) {d : Nat} (hd : 5 ≤ d) (l1 : Int32) (h : sh_H) {Q : ai_Q} {R : Int32 × sh_H → Prop} (H : sh_ok (f_CB_restore N l1 h) R) (hR : ∀ r h, R (r, h) → Q (some (aI r)) (sh_E h)) : ai_Ex sh_T d 194 [aR 11 0, aI l1] (sh_E h) Q := by
  obtain ⟨d, rfl⟩ : ∃ e, d = e + 1 := ⟨d - 1, by omega⟩
  replace hd : 4 ≤ d := by omega
  refine And.intro (Nat.le_of_ble_eq_true rfl) ?_
  show wq_194 d Q 0 [oR 11 0, oI l1, none] [] (sh_E h)
  refine ai_WP_steps mc_194 (sh_CM d) 2 (And.intro (fun c => ?_) (fun c => ?_))
  · replace H := sh_okT c H
    show wq_194 d Q 4 [oR 11 0, oI l1, _] [] (sh_E h)
    refine ai_WP_steps mc_194 (sh_CM d) 3 ?_
    exact x_CB_restore_b15 N hd hR l1 1 h H
  · replace H := sh_okF c H
    show wq_194 d Q 11 [oR 11 0, oI l1, _] [] (sh_E h)
    refine ai_WP_steps mc_194 (sh_CM d) 2 ?_
    exact x_CB_restore_b15 N hd hR l1 2 h H
def f_CB_count_b184   (s0 : Int32) (s1 : Int32) (h : sh_H) : Option Int32 := (some (s0 + s1))
theorem x_CB_count_b184 {d : Nat} (hd : 1 ≤ d) (h : sh_H) {Q : ai_Q} {R : Int32 → Prop} (hR : ∀ r, R r → Q (some (aI r)) (sh_E h))   (s0 : Int32) (s1 : Int32) {d0 d1 : Option ai_V} (H : sh_ok (f_CB_count_b184 s0 s1 h) R) : wq_195 d Q 184 [d0, d1] [aI s1, aI s0] (sh_E h) := by
  exact ai_WP_steps mc_195 (sh_CM d) 2 (hR (s0 + s1) H)
def f_CB_count_b169   (s0 : Int32) (h : sh_H) : Option Int32 := (if (h.1 7 2 8) = 0 then f_CB_count_b184 s0 (0 : Int32) h else f_CB_count_b184 s0 (1 : Int32) h)
theorem x_CB_count_b169 {d : Nat} (hd : 1 ≤ d) (h : sh_H) {Q : ai_Q} {R : Int32 → Prop} (hR : ∀ r, R r → Q (some (aI r)) (sh_E h))   (s0 : Int32) {d1 : Option ai_V} (H : sh_ok (f_CB_count_b169 s0 h) R) : wq_195 d Q 169 [oR 11 0, d1] [aI s0] (sh_E h) := by
  refine ai_WP_steps mc_195 (sh_CM d) 4 (And.intro (fun c => ?_) (fun c => ?_))
  · replace H := sh_okT c H
    show wq_195 d Q 183 [oR 11 0, _] [aI s0] (sh_E h)
    refine ai_WP_steps mc_195 (sh_CM d) 1 ?_
    exact x_CB_count_b184 hd h hR s0 (0 : Int32) H
  · replace H := sh_okF c H
    show wq_195 d Q 179 [oR 11 0, _] [aI s0] (sh_E h)
    refine ai_WP_steps mc_195 (sh_CM d) 2 ?_
    exact x_CB_count_b184 hd h hR s0 (1 : Int32) H
def f_CB_count  (l1 : Int32) (h : sh_H) : Option Int32 := (if l1 = (0 : Int32) then (Option.bind (f_Rows_size (7 * h.2.2.1 + 0) h) (fun v1 => (some v1))) else (if l1 = (1 : Int32) then (Option.bind (f_Rows_size (7 * h.2.2.1 + 1) h) (fun v2 => (some v2))) else (if l1 = (2 : Int32) then (Option.bind (f_Rows_size (7 * h.2.2.1 + 2) h) (fun v3 => (some v3))) else (if l1 = (3 : Int32) then (Option.bind (f_Rows_size (7 * h.2.2.1 + 4) h) (fun v4 => (some v4))) else (if l1 = (4 : Int32) then (Option.bind (f_Rows_size (7 * h.2.2.1 + 6) h) (fun v5 => (some v5))) else (if l1 = (5 : Int32) then (Option.bind (f_Rows_size (4 * 0 + 15) h) (fun v6 => (some v6))) else (if l1 = (6 : Int32) then (Option.bind (f_Rows_size (4 * 0 + 16) h) (fun v7 => (some v7))) else (if l1 = (7 : Int32) then (some (h.1 7 0 4)) else (if l1 = (8 : Int32) then (some (h.1 11 0 1)) else (if l1 = (9 : Int32) then (if (h.1 7 1 8) = 0 then f_CB_count_b169 (0 : Int32) h else f_CB_count_b169 (1 : Int32) h) else (if l1 = (10 : Int32) then (Option.bind (f_Rows_size (7 * h.2.2.1 + 3) h) (fun v8 => (some v8))) else (if l1 = (11 : Int32) then (Option.bind (f_Rows_size (7 * h.2.2.1 + 5) h) (fun v9 => (some v9))) else (some (-1 : Int32))))))))))))))
theorem x_CB_count {d : Nat} (hd : 2 ≤ d) (l1 : Int32) (h : sh_H) {Q : ai_Q} {R : Int32 → Prop} (H : sh_ok (f_CB_count l1 h) R) (hR : ∀ r, R r → Q (some (aI r)) (sh_E h)) : ai_Ex sh_T d 195 [aR 11 0, aI l1] (sh_E h) Q := by
  obtain ⟨d, rfl⟩ : ∃ e, d = e + 1 := ⟨d - 1, by omega⟩
  replace hd : 1 ≤ d := by omega
  refine And.intro (Nat.le_of_ble_eq_true rfl) ?_
  show wq_195 d Q 0 [oR 11 0, oI l1] [] (sh_E h)
  refine ai_WP_steps mc_195 (sh_CM d) 2 (And.intro (fun c => ?_) (fun c => ?_))
  · replace H := sh_okT c H
    show wq_195 d Q 64 [oR 11 0, oI l1] [] (sh_E h)
    refine ai_WP_steps mc_195 (sh_CM d) 4 (And.intro (Nat.le_of_ble_eq_true rfl) (x_Rows_size (Nat.le_trans (Nat.le_of_ble_eq_true rfl) hd) (7 * h.2.2.1 + 0) h (sh_okB H) (fun v1 H => ?_)))
    show wq_195 d Q 74 [oR 11 0, oI l1] [aI v1] (sh_E h)
    exact ai_WP_steps mc_195 (sh_CM d) 1 (hR v1 H)
  replace H := sh_okF c H
  refine And.intro (fun c => ?_) (fun c => ?_)
  · replace H := sh_okT c H
    show wq_195 d Q 75 [oR 11 0, oI l1] [] (sh_E h)
    refine ai_WP_steps mc_195 (sh_CM d) 4 (And.intro (Nat.le_of_ble_eq_true rfl) (x_Rows_size (Nat.le_trans (Nat.le_of_ble_eq_true rfl) hd) (7 * h.2.2.1 + 1) h (sh_okB H) (fun v2 H => ?_)))
    show wq_195 d Q 85 [oR 11 0, oI l1] [aI v2] (sh_E h)
    exact ai_WP_steps mc_195 (sh_CM d) 1 (hR v2 H)
  replace H := sh_okF c H
  refine And.intro (fun c => ?_) (fun c => ?_)
  · replace H := sh_okT c H
    show wq_195 d Q 86 [oR 11 0, oI l1] [] (sh_E h)
    refine ai_WP_steps mc_195 (sh_CM d) 4 (And.intro (Nat.le_of_ble_eq_true rfl) (x_Rows_size (Nat.le_trans (Nat.le_of_ble_eq_true rfl) hd) (7 * h.2.2.1 + 2) h (sh_okB H) (fun v3 H => ?_)))
    show wq_195 d Q 96 [oR 11 0, oI l1] [aI v3] (sh_E h)
    exact ai_WP_steps mc_195 (sh_CM d) 1 (hR v3 H)
  replace H := sh_okF c H
  refine And.intro (fun c => ?_) (fun c => ?_)
  · replace H := sh_okT c H
    show wq_195 d Q 97 [oR 11 0, oI l1] [] (sh_E h)
    refine ai_WP_steps mc_195 (sh_CM d) 4 (And.intro (Nat.le_of_ble_eq_true rfl) (x_Rows_size (Nat.le_trans (Nat.le_of_ble_eq_true rfl) hd) (7 * h.2.2.1 + 4) h (sh_okB H) (fun v4 H => ?_)))
    show wq_195 d Q 107 [oR 11 0, oI l1] [aI v4] (sh_E h)
    exact ai_WP_steps mc_195 (sh_CM d) 1 (hR v4 H)
  replace H := sh_okF c H
  refine And.intro (fun c => ?_) (fun c => ?_)
  · replace H := sh_okT c H
    show wq_195 d Q 108 [oR 11 0, oI l1] [] (sh_E h)
    refine ai_WP_steps mc_195 (sh_CM d) 4 (And.intro (Nat.le_of_ble_eq_true rfl) (x_Rows_size (Nat.le_trans (Nat.le_of_ble_eq_true rfl) hd) (7 * h.2.2.1 + 6) h (sh_okB H) (fun v5 H => ?_)))
    show wq_195 d Q 118 [oR 11 0, oI l1] [aI v5] (sh_E h)
    exact ai_WP_steps mc_195 (sh_CM d) 1 (hR v5 H)
  replace H := sh_okF c H
  refine And.intro (fun c => ?_) (fun c => ?_)
  · replace H := sh_okT c H
    show wq_195 d Q 119 [oR 11 0, oI l1] [] (sh_E h)
    refine ai_WP_steps mc_195 (sh_CM d) 4 (And.intro (Nat.le_of_ble_eq_true rfl) (x_Rows_size (Nat.le_trans (Nat.le_of_ble_eq_true rfl) hd) (4 * 0 + 15) h (sh_okB H) (fun v6 H => ?_)))
    show wq_195 d Q 129 [oR 11 0, oI l1] [aI v6] (sh_E h)
    exact ai_WP_steps mc_195 (sh_CM d) 1 (hR v6 H)
  replace H := sh_okF c H
  refine And.intro (fun c => ?_) (fun c => ?_)
  · replace H := sh_okT c H
    show wq_195 d Q 130 [oR 11 0, oI l1] [] (sh_E h)
    refine ai_WP_steps mc_195 (sh_CM d) 4 (And.intro (Nat.le_of_ble_eq_true rfl) (x_Rows_size (Nat.le_trans (Nat.le_of_ble_eq_true rfl) hd) (4 * 0 + 16) h (sh_okB H) (fun v7 H => ?_)))
    show wq_195 d Q 140 [oR 11 0, oI l1] [aI v7] (sh_E h)
    exact ai_WP_steps mc_195 (sh_CM d) 1 (hR v7 H)
  replace H := sh_okF c H
  refine And.intro (fun c => ?_) (fun c => ?_)
  · replace H := sh_okT c H
    show wq_195 d Q 141 [oR 11 0, oI l1] [] (sh_E h)
    exact ai_WP_steps mc_195 (sh_CM d) 4 (hR (h.1 7 0 4) H)
  replace H := sh_okF c H
  refine And.intro (fun c => ?_) (fun c => ?_)
  · replace H := sh_okT c H
    show wq_195 d Q 149 [oR 11 0, oI l1] [] (sh_E h)
    exact ai_WP_steps mc_195 (sh_CM d) 3 (hR (h.1 11 0 1) H)
  replace H := sh_okF c H
  refine And.intro (fun c => ?_) (fun c => ?_)
  · replace H := sh_okT c H
    show wq_195 d Q 154 [oR 11 0, oI l1] [] (sh_E h)
    refine ai_WP_steps mc_195 (sh_CM d) 4 (And.intro (fun c => ?_) (fun c => ?_))
    · replace H := sh_okT c H
      show wq_195 d Q 168 [oR 11 0, oI l1] [] (sh_E h)
      refine ai_WP_steps mc_195 (sh_CM d) 1 ?_
      exact x_CB_count_b169 hd h hR (0 : Int32) H
    · replace H := sh_okF c H
      show wq_195 d Q 164 [oR 11 0, oI l1] [] (sh_E h)
      refine ai_WP_steps mc_195 (sh_CM d) 2 ?_
      exact x_CB_count_b169 hd h hR (1 : Int32) H
  replace H := sh_okF c H
  refine And.intro (fun c => ?_) (fun c => ?_)
  · replace H := sh_okT c H
    show wq_195 d Q 186 [oR 11 0, oI l1] [] (sh_E h)
    refine ai_WP_steps mc_195 (sh_CM d) 4 (And.intro (Nat.le_of_ble_eq_true rfl) (x_Rows_size (Nat.le_trans (Nat.le_of_ble_eq_true rfl) hd) (7 * h.2.2.1 + 3) h (sh_okB H) (fun v8 H => ?_)))
    show wq_195 d Q 196 [oR 11 0, oI l1] [aI v8] (sh_E h)
    exact ai_WP_steps mc_195 (sh_CM d) 1 (hR v8 H)
  replace H := sh_okF c H
  refine And.intro (fun c => ?_) (fun c => ?_)
  · replace H := sh_okT c H
    show wq_195 d Q 197 [oR 11 0, oI l1] [] (sh_E h)
    refine ai_WP_steps mc_195 (sh_CM d) 4 (And.intro (Nat.le_of_ble_eq_true rfl) (x_Rows_size (Nat.le_trans (Nat.le_of_ble_eq_true rfl) hd) (7 * h.2.2.1 + 5) h (sh_okB H) (fun v9 H => ?_)))
    show wq_195 d Q 207 [oR 11 0, oI l1] [aI v9] (sh_E h)
    exact ai_WP_steps mc_195 (sh_CM d) 1 (hR v9 H)
  replace H := sh_okF c H
  show wq_195 d Q 208 [oR 11 0, oI l1] [] (sh_E h)
  exact ai_WP_steps mc_195 (sh_CM d) 2 (hR (-1 : Int32) H)
def f_M_typed_c2 (N : Nat)   (k2 : Int32 → Int32 → sh_H → Option sh_H) (l1 : Int32) (l2 : Int32) (h : sh_H) : Option sh_H := (if l2 < (4 : Int32) then (if ai_in (h.1 12 0 0) 2000 then (sh_let (sh_pI h 13 42 (h.1 12 0 0).toNatClampNeg ((l1 >>> (((24 : Int32) - ((8 : Int32) * l2)) &&& 31)) &&& (255 : Int32))) (fun h1 => (sh_let (sh_pI h1 12 0 0 ((h1.1 12 0 0) + (1 : Int32))) (fun h2 => k2 l1 (l2 + (1 : Int32)) h2)))) else none) else (some h))
def f_M_typed_l2 (N : Nat)   (n : Nat) : Int32 → Int32 → sh_H → Option sh_H := Nat.rec (motive := fun _ => Int32 → Int32 → sh_H → Option sh_H) (fun _ _ _ => none) (fun _ k2 => f_M_typed_c2 N k2) n
theorem x_M_typed_l2 (N : Nat) {d : Nat} (hd : 0 ≤ d) {Q : ai_Q} {R : sh_H → Prop} (hR : ∀ h, R h → Q none (sh_E h))   (n : Nat) : ∀ (l1 : Int32) (l2 : Int32) (h : sh_H), sh_ok (f_M_typed_l2 N n l1 l2 h) R → wq_208 d Q 2 [oR 12 0, oI l1, oI l2] [] (sh_E h) := by
  induction n with
  | zero => intro l1 l2 h H; exact H.elim
  | succ n ih =>
    intro l1 l2 h H
    have hk2 := @ih
    replace H : sh_ok (f_M_typed_c2 N (f_M_typed_l2 N n) l1 l2 h) R := H
    revert hk2 H
    generalize f_M_typed_l2 N n = k2
    intro hk2 H
    refine ai_WP_steps mc_208 (sh_CM d) 3 (And.intro (fun c => ?_) (fun c => ?_))
    · replace H := sh_okT c H
      show wq_208 d Q 7 [oR 12 0, oI l1, oI l2] [] (sh_E h)
      have c := sh_okG H
      replace H := sh_okH H
      refine ai_WP_steps mc_208 (sh_CM d) 14 (And.intro c ?_)
      show wq_208 d Q 29 [oR 12 0, oI l1, oI l2] [] (sh_E (sh_pI h 13 42 (h.1 12 0 0).toNatClampNeg ((l1 >>> (((24 : Int32) - ((8 : Int32) * l2)) &&& 31)) &&& (255 : Int32))))
      replace H := sh_okL H
      generalize sh_pI h 13 42 (h.1 12 0 0).toNatClampNeg ((l1 >>> (((24 : Int32) - ((8 : Int32) * l2)) &&& 31)) &&& (255 : Int32)) = h1 at H ⊢
      refine ai_WP_steps mc_208 (sh_CM d) 6 (And.intro trivial ?_)
      show wq_208 d Q 39 [oR 12 0, oI l1, oI l2] [] (sh_E (sh_pI h1 12 0 0 ((h1.1 12 0 0) + (1 : Int32))))
      replace H := sh_okL H
      generalize sh_pI h1 12 0 0 ((h1.1 12 0 0) + (1 : Int32)) = h2 at H ⊢
      refine ai_WP_steps mc_208 (sh_CM d) 2 ?_
      exact hk2 l1 (l2 + (1 : Int32)) h2 H
    · replace H := sh_okF c H
      show wq_208 d Q 45 [oR 12 0, oI l1, oI l2] [] (sh_E h)
      exact ai_WP_steps mc_208 (sh_CM d) 1 (hR h H)
def f_M_typed (N : Nat)  (l1 : Int32) (h : sh_H) : Option sh_H := f_M_typed_l2 N N l1 (0 : Int32) h
theorem x_M_typed (N : Nat) {d : Nat} (hd : 1 ≤ d) (l1 : Int32) (h : sh_H) {Q : ai_Q} {R : sh_H → Prop} (H : sh_ok (f_M_typed N l1 h) R) (hR : ∀ h, R h → Q none (sh_E h)) : ai_Ex sh_T d 208 [aR 12 0, aI l1] (sh_E h) Q := by
  obtain ⟨d, rfl⟩ : ∃ e, d = e + 1 := ⟨d - 1, by omega⟩
  replace hd : 0 ≤ d := by omega
  refine And.intro (Nat.le_of_ble_eq_true rfl) ?_
  show wq_208 d Q 0 [oR 12 0, oI l1, none] [] (sh_E h)
  refine ai_WP_steps mc_208 (sh_CM d) 2 ?_
  exact x_M_typed_l2 N hd hR N l1 (0 : Int32) h H
def f_M_feed (N : Nat)  (l1 : Int32) (l2 : Int32) (l3 : Int32) (l4 : Int32) (l5 : Int32) (h : sh_H) : Option (Int32 × sh_H) := (if (2000 : Int32) < ((h.1 12 0 0) + (20 : Int32)) then (some ((-1 : Int32), h)) else (Option.bind (f_M_typed N l1 h) (fun h1 => (Option.bind (f_M_typed N l2 h1) (fun h2 => (Option.bind (f_M_typed N l3 h2) (fun h3 => (Option.bind (f_M_typed N l4 h3) (fun h4 => (Option.bind (f_M_typed N l5 h4) (fun h5 => (some ((h5.1 12 0 0), h5)))))))))))))
theorem x_M_feed (N : Nat) {d : Nat} (hd : 2 ≤ d) (l1 : Int32) (l2 : Int32) (l3 : Int32) (l4 : Int32) (l5 : Int32) (h : sh_H) {Q : ai_Q} {R : Int32 × sh_H → Prop} (H : sh_ok (f_M_feed N l1 l2 l3 l4 l5 h) R) (hR : ∀ r h, R (r, h) → Q (some (aI r)) (sh_E h)) : ai_Ex sh_T d 207 [aR 12 0, aI l1, aI l2, aI l3, aI l4, aI l5] (sh_E h) Q := by
  obtain ⟨d, rfl⟩ : ∃ e, d = e + 1 := ⟨d - 1, by omega⟩
  replace hd : 1 ≤ d := by omega
  refine And.intro (Nat.le_of_ble_eq_true rfl) ?_
  show wq_207 d Q 0 [oR 12 0, oI l1, oI l2, oI l3, oI l4, oI l5] [] (sh_E h)
  refine ai_WP_steps mc_207 (sh_CM d) 6 (And.intro (fun c => ?_) (fun c => ?_))
  · replace H := sh_okT c H
    show wq_207 d Q 13 [oR 12 0, oI l1, oI l2, oI l3, oI l4, oI l5] [] (sh_E h)
    exact ai_WP_steps mc_207 (sh_CM d) 2 (hR (-1 : Int32) h H)
  · replace H := sh_okF c H
    show wq_207 d Q 15 [oR 12 0, oI l1, oI l2, oI l3, oI l4, oI l5] [] (sh_E h)
    refine ai_WP_steps mc_207 (sh_CM d) 3 (And.intro (Nat.le_of_ble_eq_true rfl) (x_M_typed N (Nat.le_trans (Nat.le_of_ble_eq_true rfl) hd) l1 h (sh_okB H) (fun h1 H => ?_)))
    show wq_207 d Q 20 [oR 12 0, oI l1, oI l2, oI l3, oI l4, oI l5] [] (sh_E h1)
    refine ai_WP_steps mc_207 (sh_CM d) 3 (And.intro (Nat.le_of_ble_eq_true rfl) (x_M_typed N (Nat.le_trans (Nat.le_of_ble_eq_true rfl) hd) l2 h1 (sh_okB H) (fun h2 H => ?_)))
    show wq_207 d Q 25 [oR 12 0, oI l1, oI l2, oI l3, oI l4, oI l5] [] (sh_E h2)
    refine ai_WP_steps mc_207 (sh_CM d) 3 (And.intro (Nat.le_of_ble_eq_true rfl) (x_M_typed N (Nat.le_trans (Nat.le_of_ble_eq_true rfl) hd) l3 h2 (sh_okB H) (fun h3 H => ?_)))
    show wq_207 d Q 30 [oR 12 0, oI l1, oI l2, oI l3, oI l4, oI l5] [] (sh_E h3)
    refine ai_WP_steps mc_207 (sh_CM d) 3 (And.intro (Nat.le_of_ble_eq_true rfl) (x_M_typed N (Nat.le_trans (Nat.le_of_ble_eq_true rfl) hd) l4 h3 (sh_okB H) (fun h4 H => ?_)))
    show wq_207 d Q 36 [oR 12 0, oI l1, oI l2, oI l3, oI l4, oI l5] [] (sh_E h4)
    refine ai_WP_steps mc_207 (sh_CM d) 3 (And.intro (Nat.le_of_ble_eq_true rfl) (x_M_typed N (Nat.le_trans (Nat.le_of_ble_eq_true rfl) hd) l5 h4 (sh_okB H) (fun h5 H => ?_)))
    show wq_207 d Q 42 [oR 12 0, oI l1, oI l2, oI l3, oI l4, oI l5] [] (sh_E h5)
    exact ai_WP_steps mc_207 (sh_CM d) 3 (hR (h5.1 12 0 0) h5 H)
def f_M_back  (l1 : Int32) (h : sh_H) : Option (Int32 × sh_H) := (if l1 < 0 then (some ((-1 : Int32), h)) else (if (h.1 12 0 0) < l1 then (some ((-1 : Int32), h)) else (sh_let (sh_pI h 12 0 0 ((h.1 12 0 0) - l1)) (fun h1 => (some ((h1.1 12 0 0), h1))))))
theorem x_M_back {d : Nat} (hd : 1 ≤ d) (l1 : Int32) (h : sh_H) {Q : ai_Q} {R : Int32 × sh_H → Prop} (H : sh_ok (f_M_back l1 h) R) (hR : ∀ r h, R (r, h) → Q (some (aI r)) (sh_E h)) : ai_Ex sh_T d 209 [aR 12 0, aI l1] (sh_E h) Q := by
  obtain ⟨d, rfl⟩ : ∃ e, d = e + 1 := ⟨d - 1, by omega⟩
  replace hd : 0 ≤ d := by omega
  refine And.intro (Nat.le_of_ble_eq_true rfl) ?_
  show wq_209 d Q 0 [oR 12 0, oI l1] [] (sh_E h)
  refine ai_WP_steps mc_209 (sh_CM d) 2 (And.intro (fun c => ?_) (fun c => ?_))
  · replace H := sh_okT c H
    show wq_209 d Q 12 [oR 12 0, oI l1] [] (sh_E h)
    exact ai_WP_steps mc_209 (sh_CM d) 2 (hR (-1 : Int32) h H)
  · replace H := sh_okF c H
    show wq_209 d Q 4 [oR 12 0, oI l1] [] (sh_E h)
    refine ai_WP_steps mc_209 (sh_CM d) 4 (And.intro (fun c => ?_) (fun c => ?_))
    · replace H := sh_okT c H
      show wq_209 d Q 12 [oR 12 0, oI l1] [] (sh_E h)
      exact ai_WP_steps mc_209 (sh_CM d) 2 (hR (-1 : Int32) h H)
    · replace H := sh_okF c H
      show wq_209 d Q 14 [oR 12 0, oI l1] [] (sh_E h)
      refine ai_WP_steps mc_209 (sh_CM d) 6 (And.intro trivial ?_)
      show wq_209 d Q 24 [oR 12 0, oI l1] [] (sh_E (sh_pI h 12 0 0 ((h.1 12 0 0) - l1)))
      replace H := sh_okL H
      generalize sh_pI h 12 0 0 ((h.1 12 0 0) - l1) = h1 at H ⊢
      exact ai_WP_steps mc_209 (sh_CM d) 3 (hR (h1.1 12 0 0) h1 H)
def f_M_byteAt  (l1 : Int32) (h : sh_H) : Option Int32 := (if l1 < (h.1 12 0 0) then (if ai_in l1 2000 then (some (h.1 13 42 l1.toNatClampNeg)) else none) else (some (0 : Int32)))
theorem x_M_byteAt {d : Nat} (hd : 1 ≤ d) (l1 : Int32) (h : sh_H) {Q : ai_Q} {R : Int32 → Prop} (H : sh_ok (f_M_byteAt l1 h) R) (hR : ∀ r, R r → Q (some (aI r)) (sh_E h)) : ai_Ex sh_T d 210 [aR 12 0, aI l1] (sh_E h) Q := by
  obtain ⟨d, rfl⟩ : ∃ e, d = e + 1 := ⟨d - 1, by omega⟩
  replace hd : 0 ≤ d := by omega
  refine And.intro (Nat.le_of_ble_eq_true rfl) ?_
  show wq_210 d Q 0 [oR 12 0, oI l1] [] (sh_E h)
  refine ai_WP_steps mc_210 (sh_CM d) 4 (And.intro (fun c => ?_) (fun c => ?_))
  · replace H := sh_okT c H
    show wq_210 d Q 8 [oR 12 0, oI l1] [] (sh_E h)
    have c := sh_okG H
    replace H := sh_okH H
    refine ai_WP_steps mc_210 (sh_CM d) 4 (And.intro c ?_)
    show wq_210 d Q 14 [oR 12 0, oI l1] [aI (h.1 13 42 l1.toNatClampNeg)] (sh_E h)
    exact ai_WP_steps mc_210 (sh_CM d) 2 (hR (h.1 13 42 l1.toNatClampNeg) H)
  · replace H := sh_okF c H
    show wq_210 d Q 17 [oR 12 0, oI l1] [] (sh_E h)
    exact ai_WP_steps mc_210 (sh_CM d) 2 (hR (0 : Int32) H)
def f_M_isLetter_b24    (h : sh_H) : Option Int32 := (some (ai_nar 1 (0 : Int32)))
theorem x_M_isLetter_b24 {d : Nat} (hd : 1 ≤ d) (h : sh_H) {Q : ai_Q} {R : Int32 → Prop} (hR : ∀ r, R r → Q (some (aI r)) (sh_E h))    {d0 d1 : Option ai_V} (H : sh_ok (f_M_isLetter_b24 h) R) : wq_211 d Q 24 [d0, d1] [] (sh_E h) := by
  exact ai_WP_steps mc_211 (sh_CM d) 2 (hR (ai_nar 1 (0 : Int32)) H)
def f_M_isLetter  (l1 : Int32) (h : sh_H) : Option Int32 := (Option.bind (f_M_byteAt l1 h) (fun v1 => (if v1 < (97 : Int32) then f_M_isLetter_b24 h else (Option.bind (f_M_byteAt l1 h) (fun v2 => (if (122 : Int32) < v2 then f_M_isLetter_b24 h else (some (ai_nar 1 (1 : Int32)))))))))
theorem x_M_isLetter {d : Nat} (hd : 2 ≤ d) (l1 : Int32) (h : sh_H) {Q : ai_Q} {R : Int32 → Prop} (H : sh_ok (f_M_isLetter l1 h) R) (hR : ∀ r, R r → Q (some (aI r)) (sh_E h)) : ai_Ex sh_T d 211 [aR 12 0, aI l1] (sh_E h) Q := by
  obtain ⟨d, rfl⟩ : ∃ e, d = e + 1 := ⟨d - 1, by omega⟩
  replace hd : 1 ≤ d := by omega
  refine And.intro (Nat.le_of_ble_eq_true rfl) ?_
  show wq_211 d Q 0 [oR 12 0, oI l1] [] (sh_E h)
  refine ai_WP_steps mc_211 (sh_CM d) 3 (And.intro (Nat.le_of_ble_eq_true rfl) (x_M_byteAt (Nat.le_trans (Nat.le_of_ble_eq_true rfl) hd) l1 h (sh_okB H) (fun v1 H => ?_)))
  show wq_211 d Q 5 [oR 12 0, oI l1] [aI v1] (sh_E h)
  refine ai_WP_steps mc_211 (sh_CM d) 2 (And.intro (fun c => ?_) (fun c => ?_))
  · replace H := sh_okT c H
    exact x_M_isLetter_b24 hd h hR H
  · replace H := sh_okF c H
    show wq_211 d Q 10 [oR 12 0, oI l1] [] (sh_E h)
    refine ai_WP_steps mc_211 (sh_CM d) 3 (And.intro (Nat.le_of_ble_eq_true rfl) (x_M_byteAt (Nat.le_trans (Nat.le_of_ble_eq_true rfl) hd) l1 h (sh_okB H) (fun v2 H => ?_)))
    show wq_211 d Q 15 [oR 12 0, oI l1] [aI v2] (sh_E h)
    refine ai_WP_steps mc_211 (sh_CM d) 2 (And.intro (fun c => ?_) (fun c => ?_))
    · replace H := sh_okT c H
      exact x_M_isLetter_b24 hd h hR H
    · replace H := sh_okF c H
      show wq_211 d Q 20 [oR 12 0, oI l1] [] (sh_E h)
      exact ai_WP_steps mc_211 (sh_CM d) 3 (hR (ai_nar 1 (1 : Int32)) H)
def f_M_isDigit_b24    (h : sh_H) : Option Int32 := (some (ai_nar 1 (0 : Int32)))
theorem x_M_isDigit_b24 {d : Nat} (hd : 1 ≤ d) (h : sh_H) {Q : ai_Q} {R : Int32 → Prop} (hR : ∀ r, R r → Q (some (aI r)) (sh_E h))    {d0 d1 : Option ai_V} (H : sh_ok (f_M_isDigit_b24 h) R) : wq_212 d Q 24 [d0, d1] [] (sh_E h) := by
  exact ai_WP_steps mc_212 (sh_CM d) 2 (hR (ai_nar 1 (0 : Int32)) H)
def f_M_isDigit  (l1 : Int32) (h : sh_H) : Option Int32 := (Option.bind (f_M_byteAt l1 h) (fun v1 => (if v1 < (48 : Int32) then f_M_isDigit_b24 h else (Option.bind (f_M_byteAt l1 h) (fun v2 => (if (57 : Int32) < v2 then f_M_isDigit_b24 h else (some (ai_nar 1 (1 : Int32)))))))))
theorem x_M_isDigit {d : Nat} (hd : 2 ≤ d) (l1 : Int32) (h : sh_H) {Q : ai_Q} {R : Int32 → Prop} (H : sh_ok (f_M_isDigit l1 h) R) (hR : ∀ r, R r → Q (some (aI r)) (sh_E h)) : ai_Ex sh_T d 212 [aR 12 0, aI l1] (sh_E h) Q := by
  obtain ⟨d, rfl⟩ : ∃ e, d = e + 1 := ⟨d - 1, by omega⟩
  replace hd : 1 ≤ d := by omega
  refine And.intro (Nat.le_of_ble_eq_true rfl) ?_
  show wq_212 d Q 0 [oR 12 0, oI l1] [] (sh_E h)
  refine ai_WP_steps mc_212 (sh_CM d) 3 (And.intro (Nat.le_of_ble_eq_true rfl) (x_M_byteAt (Nat.le_trans (Nat.le_of_ble_eq_true rfl) hd) l1 h (sh_okB H) (fun v1 H => ?_)))
  show wq_212 d Q 5 [oR 12 0, oI l1] [aI v1] (sh_E h)
  refine ai_WP_steps mc_212 (sh_CM d) 2 (And.intro (fun c => ?_) (fun c => ?_))
  · replace H := sh_okT c H
    exact x_M_isDigit_b24 hd h hR H
  · replace H := sh_okF c H
    show wq_212 d Q 10 [oR 12 0, oI l1] [] (sh_E h)
    refine ai_WP_steps mc_212 (sh_CM d) 3 (And.intro (Nat.le_of_ble_eq_true rfl) (x_M_byteAt (Nat.le_trans (Nat.le_of_ble_eq_true rfl) hd) l1 h (sh_okB H) (fun v2 H => ?_)))
    show wq_212 d Q 15 [oR 12 0, oI l1] [aI v2] (sh_E h)
    refine ai_WP_steps mc_212 (sh_CM d) 2 (And.intro (fun c => ?_) (fun c => ?_))
    · replace H := sh_okT c H
      exact x_M_isDigit_b24 hd h hR H
    · replace H := sh_okF c H
      show wq_212 d Q 20 [oR 12 0, oI l1] [] (sh_E h)
      exact ai_WP_steps mc_212 (sh_CM d) 3 (hR (ai_nar 1 (1 : Int32)) H)
def f_M_token  (l1 : Int32) (l2 : Int32) (l3 : Int32) (h : sh_H) : Option sh_H := (if ai_in (h.1 12 0 2) 2001 then (sh_let (sh_pI h 13 43 (h.1 12 0 2).toNatClampNeg l1) (fun h1 => (if ai_in (h1.1 12 0 2) 2001 then (sh_let (sh_pI h1 13 44 (h1.1 12 0 2).toNatClampNeg l2) (fun h2 => (if ai_in (h2.1 12 0 2) 2001 then (sh_let (sh_pI h2 13 45 (h2.1 12 0 2).toNatClampNeg l3) (fun h3 => (sh_let (sh_pI h3 12 0 2 ((h3.1 12 0 2) + (1 : Int32))) (fun h4 => (some h4))))) else none))) else none))) else none)
theorem x_M_token {d : Nat} (hd : 1 ≤ d) (l1 : Int32) (l2 : Int32) (l3 : Int32) (h : sh_H) {Q : ai_Q} {R : sh_H → Prop} (H : sh_ok (f_M_token l1 l2 l3 h) R) (hR : ∀ h, R h → Q none (sh_E h)) : ai_Ex sh_T d 213 [aR 12 0, aI l1, aI l2, aI l3] (sh_E h) Q := by
  obtain ⟨d, rfl⟩ : ∃ e, d = e + 1 := ⟨d - 1, by omega⟩
  replace hd : 0 ≤ d := by omega
  refine And.intro (Nat.le_of_ble_eq_true rfl) ?_
  show wq_213 d Q 0 [oR 12 0, oI l1, oI l2, oI l3] [] (sh_E h)
  have c := sh_okG H
  replace H := sh_okH H
  refine ai_WP_steps mc_213 (sh_CM d) 6 (And.intro c ?_)
  show wq_213 d Q 10 [oR 12 0, oI l1, oI l2, oI l3] [] (sh_E (sh_pI h 13 43 (h.1 12 0 2).toNatClampNeg l1))
  replace H := sh_okL H
  generalize sh_pI h 13 43 (h.1 12 0 2).toNatClampNeg l1 = h1 at H ⊢
  have c := sh_okG H
  replace H := sh_okH H
  refine ai_WP_steps mc_213 (sh_CM d) 6 (And.intro c ?_)
  show wq_213 d Q 20 [oR 12 0, oI l1, oI l2, oI l3] [] (sh_E (sh_pI h1 13 44 (h1.1 12 0 2).toNatClampNeg l2))
  replace H := sh_okL H
  generalize sh_pI h1 13 44 (h1.1 12 0 2).toNatClampNeg l2 = h2 at H ⊢
  have c := sh_okG H
  replace H := sh_okH H
  refine ai_WP_steps mc_213 (sh_CM d) 6 (And.intro c ?_)
  show wq_213 d Q 30 [oR 12 0, oI l1, oI l2, oI l3] [] (sh_E (sh_pI h2 13 45 (h2.1 12 0 2).toNatClampNeg l3))
  replace H := sh_okL H
  generalize sh_pI h2 13 45 (h2.1 12 0 2).toNatClampNeg l3 = h3 at H ⊢
  refine ai_WP_steps mc_213 (sh_CM d) 6 (And.intro trivial ?_)
  show wq_213 d Q 40 [oR 12 0, oI l1, oI l2, oI l3] [] (sh_E (sh_pI h3 12 0 2 ((h3.1 12 0 2) + (1 : Int32))))
  replace H := sh_okL H
  generalize sh_pI h3 12 0 2 ((h3.1 12 0 2) + (1 : Int32)) = h4 at H ⊢
  exact ai_WP_steps mc_213 (sh_CM d) 1 (hR h4 H)
def f_M_wordOf  (l0 : Int64) (h : sh_H) : Option Int32 := (if (lg_cmp l0 (223456 : Int64)) = 0 then (some (0 : Int32)) else (if (lg_cmp l0 (139474849 : Int64)) = 0 then (some (1 : Int32)) else (if (lg_cmp l0 (453836 : Int64)) = 0 then (some (2 : Int32)) else (if (lg_cmp l0 (247664 : Int64)) = 0 then (some (3 : Int32)) else (if (lg_cmp l0 (127274 : Int64)) = 0 then (some (4 : Int32)) else (if (lg_cmp l0 (4562600 : Int64)) = 0 then (some (5 : Int32)) else (if (lg_cmp l0 (456399 : Int64)) = 0 then (some (6 : Int32)) else (if (lg_cmp l0 (50348 : Int64)) = 0 then (some (7 : Int32)) else (if (lg_cmp l0 (3215233 : Int64)) = 0 then (some (8 : Int32)) else (if (lg_cmp l0 (7214732 : Int64)) = 0 then (some (9 : Int32)) else (if (lg_cmp l0 (5878 : Int64)) = 0 then (some (10 : Int32)) else (if (lg_cmp l0 (464144 : Int64)) = 0 then (some (11 : Int32)) else (if (lg_cmp l0 (7742498 : Int64)) = 0 then (some (12 : Int32)) else (some (-1 : Int32)))))))))))))))
theorem x_M_wordOf {d : Nat} (hd : 1 ≤ d) (l0 : Int64) (h : sh_H) {Q : ai_Q} {R : Int32 → Prop} (H : sh_ok (f_M_wordOf l0 h) R) (hR : ∀ r, R r → Q (some (aI r)) (sh_E h)) : ai_Ex sh_T d 214 [aL l0] (sh_E h) Q := by
  obtain ⟨d, rfl⟩ : ∃ e, d = e + 1 := ⟨d - 1, by omega⟩
  replace hd : 0 ≤ d := by omega
  refine And.intro (Nat.le_of_ble_eq_true rfl) ?_
  show wq_214 d Q 0 [oL l0, none] [] (sh_E h)
  refine ai_WP_steps mc_214 (sh_CM d) 4 (And.intro (fun c => ?_) (fun c => ?_))
  · replace H := sh_okT c H
    show wq_214 d Q 8 [oL l0, _] [] (sh_E h)
    exact ai_WP_steps mc_214 (sh_CM d) 2 (hR (0 : Int32) H)
  · replace H := sh_okF c H
    show wq_214 d Q 10 [oL l0, _] [] (sh_E h)
    refine ai_WP_steps mc_214 (sh_CM d) 4 (And.intro (fun c => ?_) (fun c => ?_))
    · replace H := sh_okT c H
      show wq_214 d Q 18 [oL l0, _] [] (sh_E h)
      exact ai_WP_steps mc_214 (sh_CM d) 2 (hR (1 : Int32) H)
    · replace H := sh_okF c H
      show wq_214 d Q 20 [oL l0, _] [] (sh_E h)
      refine ai_WP_steps mc_214 (sh_CM d) 4 (And.intro (fun c => ?_) (fun c => ?_))
      · replace H := sh_okT c H
        show wq_214 d Q 28 [oL l0, _] [] (sh_E h)
        exact ai_WP_steps mc_214 (sh_CM d) 2 (hR (2 : Int32) H)
      · replace H := sh_okF c H
        show wq_214 d Q 30 [oL l0, _] [] (sh_E h)
        refine ai_WP_steps mc_214 (sh_CM d) 4 (And.intro (fun c => ?_) (fun c => ?_))
        · replace H := sh_okT c H
          show wq_214 d Q 38 [oL l0, _] [] (sh_E h)
          exact ai_WP_steps mc_214 (sh_CM d) 2 (hR (3 : Int32) H)
        · replace H := sh_okF c H
          show wq_214 d Q 40 [oL l0, _] [] (sh_E h)
          refine ai_WP_steps mc_214 (sh_CM d) 4 (And.intro (fun c => ?_) (fun c => ?_))
          · replace H := sh_okT c H
            show wq_214 d Q 48 [oL l0, _] [] (sh_E h)
            exact ai_WP_steps mc_214 (sh_CM d) 2 (hR (4 : Int32) H)
          · replace H := sh_okF c H
            show wq_214 d Q 50 [oL l0, _] [] (sh_E h)
            refine ai_WP_steps mc_214 (sh_CM d) 4 (And.intro (fun c => ?_) (fun c => ?_))
            · replace H := sh_okT c H
              show wq_214 d Q 58 [oL l0, _] [] (sh_E h)
              exact ai_WP_steps mc_214 (sh_CM d) 2 (hR (5 : Int32) H)
            · replace H := sh_okF c H
              show wq_214 d Q 60 [oL l0, _] [] (sh_E h)
              refine ai_WP_steps mc_214 (sh_CM d) 4 (And.intro (fun c => ?_) (fun c => ?_))
              · replace H := sh_okT c H
                show wq_214 d Q 68 [oL l0, _] [] (sh_E h)
                exact ai_WP_steps mc_214 (sh_CM d) 2 (hR (6 : Int32) H)
              · replace H := sh_okF c H
                show wq_214 d Q 71 [oL l0, _] [] (sh_E h)
                refine ai_WP_steps mc_214 (sh_CM d) 4 (And.intro (fun c => ?_) (fun c => ?_))
                · replace H := sh_okT c H
                  show wq_214 d Q 79 [oL l0, _] [] (sh_E h)
                  exact ai_WP_steps mc_214 (sh_CM d) 2 (hR (7 : Int32) H)
                · replace H := sh_okF c H
                  show wq_214 d Q 82 [oL l0, _] [] (sh_E h)
                  refine ai_WP_steps mc_214 (sh_CM d) 4 (And.intro (fun c => ?_) (fun c => ?_))
                  · replace H := sh_okT c H
                    show wq_214 d Q 90 [oL l0, _] [] (sh_E h)
                    exact ai_WP_steps mc_214 (sh_CM d) 2 (hR (8 : Int32) H)
                  · replace H := sh_okF c H
                    show wq_214 d Q 93 [oL l0, _] [] (sh_E h)
                    refine ai_WP_steps mc_214 (sh_CM d) 4 (And.intro (fun c => ?_) (fun c => ?_))
                    · replace H := sh_okT c H
                      show wq_214 d Q 101 [oL l0, _] [] (sh_E h)
                      exact ai_WP_steps mc_214 (sh_CM d) 2 (hR (9 : Int32) H)
                    · replace H := sh_okF c H
                      show wq_214 d Q 104 [oL l0, _] [] (sh_E h)
                      refine ai_WP_steps mc_214 (sh_CM d) 4 (And.intro (fun c => ?_) (fun c => ?_))
                      · replace H := sh_okT c H
                        show wq_214 d Q 112 [oL l0, _] [] (sh_E h)
                        exact ai_WP_steps mc_214 (sh_CM d) 2 (hR (10 : Int32) H)
                      · replace H := sh_okF c H
                        show wq_214 d Q 115 [oL l0, _] [] (sh_E h)
                        refine ai_WP_steps mc_214 (sh_CM d) 4 (And.intro (fun c => ?_) (fun c => ?_))
                        · replace H := sh_okT c H
                          show wq_214 d Q 123 [oL l0, _] [] (sh_E h)
                          exact ai_WP_steps mc_214 (sh_CM d) 2 (hR (11 : Int32) H)
                        · replace H := sh_okF c H
                          show wq_214 d Q 126 [oL l0, _] [] (sh_E h)
                          refine ai_WP_steps mc_214 (sh_CM d) 4 (And.intro (fun c => ?_) (fun c => ?_))
                          · replace H := sh_okT c H
                            show wq_214 d Q 134 [oL l0, _] [] (sh_E h)
                            exact ai_WP_steps mc_214 (sh_CM d) 2 (hR (12 : Int32) H)
                          · replace H := sh_okF c H
                            show wq_214 d Q 137 [oL l0, _] [] (sh_E h)
                            exact ai_WP_steps mc_214 (sh_CM d) 2 (hR (-1 : Int32) H)
def f_M_signAt_b97   (l2 : Int32) (s0 : Int32) (h : sh_H) : Option Int32 := (if s0 = 0 then (some (0 : Int32)) else (some l2))
theorem x_M_signAt_b97 {d : Nat} (hd : 1 ≤ d) (h : sh_H) {Q : ai_Q} {R : Int32 → Prop} (hR : ∀ r, R r → Q (some (aI r)) (sh_E h))   (l2 : Int32) (s0 : Int32) {d0 d1 d3 : Option ai_V} (H : sh_ok (f_M_signAt_b97 l2 s0 h) R) : wq_215 d Q 97 [d0, d1, oI l2, d3] [aI s0] (sh_E h) := by
  refine ai_WP_steps mc_215 (sh_CM d) 3 (And.intro (fun c => ?_) (fun c => ?_))
  · replace H := sh_okT c H
    show wq_215 d Q 106 [_, _, oI l2, oI s0] [] (sh_E h)
    exact ai_WP_steps mc_215 (sh_CM d) 2 (hR (0 : Int32) H)
  · replace H := sh_okF c H
    show wq_215 d Q 102 [_, _, oI l2, oI s0] [] (sh_E h)
    exact ai_WP_steps mc_215 (sh_CM d) 3 (hR l2 H)
def f_M_signAt_b92   (l2 : Int32) (h : sh_H) : Option Int32 := f_M_signAt_b97 l2 (1 : Int32) h
theorem x_M_signAt_b92 {d : Nat} (hd : 1 ≤ d) (h : sh_H) {Q : ai_Q} {R : Int32 → Prop} (hR : ∀ r, R r → Q (some (aI r)) (sh_E h))   (l2 : Int32) {d0 d1 d3 : Option ai_V} (H : sh_ok (f_M_signAt_b92 l2 h) R) : wq_215 d Q 92 [d0, d1, oI l2, d3] [] (sh_E h) := by
  refine ai_WP_steps mc_215 (sh_CM d) 2 ?_
  exact x_M_signAt_b97 hd h hR l2 (1 : Int32) H
def f_M_signAt  (l1 : Int32) (h : sh_H) : Option Int32 := (Option.bind (f_M_byteAt l1 h) (fun v1 => (if v1 = (61 : Int32) then (Option.bind (f_M_byteAt (l1 + (1 : Int32)) h) (fun v2 => (if v2 = (61 : Int32) then (some (300 : Int32)) else (some v1)))) else (if v1 = (59 : Int32) then f_M_signAt_b92 v1 h else (if v1 = (43 : Int32) then f_M_signAt_b92 v1 h else (if v1 = (45 : Int32) then f_M_signAt_b92 v1 h else (if v1 = (42 : Int32) then f_M_signAt_b92 v1 h else (if v1 = (47 : Int32) then f_M_signAt_b92 v1 h else (if v1 = (60 : Int32) then f_M_signAt_b92 v1 h else (if v1 = (40 : Int32) then f_M_signAt_b92 v1 h else (if v1 = (41 : Int32) then f_M_signAt_b92 v1 h else (if v1 = (91 : Int32) then f_M_signAt_b92 v1 h else (if v1 = (93 : Int32) then f_M_signAt_b92 v1 h else f_M_signAt_b97 v1 (0 : Int32) h)))))))))))))
theorem x_M_signAt {d : Nat} (hd : 2 ≤ d) (l1 : Int32) (h : sh_H) {Q : ai_Q} {R : Int32 → Prop} (H : sh_ok (f_M_signAt l1 h) R) (hR : ∀ r, R r → Q (some (aI r)) (sh_E h)) : ai_Ex sh_T d 215 [aR 12 0, aI l1] (sh_E h) Q := by
  obtain ⟨d, rfl⟩ : ∃ e, d = e + 1 := ⟨d - 1, by omega⟩
  replace hd : 1 ≤ d := by omega
  refine And.intro (Nat.le_of_ble_eq_true rfl) ?_
  show wq_215 d Q 0 [oR 12 0, oI l1, none, none] [] (sh_E h)
  refine ai_WP_steps mc_215 (sh_CM d) 3 (And.intro (Nat.le_of_ble_eq_true rfl) (x_M_byteAt (Nat.le_trans (Nat.le_of_ble_eq_true rfl) hd) l1 h (sh_okB H) (fun v1 H => ?_)))
  show wq_215 d Q 5 [oR 12 0, oI l1, _, _] [aI v1] (sh_E h)
  refine ai_WP_steps mc_215 (sh_CM d) 4 (And.intro (fun c => ?_) (fun c => ?_))
  · replace H := sh_okT c H
    show wq_215 d Q 12 [oR 12 0, oI l1, oI v1, _] [] (sh_E h)
    refine ai_WP_steps mc_215 (sh_CM d) 5 (And.intro (Nat.le_of_ble_eq_true rfl) (x_M_byteAt (Nat.le_trans (Nat.le_of_ble_eq_true rfl) hd) (l1 + (1 : Int32)) h (sh_okB H) (fun v2 H => ?_)))
    show wq_215 d Q 19 [oR 12 0, oI l1, oI v1, _] [aI v2] (sh_E h)
    refine ai_WP_steps mc_215 (sh_CM d) 2 (And.intro (fun c => ?_) (fun c => ?_))
    · replace H := sh_okT c H
      show wq_215 d Q 24 [oR 12 0, oI l1, oI v1, _] [] (sh_E h)
      exact ai_WP_steps mc_215 (sh_CM d) 3 (hR (300 : Int32) H)
    · replace H := sh_okF c H
      show wq_215 d Q 30 [oR 12 0, oI l1, oI v1, _] [] (sh_E h)
      exact ai_WP_steps mc_215 (sh_CM d) 2 (hR v1 H)
  · replace H := sh_okF c H
    show wq_215 d Q 32 [oR 12 0, oI l1, oI v1, _] [] (sh_E h)
    refine ai_WP_steps mc_215 (sh_CM d) 3 (And.intro (fun c => ?_) (fun c => ?_))
    · replace H := sh_okT c H
      exact x_M_signAt_b92 hd h hR v1 H
    · replace H := sh_okF c H
      show wq_215 d Q 38 [oR 12 0, oI l1, oI v1, _] [] (sh_E h)
      refine ai_WP_steps mc_215 (sh_CM d) 3 (And.intro (fun c => ?_) (fun c => ?_))
      · replace H := sh_okT c H
        exact x_M_signAt_b92 hd h hR v1 H
      · replace H := sh_okF c H
        show wq_215 d Q 44 [oR 12 0, oI l1, oI v1, _] [] (sh_E h)
        refine ai_WP_steps mc_215 (sh_CM d) 3 (And.intro (fun c => ?_) (fun c => ?_))
        · replace H := sh_okT c H
          exact x_M_signAt_b92 hd h hR v1 H
        · replace H := sh_okF c H
          show wq_215 d Q 50 [oR 12 0, oI l1, oI v1, _] [] (sh_E h)
          refine ai_WP_steps mc_215 (sh_CM d) 3 (And.intro (fun c => ?_) (fun c => ?_))
          · replace H := sh_okT c H
            exact x_M_signAt_b92 hd h hR v1 H
          · replace H := sh_okF c H
            show wq_215 d Q 56 [oR 12 0, oI l1, oI v1, _] [] (sh_E h)
            refine ai_WP_steps mc_215 (sh_CM d) 3 (And.intro (fun c => ?_) (fun c => ?_))
            · replace H := sh_okT c H
              exact x_M_signAt_b92 hd h hR v1 H
            · replace H := sh_okF c H
              show wq_215 d Q 62 [oR 12 0, oI l1, oI v1, _] [] (sh_E h)
              refine ai_WP_steps mc_215 (sh_CM d) 3 (And.intro (fun c => ?_) (fun c => ?_))
              · replace H := sh_okT c H
                exact x_M_signAt_b92 hd h hR v1 H
              · replace H := sh_okF c H
                show wq_215 d Q 68 [oR 12 0, oI l1, oI v1, _] [] (sh_E h)
                refine ai_WP_steps mc_215 (sh_CM d) 3 (And.intro (fun c => ?_) (fun c => ?_))
                · replace H := sh_okT c H
                  exact x_M_signAt_b92 hd h hR v1 H
                · replace H := sh_okF c H
                  show wq_215 d Q 74 [oR 12 0, oI l1, oI v1, _] [] (sh_E h)
                  refine ai_WP_steps mc_215 (sh_CM d) 3 (And.intro (fun c => ?_) (fun c => ?_))
                  · replace H := sh_okT c H
                    exact x_M_signAt_b92 hd h hR v1 H
                  · replace H := sh_okF c H
                    show wq_215 d Q 80 [oR 12 0, oI l1, oI v1, _] [] (sh_E h)
                    refine ai_WP_steps mc_215 (sh_CM d) 3 (And.intro (fun c => ?_) (fun c => ?_))
                    · replace H := sh_okT c H
                      exact x_M_signAt_b92 hd h hR v1 H
                    · replace H := sh_okF c H
                      show wq_215 d Q 86 [oR 12 0, oI l1, oI v1, _] [] (sh_E h)
                      refine ai_WP_steps mc_215 (sh_CM d) 3 (And.intro (fun c => ?_) (fun c => ?_))
                      · replace H := sh_okT c H
                        exact x_M_signAt_b92 hd h hR v1 H
                      · replace H := sh_okF c H
                        show wq_215 d Q 96 [oR 12 0, oI l1, oI v1, _] [] (sh_E h)
                        refine ai_WP_steps mc_215 (sh_CM d) 1 ?_
                        exact x_M_signAt_b97 hd h hR v1 (0 : Int32) H
def f_M_scan_b45 (N : Nat)  (k12 : Int32 → Int32 → Int64 → sh_H → Option (Int32 × sh_H)) (l1 : Int32) (l2 : Int32) (l3 : Int64) (h : sh_H) : Option (Int32 × sh_H) := k12 l1 (l2 + (1 : Int32)) l3 h
theorem x_M_scan_b45 (N : Nat) {d : Nat} (hd : 2 ≤ d) {Q : ai_Q} {R : Int32 × sh_H → Prop} (hR : ∀ r h, R (r, h) → Q (some (aI r)) (sh_E h))  (k12 : Int32 → Int32 → Int64 → sh_H → Option (Int32 × sh_H)) (hk12 : ∀ (l1 : Int32) (l2 : Int32) (l3 : Int64) {d4 d5 : Option ai_V} (h : sh_H), sh_ok (k12 l1 l2 l3 h) R → wq_216 d Q 12 [oR 12 0, oI l1, oI l2, oL l3, d4, d5] [] (sh_E h)) (l1 : Int32) (l2 : Int32) (l3 : Int64) {d4 d5 : Option ai_V} (h : sh_H) (H : sh_ok (f_M_scan_b45 N k12 l1 l2 l3 h) R) : wq_216 d Q 45 [oR 12 0, oI l1, oI l2, oL l3, d4, d5] [] (sh_E h) := by
  refine ai_WP_steps mc_216 (sh_CM d) 2 ?_
  exact hk12 l1 (l2 + (1 : Int32)) l3 h H
def f_M_scan_c12 (N : Nat)  (k51 : Int32 → Int32 → Int64 → sh_H → Option (Int32 × sh_H)) (k12 : Int32 → Int32 → Int64 → sh_H → Option (Int32 × sh_H)) (l1 : Int32) (l2 : Int32) (l3 : Int64) (h : sh_H) : Option (Int32 × sh_H) := (Option.bind (f_M_isLetter l2 h) (fun v1 => (if v1 = 0 then k51 l1 l2 l3 h else (if (l2 - l1) < (8 : Int32) then (Option.bind (f_M_byteAt l2 h) (fun v2 => f_M_scan_b45 N k12 l1 l2 (((l3 * (27 : Int64)) + v2.toInt64) - (96 : Int64)) h)) else f_M_scan_b45 N k12 l1 l2 l3 h))))
def f_M_scan_l12 (N : Nat)  (k51 : Int32 → Int32 → Int64 → sh_H → Option (Int32 × sh_H)) (n : Nat) : Int32 → Int32 → Int64 → sh_H → Option (Int32 × sh_H) := Nat.rec (motive := fun _ => Int32 → Int32 → Int64 → sh_H → Option (Int32 × sh_H)) (fun _ _ _ _ => none) (fun _ k12 => f_M_scan_c12 N k51 k12) n
theorem x_M_scan_l12 (N : Nat) {d : Nat} (hd : 2 ≤ d) {Q : ai_Q} {R : Int32 × sh_H → Prop} (hR : ∀ r h, R (r, h) → Q (some (aI r)) (sh_E h))  (k51 : Int32 → Int32 → Int64 → sh_H → Option (Int32 × sh_H)) (hk51 : ∀ (l1 : Int32) (l2 : Int32) (l3 : Int64) {d4 d5 : Option ai_V} (h : sh_H), sh_ok (k51 l1 l2 l3 h) R → wq_216 d Q 51 [oR 12 0, oI l1, oI l2, oL l3, d4, d5] [] (sh_E h)) (n : Nat) : ∀ (l1 : Int32) (l2 : Int32) (l3 : Int64) {d4 d5 : Option ai_V} (h : sh_H), sh_ok (f_M_scan_l12 N k51 n l1 l2 l3 h) R → wq_216 d Q 12 [oR 12 0, oI l1, oI l2, oL l3, d4, d5] [] (sh_E h) := by
  induction n with
  | zero => intro l1 l2 l3 d4 d5 h H; exact H.elim
  | succ n ih =>
    intro l1 l2 l3 d4 d5 h H
    have hk12 := @ih
    replace H : sh_ok (f_M_scan_c12 N k51 (f_M_scan_l12 N k51 n) l1 l2 l3 h) R := H
    revert hk12 H
    generalize f_M_scan_l12 N k51 n = k12
    intro hk12 H
    refine ai_WP_steps mc_216 (sh_CM d) 3 (And.intro (Nat.le_of_ble_eq_true rfl) (x_M_isLetter (Nat.le_trans (Nat.le_of_ble_eq_true rfl) hd) l2 h (sh_okB H) (fun v1 H => ?_)))
    show wq_216 d Q 17 [oR 12 0, oI l1, oI l2, oL l3, _, _] [aI v1] (sh_E h)
    refine ai_WP_steps mc_216 (sh_CM d) 1 (And.intro (fun c => ?_) (fun c => ?_))
    · replace H := sh_okT c H
      exact hk51 l1 l2 l3 h H
    · replace H := sh_okF c H
      show wq_216 d Q 20 [oR 12 0, oI l1, oI l2, oL l3, _, _] [] (sh_E h)
      refine ai_WP_steps mc_216 (sh_CM d) 5 (And.intro (fun c => ?_) (fun c => ?_))
      · replace H := sh_okT c H
        show wq_216 d Q 28 [oR 12 0, oI l1, oI l2, oL l3, _, _] [] (sh_E h)
        refine ai_WP_steps mc_216 (sh_CM d) 6 (And.intro (Nat.le_of_ble_eq_true rfl) (x_M_byteAt (Nat.le_trans (Nat.le_of_ble_eq_true rfl) hd) l2 h (sh_okB H) (fun v2 H => ?_)))
        show wq_216 d Q 38 [oR 12 0, oI l1, oI l2, oL l3, _, _] [aI v2, aL (l3 * (27 : Int64))] (sh_E h)
        refine ai_WP_steps mc_216 (sh_CM d) 5 ?_
        exact x_M_scan_b45 N hd hR k12 hk12 l1 l2 (((l3 * (27 : Int64)) + v2.toInt64) - (96 : Int64)) h H
      · replace H := sh_okF c H
        exact x_M_scan_b45 N hd hR k12 hk12 l1 l2 l3 h H
def f_M_scan_b149 (N : Nat)  (k120 : Int32 → Int32 → Int32 → sh_H → Option (Int32 × sh_H)) (l1 : Int32) (l2 : Int32) (l3 : Int32) (h : sh_H) : Option (Int32 × sh_H) := k120 l1 (l2 + (1 : Int32)) l3 h
theorem x_M_scan_b149 (N : Nat) {d : Nat} (hd : 2 ≤ d) {Q : ai_Q} {R : Int32 × sh_H → Prop} (hR : ∀ r h, R (r, h) → Q (some (aI r)) (sh_E h))  (k120 : Int32 → Int32 → Int32 → sh_H → Option (Int32 × sh_H)) (hk120 : ∀ (l1 : Int32) (l2 : Int32) (l3 : Int32) {d4 d5 : Option ai_V} (h : sh_H), sh_ok (k120 l1 l2 l3 h) R → wq_216 d Q 120 [oR 12 0, oI l1, oI l2, oI l3, d4, d5] [] (sh_E h)) (l1 : Int32) (l2 : Int32) (l3 : Int32) {d4 d5 : Option ai_V} (h : sh_H) (H : sh_ok (f_M_scan_b149 N k120 l1 l2 l3 h) R) : wq_216 d Q 149 [oR 12 0, oI l1, oI l2, oI l3, d4, d5] [] (sh_E h) := by
  refine ai_WP_steps mc_216 (sh_CM d) 2 ?_
  exact hk120 l1 (l2 + (1 : Int32)) l3 h H
def f_M_scan_c120 (N : Nat)  (k155 : Int32 → Int32 → Int32 → sh_H → Option (Int32 × sh_H)) (k120 : Int32 → Int32 → Int32 → sh_H → Option (Int32 × sh_H)) (l1 : Int32) (l2 : Int32) (l3 : Int32) (h : sh_H) : Option (Int32 × sh_H) := (Option.bind (f_M_isDigit l2 h) (fun v3 => (if v3 = 0 then k155 l1 l2 l3 h else (if (l2 - l1) < (4 : Int32) then (Option.bind (f_M_byteAt l2 h) (fun v4 => f_M_scan_b149 N k120 l1 l2 ((((10 : Int32) * l3) + v4) - (48 : Int32)) h)) else f_M_scan_b149 N k120 l1 l2 l3 h))))
def f_M_scan_l120 (N : Nat)  (k155 : Int32 → Int32 → Int32 → sh_H → Option (Int32 × sh_H)) (n : Nat) : Int32 → Int32 → Int32 → sh_H → Option (Int32 × sh_H) := Nat.rec (motive := fun _ => Int32 → Int32 → Int32 → sh_H → Option (Int32 × sh_H)) (fun _ _ _ _ => none) (fun _ k120 => f_M_scan_c120 N k155 k120) n
theorem x_M_scan_l120 (N : Nat) {d : Nat} (hd : 2 ≤ d) {Q : ai_Q} {R : Int32 × sh_H → Prop} (hR : ∀ r h, R (r, h) → Q (some (aI r)) (sh_E h))  (k155 : Int32 → Int32 → Int32 → sh_H → Option (Int32 × sh_H)) (hk155 : ∀ (l1 : Int32) (l2 : Int32) (l3 : Int32) {d4 d5 : Option ai_V} (h : sh_H), sh_ok (k155 l1 l2 l3 h) R → wq_216 d Q 155 [oR 12 0, oI l1, oI l2, oI l3, d4, d5] [] (sh_E h)) (n : Nat) : ∀ (l1 : Int32) (l2 : Int32) (l3 : Int32) {d4 d5 : Option ai_V} (h : sh_H), sh_ok (f_M_scan_l120 N k155 n l1 l2 l3 h) R → wq_216 d Q 120 [oR 12 0, oI l1, oI l2, oI l3, d4, d5] [] (sh_E h) := by
  induction n with
  | zero => intro l1 l2 l3 d4 d5 h H; exact H.elim
  | succ n ih =>
    intro l1 l2 l3 d4 d5 h H
    have hk120 := @ih
    replace H : sh_ok (f_M_scan_c120 N k155 (f_M_scan_l120 N k155 n) l1 l2 l3 h) R := H
    revert hk120 H
    generalize f_M_scan_l120 N k155 n = k120
    intro hk120 H
    refine ai_WP_steps mc_216 (sh_CM d) 3 (And.intro (Nat.le_of_ble_eq_true rfl) (x_M_isDigit (Nat.le_trans (Nat.le_of_ble_eq_true rfl) hd) l2 h (sh_okB H) (fun v3 H => ?_)))
    show wq_216 d Q 125 [oR 12 0, oI l1, oI l2, oI l3, _, _] [aI v3] (sh_E h)
    refine ai_WP_steps mc_216 (sh_CM d) 1 (And.intro (fun c => ?_) (fun c => ?_))
    · replace H := sh_okT c H
      exact hk155 l1 l2 l3 h H
    · replace H := sh_okF c H
      show wq_216 d Q 128 [oR 12 0, oI l1, oI l2, oI l3, _, _] [] (sh_E h)
      refine ai_WP_steps mc_216 (sh_CM d) 5 (And.intro (fun c => ?_) (fun c => ?_))
      · replace H := sh_okT c H
        show wq_216 d Q 135 [oR 12 0, oI l1, oI l2, oI l3, _, _] [] (sh_E h)
        refine ai_WP_steps mc_216 (sh_CM d) 6 (And.intro (Nat.le_of_ble_eq_true rfl) (x_M_byteAt (Nat.le_trans (Nat.le_of_ble_eq_true rfl) hd) l2 h (sh_okB H) (fun v4 H => ?_)))
        show wq_216 d Q 144 [oR 12 0, oI l1, oI l2, oI l3, _, _] [aI v4, aI ((10 : Int32) * l3)] (sh_E h)
        refine ai_WP_steps mc_216 (sh_CM d) 4 ?_
        exact x_M_scan_b149 N hd hR k120 hk120 l1 l2 ((((10 : Int32) * l3) + v4) - (48 : Int32)) h H
      · replace H := sh_okF c H
        exact x_M_scan_b149 N hd hR k120 hk120 l1 l2 l3 h H
def f_M_scan_b102 (N : Nat)   (l1 : Int32) (l2 : Int32) (l5 : Int32) (s1 : Int32) (h : sh_H) : Option (Int32 × sh_H) := (Option.bind (f_M_token s1 l1 l5 h) (fun h5 => (some (l2, h5))))
theorem x_M_scan_b102 (N : Nat) {d : Nat} (hd : 2 ≤ d) {Q : ai_Q} {R : Int32 × sh_H → Prop} (hR : ∀ r h, R (r, h) → Q (some (aI r)) (sh_E h))   (l1 : Int32) (l2 : Int32) (l5 : Int32) (s1 : Int32) {d0 d3 d4 : Option ai_V} (h : sh_H) (H : sh_ok (f_M_scan_b102 N l1 l2 l5 s1 h) R) : wq_216 d Q 102 [d0, oI l1, oI l2, d3, d4, oI l5] [aI s1, aR 12 0] (sh_E h) := by
  refine ai_WP_steps mc_216 (sh_CM d) 3 (And.intro (Nat.le_of_ble_eq_true rfl) (x_M_token (Nat.le_trans (Nat.le_of_ble_eq_true rfl) hd) s1 l1 l5 h (sh_okB H) (fun h5 H => ?_)))
  show wq_216 d Q 108 [_, oI l1, oI l2, _, _, oI l5] [] (sh_E h5)
  exact ai_WP_steps mc_216 (sh_CM d) 2 (hR l2 h5 H)
def f_M_scan_b67 (N : Nat)   (l1 : Int32) (l2 : Int32) (l3 : Int64) (s0 : Int32) (h : sh_H) : Option (Int32 × sh_H) := (if ai_in (h.1 12 0 2) 2001 then (sh_let (sh_pJ h 14 5 (h.1 12 0 2).toNatClampNeg l3) (fun h6 => (if (8 : Int32) < (l2 - l1) then f_M_scan_b102 N l1 l2 s0 (5 : Int32) h6 else (if s0 < 0 then f_M_scan_b102 N l1 l2 s0 (0 : Int32) h6 else f_M_scan_b102 N l1 l2 s0 (3 : Int32) h6)))) else none)
theorem x_M_scan_b67 (N : Nat) {d : Nat} (hd : 2 ≤ d) {Q : ai_Q} {R : Int32 × sh_H → Prop} (hR : ∀ r h, R (r, h) → Q (some (aI r)) (sh_E h))   (l1 : Int32) (l2 : Int32) (l3 : Int64) (s0 : Int32) {d4 d5 : Option ai_V} (h : sh_H) (H : sh_ok (f_M_scan_b67 N l1 l2 l3 s0 h) R) : wq_216 d Q 67 [oR 12 0, oI l1, oI l2, oL l3, d4, d5] [aI s0] (sh_E h) := by
  have c := sh_okG H
  replace H := sh_okH H
  refine ai_WP_steps mc_216 (sh_CM d) 7 (And.intro c ?_)
  show wq_216 d Q 79 [oR 12 0, oI l1, oI l2, oL l3, _, oI s0] [] (sh_E (sh_pJ h 14 5 (h.1 12 0 2).toNatClampNeg l3))
  replace H := sh_okL H
  generalize sh_pJ h 14 5 (h.1 12 0 2).toNatClampNeg l3 = h6 at H ⊢
  refine ai_WP_steps mc_216 (sh_CM d) 6 (And.intro (fun c => ?_) (fun c => ?_))
  · replace H := sh_okT c H
    show wq_216 d Q 88 [oR 12 0, oI l1, oI l2, oL l3, _, oI s0] [aR 12 0] (sh_E h6)
    refine ai_WP_steps mc_216 (sh_CM d) 2 ?_
    exact x_M_scan_b102 N hd hR l1 l2 s0 (5 : Int32) h6 H
  · replace H := sh_okF c H
    show wq_216 d Q 92 [oR 12 0, oI l1, oI l2, oL l3, _, oI s0] [aR 12 0] (sh_E h6)
    refine ai_WP_steps mc_216 (sh_CM d) 2 (And.intro (fun c => ?_) (fun c => ?_))
    · replace H := sh_okT c H
      show wq_216 d Q 101 [oR 12 0, oI l1, oI l2, oL l3, _, oI s0] [aR 12 0] (sh_E h6)
      refine ai_WP_steps mc_216 (sh_CM d) 1 ?_
      exact x_M_scan_b102 N hd hR l1 l2 s0 (0 : Int32) h6 H
    · replace H := sh_okF c H
      show wq_216 d Q 97 [oR 12 0, oI l1, oI l2, oL l3, _, oI s0] [aR 12 0] (sh_E h6)
      refine ai_WP_steps mc_216 (sh_CM d) 2 ?_
      exact x_M_scan_b102 N hd hR l1 l2 s0 (3 : Int32) h6 H
def f_M_scan_b51 (N : Nat)   (l1 : Int32) (l2 : Int32) (l3 : Int64) (h : sh_H) : Option (Int32 × sh_H) := (if (8 : Int32) < (l2 - l1) then f_M_scan_b67 N l1 l2 l3 (-1 : Int32) h else (Option.bind (f_M_wordOf l3 h) (fun v7 => f_M_scan_b67 N l1 l2 l3 v7 h)))
theorem x_M_scan_b51 (N : Nat) {d : Nat} (hd : 2 ≤ d) {Q : ai_Q} {R : Int32 × sh_H → Prop} (hR : ∀ r h, R (r, h) → Q (some (aI r)) (sh_E h))   (l1 : Int32) (l2 : Int32) (l3 : Int64) {d4 d5 : Option ai_V} (h : sh_H) (H : sh_ok (f_M_scan_b51 N l1 l2 l3 h) R) : wq_216 d Q 51 [oR 12 0, oI l1, oI l2, oL l3, d4, d5] [] (sh_E h) := by
  refine ai_WP_steps mc_216 (sh_CM d) 5 (And.intro (fun c => ?_) (fun c => ?_))
  · replace H := sh_okT c H
    show wq_216 d Q 59 [oR 12 0, oI l1, oI l2, oL l3, _, _] [] (sh_E h)
    refine ai_WP_steps mc_216 (sh_CM d) 2 ?_
    exact x_M_scan_b67 N hd hR l1 l2 l3 (-1 : Int32) h H
  · replace H := sh_okF c H
    show wq_216 d Q 63 [oR 12 0, oI l1, oI l2, oL l3, _, _] [] (sh_E h)
    refine ai_WP_steps mc_216 (sh_CM d) 2 (And.intro (Nat.le_of_ble_eq_true rfl) (x_M_wordOf (Nat.le_trans (Nat.le_of_ble_eq_true rfl) hd) l3 h (sh_okB H) (fun v7 H => ?_)))
    show wq_216 d Q 67 [oR 12 0, oI l1, oI l2, oL l3, _, _] [aI v7] (sh_E h)
    exact x_M_scan_b67 N hd hR l1 l2 l3 v7 h H
def f_M_scan_b168 (N : Nat)   (l1 : Int32) (l2 : Int32) (l3 : Int32) (s1 : Int32) (h : sh_H) : Option (Int32 × sh_H) := (Option.bind (f_M_token s1 l1 l3 h) (fun h8 => (some (l2, h8))))
theorem x_M_scan_b168 (N : Nat) {d : Nat} (hd : 2 ≤ d) {Q : ai_Q} {R : Int32 × sh_H → Prop} (hR : ∀ r h, R (r, h) → Q (some (aI r)) (sh_E h))   (l1 : Int32) (l2 : Int32) (l3 : Int32) (s1 : Int32) {d0 d4 d5 : Option ai_V} (h : sh_H) (H : sh_ok (f_M_scan_b168 N l1 l2 l3 s1 h) R) : wq_216 d Q 168 [d0, oI l1, oI l2, oI l3, d4, d5] [aI s1, aR 12 0] (sh_E h) := by
  refine ai_WP_steps mc_216 (sh_CM d) 3 (And.intro (Nat.le_of_ble_eq_true rfl) (x_M_token (Nat.le_trans (Nat.le_of_ble_eq_true rfl) hd) s1 l1 l3 h (sh_okB H) (fun h8 H => ?_)))
  show wq_216 d Q 173 [_, oI l1, oI l2, oI l3, _, _] [] (sh_E h8)
  exact ai_WP_steps mc_216 (sh_CM d) 2 (hR l2 h8 H)
def f_M_scan_b155 (N : Nat)   (l1 : Int32) (l2 : Int32) (l3 : Int32) (h : sh_H) : Option (Int32 × sh_H) := (if (4 : Int32) < (l2 - l1) then f_M_scan_b168 N l1 l2 l3 (5 : Int32) h else f_M_scan_b168 N l1 l2 l3 (1 : Int32) h)
theorem x_M_scan_b155 (N : Nat) {d : Nat} (hd : 2 ≤ d) {Q : ai_Q} {R : Int32 × sh_H → Prop} (hR : ∀ r h, R (r, h) → Q (some (aI r)) (sh_E h))   (l1 : Int32) (l2 : Int32) (l3 : Int32) {d4 d5 : Option ai_V} (h : sh_H) (H : sh_ok (f_M_scan_b155 N l1 l2 l3 h) R) : wq_216 d Q 155 [oR 12 0, oI l1, oI l2, oI l3, d4, d5] [] (sh_E h) := by
  refine ai_WP_steps mc_216 (sh_CM d) 6 (And.intro (fun c => ?_) (fun c => ?_))
  · replace H := sh_okT c H
    show wq_216 d Q 163 [oR 12 0, oI l1, oI l2, oI l3, _, _] [aR 12 0] (sh_E h)
    refine ai_WP_steps mc_216 (sh_CM d) 2 ?_
    exact x_M_scan_b168 N hd hR l1 l2 l3 (5 : Int32) h H
  · replace H := sh_okF c H
    show wq_216 d Q 167 [oR 12 0, oI l1, oI l2, oI l3, _, _] [aR 12 0] (sh_E h)
    refine ai_WP_steps mc_216 (sh_CM d) 1 ?_
    exact x_M_scan_b168 N hd hR l1 l2 l3 (1 : Int32) h H
def f_M_scan_b209 (N : Nat)   (s0 : Int32) (s1 : Int32) (h : sh_H) : Option (Int32 × sh_H) := (some ((s0 + s1), h))
theorem x_M_scan_b209 (N : Nat) {d : Nat} (hd : 2 ≤ d) {Q : ai_Q} {R : Int32 × sh_H → Prop} (hR : ∀ r h, R (r, h) → Q (some (aI r)) (sh_E h))   (s0 : Int32) (s1 : Int32) {d0 d1 d2 d3 d4 d5 : Option ai_V} (h : sh_H) (H : sh_ok (f_M_scan_b209 N s0 s1 h) R) : wq_216 d Q 209 [d0, d1, d2, d3, d4, d5] [aI s1, aI s0] (sh_E h) := by
  exact ai_WP_steps mc_216 (sh_CM d) 2 (hR (s0 + s1) h H)
def f_M_scan_b191 (N : Nat)   (l1 : Int32) (l3 : Int32) (s1 : Int32) (h : sh_H) : Option (Int32 × sh_H) := (Option.bind (f_M_token s1 l1 l3 h) (fun h9 => (if l3 < (300 : Int32) then f_M_scan_b209 N l1 (1 : Int32) h9 else f_M_scan_b209 N l1 (2 : Int32) h9)))
theorem x_M_scan_b191 (N : Nat) {d : Nat} (hd : 2 ≤ d) {Q : ai_Q} {R : Int32 × sh_H → Prop} (hR : ∀ r h, R (r, h) → Q (some (aI r)) (sh_E h))   (l1 : Int32) (l3 : Int32) (s1 : Int32) {d0 d2 d4 d5 : Option ai_V} (h : sh_H) (H : sh_ok (f_M_scan_b191 N l1 l3 s1 h) R) : wq_216 d Q 191 [d0, oI l1, d2, oI l3, d4, d5] [aI s1, aR 12 0] (sh_E h) := by
  refine ai_WP_steps mc_216 (sh_CM d) 3 (And.intro (Nat.le_of_ble_eq_true rfl) (x_M_token (Nat.le_trans (Nat.le_of_ble_eq_true rfl) hd) s1 l1 l3 h (sh_okB H) (fun h9 H => ?_)))
  show wq_216 d Q 196 [_, oI l1, _, oI l3, _, _] [] (sh_E h9)
  refine ai_WP_steps mc_216 (sh_CM d) 4 (And.intro (fun c => ?_) (fun c => ?_))
  · replace H := sh_okT c H
    show wq_216 d Q 208 [_, oI l1, _, oI l3, _, _] [aI l1] (sh_E h9)
    refine ai_WP_steps mc_216 (sh_CM d) 1 ?_
    exact x_M_scan_b209 N hd hR l1 (1 : Int32) h9 H
  · replace H := sh_okF c H
    show wq_216 d Q 204 [_, oI l1, _, oI l3, _, _] [aI l1] (sh_E h9)
    refine ai_WP_steps mc_216 (sh_CM d) 2 ?_
    exact x_M_scan_b209 N hd hR l1 (2 : Int32) h9 H
def f_M_scan (N : Nat)  (l1 : Int32) (h : sh_H) : Option (Int32 × sh_H) := (Option.bind (f_M_isLetter l1 h) (fun v10 => (if v10 = 0 then (Option.bind (f_M_isDigit l1 h) (fun v11 => (if v11 = 0 then (Option.bind (f_M_signAt l1 h) (fun v12 => (if v12 = 0 then f_M_scan_b191 N l1 v12 (5 : Int32) h else f_M_scan_b191 N l1 v12 (2 : Int32) h))) else f_M_scan_l120 N (f_M_scan_b155 N) N l1 l1 (0 : Int32) h))) else f_M_scan_l12 N (f_M_scan_b51 N) N l1 l1 (0 : Int64) h)))
theorem x_M_scan (N : Nat) {d : Nat} (hd : 3 ≤ d) (l1 : Int32) (h : sh_H) {Q : ai_Q} {R : Int32 × sh_H → Prop} (H : sh_ok (f_M_scan N l1 h) R) (hR : ∀ r h, R (r, h) → Q (some (aI r)) (sh_E h)) : ai_Ex sh_T d 216 [aR 12 0, aI l1] (sh_E h) Q := by
  obtain ⟨d, rfl⟩ : ∃ e, d = e + 1 := ⟨d - 1, by omega⟩
  replace hd : 2 ≤ d := by omega
  refine And.intro (Nat.le_of_ble_eq_true rfl) ?_
  show wq_216 d Q 0 [oR 12 0, oI l1, none, none, none, none] [] (sh_E h)
  refine ai_WP_steps mc_216 (sh_CM d) 5 (And.intro (Nat.le_of_ble_eq_true rfl) (x_M_isLetter (Nat.le_trans (Nat.le_of_ble_eq_true rfl) hd) l1 h (sh_okB H) (fun v10 H => ?_)))
  show wq_216 d Q 7 [oR 12 0, oI l1, oI l1, _, _, _] [aI v10] (sh_E h)
  refine ai_WP_steps mc_216 (sh_CM d) 1 (And.intro (fun c => ?_) (fun c => ?_))
  · replace H := sh_okT c H
    show wq_216 d Q 110 [oR 12 0, oI l1, oI l1, _, _, _] [] (sh_E h)
    refine ai_WP_steps mc_216 (sh_CM d) 3 (And.intro (Nat.le_of_ble_eq_true rfl) (x_M_isDigit (Nat.le_trans (Nat.le_of_ble_eq_true rfl) hd) l1 h (sh_okB H) (fun v11 H => ?_)))
    show wq_216 d Q 115 [oR 12 0, oI l1, oI l1, _, _, _] [aI v11] (sh_E h)
    refine ai_WP_steps mc_216 (sh_CM d) 1 (And.intro (fun c => ?_) (fun c => ?_))
    · replace H := sh_okT c H
      show wq_216 d Q 175 [oR 12 0, oI l1, oI l1, _, _, _] [] (sh_E h)
      refine ai_WP_steps mc_216 (sh_CM d) 3 (And.intro (Nat.le_of_ble_eq_true rfl) (x_M_signAt (Nat.le_trans (Nat.le_of_ble_eq_true rfl) hd) l1 h (sh_okB H) (fun v12 H => ?_)))
      show wq_216 d Q 180 [oR 12 0, oI l1, oI l1, _, _, _] [aI v12] (sh_E h)
      refine ai_WP_steps mc_216 (sh_CM d) 4 (And.intro (fun c => ?_) (fun c => ?_))
      · replace H := sh_okT c H
        show wq_216 d Q 186 [oR 12 0, oI l1, _, oI v12, _, _] [aR 12 0] (sh_E h)
        refine ai_WP_steps mc_216 (sh_CM d) 2 ?_
        exact x_M_scan_b191 N hd hR l1 v12 (5 : Int32) h H
      · replace H := sh_okF c H
        show wq_216 d Q 190 [oR 12 0, oI l1, _, oI v12, _, _] [aR 12 0] (sh_E h)
        refine ai_WP_steps mc_216 (sh_CM d) 1 ?_
        exact x_M_scan_b191 N hd hR l1 v12 (2 : Int32) h H
    · replace H := sh_okF c H
      show wq_216 d Q 118 [oR 12 0, oI l1, oI l1, _, _, _] [] (sh_E h)
      refine ai_WP_steps mc_216 (sh_CM d) 2 ?_
      exact x_M_scan_l120 N hd hR (f_M_scan_b155 N) (fun z0 z1 z2 {e4} {e5} h H => x_M_scan_b155 N hd hR z0 z1 z2 h H) N l1 l1 (0 : Int32) h H
  · replace H := sh_okF c H
    show wq_216 d Q 10 [oR 12 0, oI l1, oI l1, _, _, _] [] (sh_E h)
    refine ai_WP_steps mc_216 (sh_CM d) 2 ?_
    exact x_M_scan_l12 N hd hR (f_M_scan_b51 N) (fun z0 z1 z2 {e4} {e5} h H => x_M_scan_b51 N hd hR z0 z1 z2 h H) N l1 l1 (0 : Int64) h H
def f_M_scanAll_b51 (N : Nat)  (k9 : Int32 → Int32 → sh_H → Option sh_H) (l1 : Int32) (l2 : Int32) (h : sh_H) : Option sh_H := k9 (l1 + (1 : Int32)) l2 h
theorem x_M_scanAll_b51 (N : Nat) {d : Nat} (hd : 3 ≤ d) {Q : ai_Q} {R : sh_H → Prop} (hR : ∀ h, R h → Q none (sh_E h))  (k9 : Int32 → Int32 → sh_H → Option sh_H) (hk9 : ∀ (l1 : Int32) (l2 : Int32) {d3 : Option ai_V} (h : sh_H), sh_ok (k9 l1 l2 h) R → wq_217 d Q 9 [oR 12 0, oI l1, oI l2, d3] [] (sh_E h)) (l1 : Int32) (l2 : Int32) {d3 : Option ai_V} (h : sh_H) (H : sh_ok (f_M_scanAll_b51 N k9 l1 l2 h) R) : wq_217 d Q 51 [oR 12 0, oI l1, oI l2, d3] [] (sh_E h) := by
  refine ai_WP_steps mc_217 (sh_CM d) 2 ?_
  exact hk9 (l1 + (1 : Int32)) l2 h H
def f_M_scanAll_b83 (N : Nat)  (k9 : Int32 → Int32 → sh_H → Option sh_H) (l1 : Int32) (s0 : Int32) (h : sh_H) : Option sh_H := k9 l1 s0 h
theorem x_M_scanAll_b83 (N : Nat) {d : Nat} (hd : 3 ≤ d) {Q : ai_Q} {R : sh_H → Prop} (hR : ∀ h, R h → Q none (sh_E h))  (k9 : Int32 → Int32 → sh_H → Option sh_H) (hk9 : ∀ (l1 : Int32) (l2 : Int32) {d3 : Option ai_V} (h : sh_H), sh_ok (k9 l1 l2 h) R → wq_217 d Q 9 [oR 12 0, oI l1, oI l2, d3] [] (sh_E h)) (l1 : Int32) (s0 : Int32) {d2 d3 : Option ai_V} (h : sh_H) (H : sh_ok (f_M_scanAll_b83 N k9 l1 s0 h) R) : wq_217 d Q 83 [oR 12 0, oI l1, d2, d3] [aI s0] (sh_E h) := by
  refine ai_WP_steps mc_217 (sh_CM d) 2 ?_
  exact hk9 l1 s0 h H
def f_M_scanAll_c9 (N : Nat)  (k87 : Int32 → sh_H → Option sh_H) (k9 : Int32 → Int32 → sh_H → Option sh_H) (l1 : Int32) (l2 : Int32) (h : sh_H) : Option sh_H := (if l1 < (h.1 12 0 0) then (if l2 = 0 then k87 l2 h else (Option.bind (f_M_byteAt l1 h) (fun v1 => (if v1 = (32 : Int32) then f_M_scanAll_b51 N k9 l1 l2 h else (if v1 = (9 : Int32) then f_M_scanAll_b51 N k9 l1 l2 h else (if v1 = (10 : Int32) then f_M_scanAll_b51 N k9 l1 l2 h else (if v1 = (13 : Int32) then f_M_scanAll_b51 N k9 l1 l2 h else (sh_b2 (f_M_scan N l1 h) (fun v2 h3 => (if ai_in ((h3.1 12 0 2) - (1 : Int32)) 2001 then (if (h3.1 13 43 ((h3.1 12 0 2) - (1 : Int32)).toNatClampNeg) = (5 : Int32) then f_M_scanAll_b83 N k9 v2 (0 : Int32) h3 else f_M_scanAll_b83 N k9 v2 (1 : Int32) h3) else none)))))))))) else k87 l2 h)
def f_M_scanAll_l9 (N : Nat)  (k87 : Int32 → sh_H → Option sh_H) (n : Nat) : Int32 → Int32 → sh_H → Option sh_H := Nat.rec (motive := fun _ => Int32 → Int32 → sh_H → Option sh_H) (fun _ _ _ => none) (fun _ k9 => f_M_scanAll_c9 N k87 k9) n
theorem x_M_scanAll_l9 (N : Nat) {d : Nat} (hd : 3 ≤ d) {Q : ai_Q} {R : sh_H → Prop} (hR : ∀ h, R h → Q none (sh_E h))  (k87 : Int32 → sh_H → Option sh_H) (hk87 : ∀ (l2 : Int32) {d1 d3 : Option ai_V} (h : sh_H), sh_ok (k87 l2 h) R → wq_217 d Q 87 [oR 12 0, d1, oI l2, d3] [] (sh_E h)) (n : Nat) : ∀ (l1 : Int32) (l2 : Int32) {d3 : Option ai_V} (h : sh_H), sh_ok (f_M_scanAll_l9 N k87 n l1 l2 h) R → wq_217 d Q 9 [oR 12 0, oI l1, oI l2, d3] [] (sh_E h) := by
  induction n with
  | zero => intro l1 l2 d3 h H; exact H.elim
  | succ n ih =>
    intro l1 l2 d3 h H
    have hk9 := @ih
    replace H : sh_ok (f_M_scanAll_c9 N k87 (f_M_scanAll_l9 N k87 n) l1 l2 h) R := H
    revert hk9 H
    generalize f_M_scanAll_l9 N k87 n = k9
    intro hk9 H
    refine ai_WP_steps mc_217 (sh_CM d) 4 (And.intro (fun c => ?_) (fun c => ?_))
    · replace H := sh_okT c H
      show wq_217 d Q 17 [oR 12 0, oI l1, oI l2, _] [] (sh_E h)
      refine ai_WP_steps mc_217 (sh_CM d) 2 (And.intro (fun c => ?_) (fun c => ?_))
      · replace H := sh_okT c H
        exact hk87 l2 h H
      · replace H := sh_okF c H
        show wq_217 d Q 21 [oR 12 0, oI l1, oI l2, _] [] (sh_E h)
        refine ai_WP_steps mc_217 (sh_CM d) 3 (And.intro (Nat.le_of_ble_eq_true rfl) (x_M_byteAt (Nat.le_trans (Nat.le_of_ble_eq_true rfl) hd) l1 h (sh_okB H) (fun v1 H => ?_)))
        show wq_217 d Q 26 [oR 12 0, oI l1, oI l2, _] [aI v1] (sh_E h)
        refine ai_WP_steps mc_217 (sh_CM d) 4 (And.intro (fun c => ?_) (fun c => ?_))
        · replace H := sh_okT c H
          exact x_M_scanAll_b51 N hd hR k9 hk9 l1 l2 h H
        · replace H := sh_okF c H
          show wq_217 d Q 33 [oR 12 0, oI l1, oI l2, oI v1] [] (sh_E h)
          refine ai_WP_steps mc_217 (sh_CM d) 3 (And.intro (fun c => ?_) (fun c => ?_))
          · replace H := sh_okT c H
            exact x_M_scanAll_b51 N hd hR k9 hk9 l1 l2 h H
          · replace H := sh_okF c H
            show wq_217 d Q 39 [oR 12 0, oI l1, oI l2, oI v1] [] (sh_E h)
            refine ai_WP_steps mc_217 (sh_CM d) 3 (And.intro (fun c => ?_) (fun c => ?_))
            · replace H := sh_okT c H
              exact x_M_scanAll_b51 N hd hR k9 hk9 l1 l2 h H
            · replace H := sh_okF c H
              show wq_217 d Q 45 [oR 12 0, oI l1, oI l2, oI v1] [] (sh_E h)
              refine ai_WP_steps mc_217 (sh_CM d) 3 (And.intro (fun c => ?_) (fun c => ?_))
              · replace H := sh_okT c H
                exact x_M_scanAll_b51 N hd hR k9 hk9 l1 l2 h H
              · replace H := sh_okF c H
                show wq_217 d Q 57 [oR 12 0, oI l1, oI l2, oI v1] [] (sh_E h)
                refine ai_WP_steps mc_217 (sh_CM d) 3 (And.intro (Nat.le_of_ble_eq_true rfl) (x_M_scan N (Nat.le_trans (Nat.le_of_ble_eq_true rfl) hd) l1 h (sh_okB H) (fun v2 h3 H => ?_)))
                show wq_217 d Q 62 [oR 12 0, oI l1, oI l2, oI v1] [aI v2] (sh_E h3)
                have c := sh_okG H
                replace H := sh_okH H
                refine ai_WP_steps mc_217 (sh_CM d) 8 (And.intro c ?_)
                show wq_217 d Q 74 [oR 12 0, oI v2, oI l2, oI v1] [aI (h3.1 13 43 ((h3.1 12 0 2) - (1 : Int32)).toNatClampNeg)] (sh_E h3)
                refine ai_WP_steps mc_217 (sh_CM d) 2 (And.intro (fun c => ?_) (fun c => ?_))
                · replace H := sh_okT c H
                  show wq_217 d Q 82 [oR 12 0, oI v2, oI l2, oI v1] [] (sh_E h3)
                  refine ai_WP_steps mc_217 (sh_CM d) 1 ?_
                  exact x_M_scanAll_b83 N hd hR k9 hk9 v2 (0 : Int32) h3 H
                · replace H := sh_okF c H
                  show wq_217 d Q 78 [oR 12 0, oI v2, oI l2, oI v1] [] (sh_E h3)
                  refine ai_WP_steps mc_217 (sh_CM d) 2 ?_
                  exact x_M_scanAll_b83 N hd hR k9 hk9 v2 (1 : Int32) h3 H
    · replace H := sh_okF c H
      exact hk87 l2 h H
def f_M_scanAll_b87 (N : Nat)   (l2 : Int32) (h : sh_H) : Option sh_H := (if l2 = 0 then (some h) else (Option.bind (f_M_token (4 : Int32) (h.1 12 0 0) (0 : Int32) h) (fun h4 => (some h4))))
theorem x_M_scanAll_b87 (N : Nat) {d : Nat} (hd : 3 ≤ d) {Q : ai_Q} {R : sh_H → Prop} (hR : ∀ h, R h → Q none (sh_E h))   (l2 : Int32) {d1 d3 : Option ai_V} (h : sh_H) (H : sh_ok (f_M_scanAll_b87 N l2 h) R) : wq_217 d Q 87 [oR 12 0, d1, oI l2, d3] [] (sh_E h) := by
  refine ai_WP_steps mc_217 (sh_CM d) 2 (And.intro (fun c => ?_) (fun c => ?_))
  · replace H := sh_okT c H
    show wq_217 d Q 101 [oR 12 0, _, oI l2, _] [] (sh_E h)
    exact ai_WP_steps mc_217 (sh_CM d) 1 (hR h H)
  · replace H := sh_okF c H
    show wq_217 d Q 91 [oR 12 0, _, oI l2, _] [] (sh_E h)
    refine ai_WP_steps mc_217 (sh_CM d) 6 (And.intro (Nat.le_of_ble_eq_true rfl) (x_M_token (Nat.le_trans (Nat.le_of_ble_eq_true rfl) hd) (4 : Int32) (h.1 12 0 0) (0 : Int32) h (sh_okB H) (fun h4 H => ?_)))
    show wq_217 d Q 101 [oR 12 0, _, oI l2, _] [] (sh_E h4)
    exact ai_WP_steps mc_217 (sh_CM d) 1 (hR h4 H)
def f_M_scanAll (N : Nat)   (h : sh_H) : Option sh_H := (sh_let (sh_pI h 12 0 2 (0 : Int32)) (fun h5 => f_M_scanAll_l9 N (f_M_scanAll_b87 N) N (0 : Int32) (1 : Int32) h5))
theorem x_M_scanAll (N : Nat) {d : Nat} (hd : 4 ≤ d)  (h : sh_H) {Q : ai_Q} {R : sh_H → Prop} (H : sh_ok (f_M_scanAll N h) R) (hR : ∀ h, R h → Q none (sh_E h)) : ai_Ex sh_T d 217 [aR 12 0] (sh_E h) Q := by
  obtain ⟨d, rfl⟩ : ∃ e, d = e + 1 := ⟨d - 1, by omega⟩
  replace hd : 3 ≤ d := by omega
  refine And.intro (Nat.le_of_ble_eq_true rfl) ?_
  show wq_217 d Q 0 [oR 12 0, none, none, none] [] (sh_E h)
  refine ai_WP_steps mc_217 (sh_CM d) 3 (And.intro trivial ?_)
  show wq_217 d Q 5 [oR 12 0, _, _, _] [] (sh_E (sh_pI h 12 0 2 (0 : Int32)))
  replace H := sh_okL H
  generalize sh_pI h 12 0 2 (0 : Int32) = h5 at H ⊢
  refine ai_WP_steps mc_217 (sh_CM d) 4 ?_
  exact x_M_scanAll_l9 N hd hR (f_M_scanAll_b87 N) (fun z0 {e1} {e3} h H => x_M_scanAll_b87 N hd hR z0 h H) N (0 : Int32) (1 : Int32) h5 H
def f_M_wrong  (l1 : Int32) (h : sh_H) : Option (Int32 × sh_H) := (sh_let (sh_pI h 12 0 8 l1) (fun h1 => (if ai_in (h1.1 12 0 7) 2001 then (sh_let (sh_pI h1 12 0 9 (h1.1 13 44 (h1.1 12 0 7).toNatClampNeg)) (fun h2 => (some ((ai_nar 1 (0 : Int32)), h2)))) else none)))
theorem x_M_wrong {d : Nat} (hd : 1 ≤ d) (l1 : Int32) (h : sh_H) {Q : ai_Q} {R : Int32 × sh_H → Prop} (H : sh_ok (f_M_wrong l1 h) R) (hR : ∀ r h, R (r, h) → Q (some (aI r)) (sh_E h)) : ai_Ex sh_T d 218 [aR 12 0, aI l1] (sh_E h) Q := by
  obtain ⟨d, rfl⟩ : ∃ e, d = e + 1 := ⟨d - 1, by omega⟩
  replace hd : 0 ≤ d := by omega
  refine And.intro (Nat.le_of_ble_eq_true rfl) ?_
  show wq_218 d Q 0 [oR 12 0, oI l1] [] (sh_E h)
  refine ai_WP_steps mc_218 (sh_CM d) 3 (And.intro trivial ?_)
  show wq_218 d Q 5 [oR 12 0, oI l1] [] (sh_E (sh_pI h 12 0 8 l1))
  replace H := sh_okL H
  generalize sh_pI h 12 0 8 l1 = h1 at H ⊢
  have c := sh_okG H
  replace H := sh_okH H
  refine ai_WP_steps mc_218 (sh_CM d) 6 (And.intro c ?_)
  show wq_218 d Q 15 [oR 12 0, oI l1] [aI (h1.1 13 44 (h1.1 12 0 7).toNatClampNeg), aR 12 0] (sh_E h1)
  refine ai_WP_steps mc_218 (sh_CM d) 1 (And.intro trivial ?_)
  show wq_218 d Q 18 [oR 12 0, oI l1] [] (sh_E (sh_pI h1 12 0 9 (h1.1 13 44 (h1.1 12 0 7).toNatClampNeg)))
  replace H := sh_okL H
  generalize sh_pI h1 12 0 9 (h1.1 13 44 (h1.1 12 0 7).toNatClampNeg) = h2 at H ⊢
  exact ai_WP_steps mc_218 (sh_CM d) 2 (hR (ai_nar 1 (0 : Int32)) h2 H)
def f_M_tells_b39   (l1 : Int32) (l3 : Int32) (h : sh_H) : Option sh_H := (sh_let (sh_pI h 12 0 10 l1) (fun h1 => (sh_let (sh_pI h1 12 0 11 l3) (fun h2 => (some h2)))))
theorem x_M_tells_b39 {d : Nat} (hd : 0 ≤ d) {Q : ai_Q} {R : sh_H → Prop} (hR : ∀ h, R h → Q none (sh_E h))   (l1 : Int32) (l3 : Int32) {d2 : Option ai_V} (h : sh_H) (H : sh_ok (f_M_tells_b39 l1 l3 h) R) : wq_219 d Q 39 [oR 12 0, oI l1, d2, oI l3] [] (sh_E h) := by
  refine ai_WP_steps mc_219 (sh_CM d) 3 (And.intro trivial ?_)
  show wq_219 d Q 44 [oR 12 0, oI l1, _, oI l3] [] (sh_E (sh_pI h 12 0 10 l1))
  replace H := sh_okL H
  generalize sh_pI h 12 0 10 l1 = h1 at H ⊢
  refine ai_WP_steps mc_219 (sh_CM d) 3 (And.intro trivial ?_)
  show wq_219 d Q 49 [oR 12 0, oI l1, _, oI l3] [] (sh_E (sh_pI h1 12 0 11 l3))
  replace H := sh_okL H
  generalize sh_pI h1 12 0 11 l3 = h2 at H ⊢
  exact ai_WP_steps mc_219 (sh_CM d) 1 (hR h2 H)
def f_M_tells  (l1 : Int32) (l2 : Int32) (h : sh_H) : Option sh_H := (if ai_in l2 2001 then (if (h.1 12 0 10) = 0 then f_M_tells_b39 l1 (h.1 13 44 l2.toNatClampNeg) h else (if (h.1 12 0 11) < (h.1 13 44 l2.toNatClampNeg) then (some h) else (if (h.1 13 44 l2.toNatClampNeg) = (h.1 12 0 11) then (if l1 < (h.1 12 0 10) then f_M_tells_b39 l1 (h.1 13 44 l2.toNatClampNeg) h else (some h)) else f_M_tells_b39 l1 (h.1 13 44 l2.toNatClampNeg) h))) else none)
theorem x_M_tells {d : Nat} (hd : 1 ≤ d) (l1 : Int32) (l2 : Int32) (h : sh_H) {Q : ai_Q} {R : sh_H → Prop} (H : sh_ok (f_M_tells l1 l2 h) R) (hR : ∀ h, R h → Q none (sh_E h)) : ai_Ex sh_T d 219 [aR 12 0, aI l1, aI l2] (sh_E h) Q := by
  obtain ⟨d, rfl⟩ : ∃ e, d = e + 1 := ⟨d - 1, by omega⟩
  replace hd : 0 ≤ d := by omega
  refine And.intro (Nat.le_of_ble_eq_true rfl) ?_
  show wq_219 d Q 0 [oR 12 0, oI l1, oI l2, none] [] (sh_E h)
  have c := sh_okG H
  replace H := sh_okH H
  refine ai_WP_steps mc_219 (sh_CM d) 4 (And.intro c ?_)
  show wq_219 d Q 6 [oR 12 0, oI l1, oI l2, _] [aI (h.1 13 44 l2.toNatClampNeg)] (sh_E h)
  refine ai_WP_steps mc_219 (sh_CM d) 4 (And.intro (fun c => ?_) (fun c => ?_))
  · replace H := sh_okT c H
    exact x_M_tells_b39 hd hR l1 (h.1 13 44 l2.toNatClampNeg) h H
  · replace H := sh_okF c H
    show wq_219 d Q 14 [oR 12 0, oI l1, _, oI (h.1 13 44 l2.toNatClampNeg)] [] (sh_E h)
    refine ai_WP_steps mc_219 (sh_CM d) 4 (And.intro (fun c => ?_) (fun c => ?_))
    · replace H := sh_okT c H
      show wq_219 d Q 38 [oR 12 0, oI l1, _, oI (h.1 13 44 l2.toNatClampNeg)] [] (sh_E h)
      exact ai_WP_steps mc_219 (sh_CM d) 1 (hR h H)
    · replace H := sh_okF c H
      show wq_219 d Q 22 [oR 12 0, oI l1, _, oI (h.1 13 44 l2.toNatClampNeg)] [] (sh_E h)
      refine ai_WP_steps mc_219 (sh_CM d) 4 (And.intro (fun c => ?_) (fun c => ?_))
      · replace H := sh_okT c H
        show wq_219 d Q 30 [oR 12 0, oI l1, _, oI (h.1 13 44 l2.toNatClampNeg)] [] (sh_E h)
        refine ai_WP_steps mc_219 (sh_CM d) 4 (And.intro (fun c => ?_) (fun c => ?_))
        · replace H := sh_okT c H
          exact x_M_tells_b39 hd hR l1 (h.1 13 44 l2.toNatClampNeg) h H
        · replace H := sh_okF c H
          show wq_219 d Q 38 [oR 12 0, oI l1, _, oI (h.1 13 44 l2.toNatClampNeg)] [] (sh_E h)
          exact ai_WP_steps mc_219 (sh_CM d) 1 (hR h H)
      · replace H := sh_okF c H
        exact x_M_tells_b39 hd hR l1 (h.1 13 44 l2.toNatClampNeg) h H
def f_M_pass   (h : sh_H) : Option (Int32 × sh_H) := (if (h.1 12 0 7) < (400 : Int32) then (sh_let (sh_pI h 12 0 7 ((h.1 12 0 7) + (1 : Int32))) (fun h1 => (some ((ai_nar 1 (1 : Int32)), h1)))) else (sh_b2 (f_M_wrong (2 : Int32) h) (fun v2 h3 => (some ((ai_nar 1 v2), h3)))))
theorem x_M_pass {d : Nat} (hd : 2 ≤ d)  (h : sh_H) {Q : ai_Q} {R : Int32 × sh_H → Prop} (H : sh_ok (f_M_pass h) R) (hR : ∀ r h, R (r, h) → Q (some (aI r)) (sh_E h)) : ai_Ex sh_T d 220 [aR 12 0] (sh_E h) Q := by
  obtain ⟨d, rfl⟩ : ∃ e, d = e + 1 := ⟨d - 1, by omega⟩
  replace hd : 1 ≤ d := by omega
  refine And.intro (Nat.le_of_ble_eq_true rfl) ?_
  show wq_220 d Q 0 [oR 12 0] [] (sh_E h)
  refine ai_WP_steps mc_220 (sh_CM d) 4 (And.intro (fun c => ?_) (fun c => ?_))
  · replace H := sh_okT c H
    show wq_220 d Q 16 [oR 12 0] [] (sh_E h)
    refine ai_WP_steps mc_220 (sh_CM d) 6 (And.intro trivial ?_)
    show wq_220 d Q 26 [oR 12 0] [] (sh_E (sh_pI h 12 0 7 ((h.1 12 0 7) + (1 : Int32))))
    replace H := sh_okL H
    generalize sh_pI h 12 0 7 ((h.1 12 0 7) + (1 : Int32)) = h1 at H ⊢
    exact ai_WP_steps mc_220 (sh_CM d) 2 (hR (ai_nar 1 (1 : Int32)) h1 H)
  · replace H := sh_okF c H
    show wq_220 d Q 10 [oR 12 0] [] (sh_E h)
    refine ai_WP_steps mc_220 (sh_CM d) 3 (And.intro (Nat.le_of_ble_eq_true rfl) (x_M_wrong (Nat.le_trans (Nat.le_of_ble_eq_true rfl) hd) (2 : Int32) h (sh_okB H) (fun v2 h3 H => ?_)))
    show wq_220 d Q 15 [oR 12 0] [aI v2] (sh_E h3)
    exact ai_WP_steps mc_220 (sh_CM d) 1 (hR (ai_nar 1 v2) h3 H)
def f_M_isSign_b30    (h : sh_H) : Option Int32 := (some (ai_nar 1 (0 : Int32)))
theorem x_M_isSign_b30 {d : Nat} (hd : 0 ≤ d) (h : sh_H) {Q : ai_Q} {R : Int32 → Prop} (hR : ∀ r, R r → Q (some (aI r)) (sh_E h))    {d0 d1 : Option ai_V} (H : sh_ok (f_M_isSign_b30 h) R) : wq_221 d Q 30 [d0, d1] [] (sh_E h) := by
  exact ai_WP_steps mc_221 (sh_CM d) 2 (hR (ai_nar 1 (0 : Int32)) H)
def f_M_isSign  (l1 : Int32) (h : sh_H) : Option Int32 := (if ai_in (h.1 12 0 7) 2001 then (if (h.1 13 43 (h.1 12 0 7).toNatClampNeg) = (2 : Int32) then (if ai_in (h.1 12 0 7) 2001 then (if (h.1 13 45 (h.1 12 0 7).toNatClampNeg) = l1 then (some (ai_nar 1 (1 : Int32))) else f_M_isSign_b30 h) else none) else f_M_isSign_b30 h) else none)
theorem x_M_isSign {d : Nat} (hd : 1 ≤ d) (l1 : Int32) (h : sh_H) {Q : ai_Q} {R : Int32 → Prop} (H : sh_ok (f_M_isSign l1 h) R) (hR : ∀ r, R r → Q (some (aI r)) (sh_E h)) : ai_Ex sh_T d 221 [aR 12 0, aI l1] (sh_E h) Q := by
  obtain ⟨d, rfl⟩ : ∃ e, d = e + 1 := ⟨d - 1, by omega⟩
  replace hd : 0 ≤ d := by omega
  refine And.intro (Nat.le_of_ble_eq_true rfl) ?_
  show wq_221 d Q 0 [oR 12 0, oI l1] [] (sh_E h)
  have c := sh_okG H
  replace H := sh_okH H
  refine ai_WP_steps mc_221 (sh_CM d) 5 (And.intro c ?_)
  show wq_221 d Q 9 [oR 12 0, oI l1] [aI (h.1 13 43 (h.1 12 0 7).toNatClampNeg)] (sh_E h)
  refine ai_WP_steps mc_221 (sh_CM d) 2 (And.intro (fun c => ?_) (fun c => ?_))
  · replace H := sh_okT c H
    show wq_221 d Q 13 [oR 12 0, oI l1] [] (sh_E h)
    have c := sh_okG H
    replace H := sh_okH H
    refine ai_WP_steps mc_221 (sh_CM d) 5 (And.intro c ?_)
    show wq_221 d Q 22 [oR 12 0, oI l1] [aI (h.1 13 45 (h.1 12 0 7).toNatClampNeg)] (sh_E h)
    refine ai_WP_steps mc_221 (sh_CM d) 2 (And.intro (fun c => ?_) (fun c => ?_))
    · replace H := sh_okT c H
      show wq_221 d Q 26 [oR 12 0, oI l1] [] (sh_E h)
      exact ai_WP_steps mc_221 (sh_CM d) 3 (hR (ai_nar 1 (1 : Int32)) H)
    · replace H := sh_okF c H
      exact x_M_isSign_b30 hd h hR H
  · replace H := sh_okF c H
    exact x_M_isSign_b30 hd h hR H
def f_M_isWord_b30    (h : sh_H) : Option Int32 := (some (ai_nar 1 (0 : Int32)))
theorem x_M_isWord_b30 {d : Nat} (hd : 0 ≤ d) (h : sh_H) {Q : ai_Q} {R : Int32 → Prop} (hR : ∀ r, R r → Q (some (aI r)) (sh_E h))    {d0 d1 : Option ai_V} (H : sh_ok (f_M_isWord_b30 h) R) : wq_222 d Q 30 [d0, d1] [] (sh_E h) := by
  exact ai_WP_steps mc_222 (sh_CM d) 2 (hR (ai_nar 1 (0 : Int32)) H)
def f_M_isWord  (l1 : Int32) (h : sh_H) : Option Int32 := (if ai_in (h.1 12 0 7) 2001 then (if (h.1 13 43 (h.1 12 0 7).toNatClampNeg) = (3 : Int32) then (if ai_in (h.1 12 0 7) 2001 then (if (h.1 13 45 (h.1 12 0 7).toNatClampNeg) = l1 then (some (ai_nar 1 (1 : Int32))) else f_M_isWord_b30 h) else none) else f_M_isWord_b30 h) else none)
theorem x_M_isWord {d : Nat} (hd : 1 ≤ d) (l1 : Int32) (h : sh_H) {Q : ai_Q} {R : Int32 → Prop} (H : sh_ok (f_M_isWord l1 h) R) (hR : ∀ r, R r → Q (some (aI r)) (sh_E h)) : ai_Ex sh_T d 222 [aR 12 0, aI l1] (sh_E h) Q := by
  obtain ⟨d, rfl⟩ : ∃ e, d = e + 1 := ⟨d - 1, by omega⟩
  replace hd : 0 ≤ d := by omega
  refine And.intro (Nat.le_of_ble_eq_true rfl) ?_
  show wq_222 d Q 0 [oR 12 0, oI l1] [] (sh_E h)
  have c := sh_okG H
  replace H := sh_okH H
  refine ai_WP_steps mc_222 (sh_CM d) 5 (And.intro c ?_)
  show wq_222 d Q 9 [oR 12 0, oI l1] [aI (h.1 13 43 (h.1 12 0 7).toNatClampNeg)] (sh_E h)
  refine ai_WP_steps mc_222 (sh_CM d) 2 (And.intro (fun c => ?_) (fun c => ?_))
  · replace H := sh_okT c H
    show wq_222 d Q 13 [oR 12 0, oI l1] [] (sh_E h)
    have c := sh_okG H
    replace H := sh_okH H
    refine ai_WP_steps mc_222 (sh_CM d) 5 (And.intro c ?_)
    show wq_222 d Q 22 [oR 12 0, oI l1] [aI (h.1 13 45 (h.1 12 0 7).toNatClampNeg)] (sh_E h)
    refine ai_WP_steps mc_222 (sh_CM d) 2 (And.intro (fun c => ?_) (fun c => ?_))
    · replace H := sh_okT c H
      show wq_222 d Q 26 [oR 12 0, oI l1] [] (sh_E h)
      exact ai_WP_steps mc_222 (sh_CM d) 3 (hR (ai_nar 1 (1 : Int32)) H)
    · replace H := sh_okF c H
      exact x_M_isWord_b30 hd h hR H
  · replace H := sh_okF c H
    exact x_M_isWord_b30 hd h hR H
def f_M_takes  (l1 : Int32) (h : sh_H) : Option (Int32 × sh_H) := (if ai_in (h.1 12 0 7) 2001 then (if (h.1 13 43 (h.1 12 0 7).toNatClampNeg) = l1 then (sh_b2 (f_M_pass h) (fun v1 h2 => (some ((ai_nar 1 v1), h2)))) else (sh_b2 (f_M_wrong (1 : Int32) h) (fun v3 h4 => (some ((ai_nar 1 v3), h4))))) else none)
theorem x_M_takes {d : Nat} (hd : 3 ≤ d) (l1 : Int32) (h : sh_H) {Q : ai_Q} {R : Int32 × sh_H → Prop} (H : sh_ok (f_M_takes l1 h) R) (hR : ∀ r h, R (r, h) → Q (some (aI r)) (sh_E h)) : ai_Ex sh_T d 223 [aR 12 0, aI l1] (sh_E h) Q := by
  obtain ⟨d, rfl⟩ : ∃ e, d = e + 1 := ⟨d - 1, by omega⟩
  replace hd : 2 ≤ d := by omega
  refine And.intro (Nat.le_of_ble_eq_true rfl) ?_
  show wq_223 d Q 0 [oR 12 0, oI l1] [] (sh_E h)
  have c := sh_okG H
  replace H := sh_okH H
  refine ai_WP_steps mc_223 (sh_CM d) 5 (And.intro c ?_)
  show wq_223 d Q 9 [oR 12 0, oI l1] [aI (h.1 13 43 (h.1 12 0 7).toNatClampNeg)] (sh_E h)
  refine ai_WP_steps mc_223 (sh_CM d) 2 (And.intro (fun c => ?_) (fun c => ?_))
  · replace H := sh_okT c H
    show wq_223 d Q 13 [oR 12 0, oI l1] [] (sh_E h)
    refine ai_WP_steps mc_223 (sh_CM d) 2 (And.intro (Nat.le_of_ble_eq_true rfl) (x_M_pass (Nat.le_trans (Nat.le_of_ble_eq_true rfl) hd) h (sh_okB H) (fun v1 h2 H => ?_)))
    show wq_223 d Q 17 [oR 12 0, oI l1] [aI v1] (sh_E h2)
    exact ai_WP_steps mc_223 (sh_CM d) 2 (hR (ai_nar 1 v1) h2 H)
  · replace H := sh_okF c H
    show wq_223 d Q 20 [oR 12 0, oI l1] [] (sh_E h)
    refine ai_WP_steps mc_223 (sh_CM d) 3 (And.intro (Nat.le_of_ble_eq_true rfl) (x_M_wrong (Nat.le_trans (Nat.le_of_ble_eq_true rfl) hd) (1 : Int32) h (sh_okB H) (fun v3 h4 H => ?_)))
    show wq_223 d Q 25 [oR 12 0, oI l1] [aI v3] (sh_E h4)
    exact ai_WP_steps mc_223 (sh_CM d) 1 (hR (ai_nar 1 v3) h4 H)
def f_M_takesInt_b41   (l3 : Int32) (h : sh_H) : Option (Int32 × sh_H) := (Option.bind (f_M_tells (5 : Int32) l3 h) (fun h1 => (some ((ai_nar 1 (1 : Int32)), h1))))
theorem x_M_takesInt_b41 {d : Nat} (hd : 3 ≤ d) {Q : ai_Q} {R : Int32 × sh_H → Prop} (hR : ∀ r h, R (r, h) → Q (some (aI r)) (sh_E h))   (l3 : Int32) {d1 d2 : Option ai_V} (h : sh_H) (H : sh_ok (f_M_takesInt_b41 l3 h) R) : wq_224 d Q 41 [oR 12 0, d1, d2, oI l3] [] (sh_E h) := by
  refine ai_WP_steps mc_224 (sh_CM d) 4 (And.intro (Nat.le_of_ble_eq_true rfl) (x_M_tells (Nat.le_trans (Nat.le_of_ble_eq_true rfl) hd) (5 : Int32) l3 h (sh_okB H) (fun h1 H => ?_)))
  show wq_224 d Q 47 [oR 12 0, _, _, oI l3] [] (sh_E h1)
  exact ai_WP_steps mc_224 (sh_CM d) 2 (hR (ai_nar 1 (1 : Int32)) h1 H)
def f_M_takesInt  (l1 : Int32) (l2 : Int32) (h : sh_H) : Option (Int32 × sh_H) := (sh_b2 (f_M_takes (1 : Int32) h) (fun v2 h3 => (if v2 = 0 then (some ((ai_nar 1 (0 : Int32)), h3)) else (if ai_in (h.1 12 0 7) 2001 then (sh_let (sh_pI h3 12 0 19 (h3.1 13 45 (h.1 12 0 7).toNatClampNeg)) (fun h4 => (if (h4.1 12 0 19) < l1 then f_M_takesInt_b41 (h.1 12 0 7) h4 else (if l2 < (h4.1 12 0 19) then f_M_takesInt_b41 (h.1 12 0 7) h4 else (some ((ai_nar 1 (1 : Int32)), h4)))))) else none))))
theorem x_M_takesInt {d : Nat} (hd : 4 ≤ d) (l1 : Int32) (l2 : Int32) (h : sh_H) {Q : ai_Q} {R : Int32 × sh_H → Prop} (H : sh_ok (f_M_takesInt l1 l2 h) R) (hR : ∀ r h, R (r, h) → Q (some (aI r)) (sh_E h)) : ai_Ex sh_T d 224 [aR 12 0, aI l1, aI l2] (sh_E h) Q := by
  obtain ⟨d, rfl⟩ : ∃ e, d = e + 1 := ⟨d - 1, by omega⟩
  replace hd : 3 ≤ d := by omega
  refine And.intro (Nat.le_of_ble_eq_true rfl) ?_
  show wq_224 d Q 0 [oR 12 0, oI l1, oI l2, none] [] (sh_E h)
  refine ai_WP_steps mc_224 (sh_CM d) 6 (And.intro (Nat.le_of_ble_eq_true rfl) (x_M_takes (Nat.le_trans (Nat.le_of_ble_eq_true rfl) hd) (1 : Int32) h (sh_okB H) (fun v2 h3 H => ?_)))
  show wq_224 d Q 10 [oR 12 0, oI l1, oI l2, oI (h.1 12 0 7)] [aI v2] (sh_E h3)
  refine ai_WP_steps mc_224 (sh_CM d) 1 (And.intro (fun c => ?_) (fun c => ?_))
  · replace H := sh_okT c H
    show wq_224 d Q 13 [oR 12 0, oI l1, oI l2, oI (h.1 12 0 7)] [] (sh_E h3)
    exact ai_WP_steps mc_224 (sh_CM d) 2 (hR (ai_nar 1 (0 : Int32)) h3 H)
  · replace H := sh_okF c H
    show wq_224 d Q 15 [oR 12 0, oI l1, oI l2, oI (h.1 12 0 7)] [] (sh_E h3)
    have c := sh_okG H
    replace H := sh_okH H
    refine ai_WP_steps mc_224 (sh_CM d) 5 (And.intro c ?_)
    show wq_224 d Q 22 [oR 12 0, oI l1, oI l2, oI (h.1 12 0 7)] [aI (h3.1 13 45 (h.1 12 0 7).toNatClampNeg), aR 12 0] (sh_E h3)
    refine ai_WP_steps mc_224 (sh_CM d) 1 (And.intro trivial ?_)
    show wq_224 d Q 25 [oR 12 0, oI l1, oI l2, oI (h.1 12 0 7)] [] (sh_E (sh_pI h3 12 0 19 (h3.1 13 45 (h.1 12 0 7).toNatClampNeg)))
    replace H := sh_okL H
    generalize sh_pI h3 12 0 19 (h3.1 13 45 (h.1 12 0 7).toNatClampNeg) = h4 at H ⊢
    refine ai_WP_steps mc_224 (sh_CM d) 4 (And.intro (fun c => ?_) (fun c => ?_))
    · replace H := sh_okT c H
      exact x_M_takesInt_b41 hd hR (h.1 12 0 7) h4 H
    · replace H := sh_okF c H
      show wq_224 d Q 33 [oR 12 0, oI l1, oI l2, oI (h.1 12 0 7)] [] (sh_E h4)
      refine ai_WP_steps mc_224 (sh_CM d) 4 (And.intro (fun c => ?_) (fun c => ?_))
      · replace H := sh_okT c H
        exact x_M_takesInt_b41 hd hR (h.1 12 0 7) h4 H
      · replace H := sh_okF c H
        show wq_224 d Q 47 [oR 12 0, oI l1, oI l2, oI (h.1 12 0 7)] [] (sh_E h4)
        exact ai_WP_steps mc_224 (sh_CM d) 2 (hR (ai_nar 1 (1 : Int32)) h4 H)
def f_M_told  (l1 : Int32) (h : sh_H) : Option Int32 := (if ai_in ((2000 : Int32) + l1) 8000 then (some (h.1 13 46 ((2000 : Int32) + l1).toNatClampNeg)) else none)
theorem x_M_told {d : Nat} (hd : 1 ≤ d) (l1 : Int32) (h : sh_H) {Q : ai_Q} {R : Int32 → Prop} (H : sh_ok (f_M_told l1 h) R) (hR : ∀ r, R r → Q (some (aI r)) (sh_E h)) : ai_Ex sh_T d 225 [aR 12 0, aI l1] (sh_E h) Q := by
  obtain ⟨d, rfl⟩ : ∃ e, d = e + 1 := ⟨d - 1, by omega⟩
  replace hd : 0 ≤ d := by omega
  refine And.intro (Nat.le_of_ble_eq_true rfl) ?_
  show wq_225 d Q 0 [oR 12 0, oI l1] [] (sh_E h)
  have c := sh_okG H
  replace H := sh_okH H
  refine ai_WP_steps mc_225 (sh_CM d) 6 (And.intro c ?_)
  show wq_225 d Q 10 [oR 12 0, oI l1] [aI (h.1 13 46 ((2000 : Int32) + l1).toNatClampNeg)] (sh_E h)
  exact ai_WP_steps mc_225 (sh_CM d) 1 (hR (h.1 13 46 ((2000 : Int32) + l1).toNatClampNeg) H)
def f_M_tell  (l1 : Int32) (l2 : Int32) (h : sh_H) : Option sh_H := (if ai_in ((2000 : Int32) + l1) 8000 then (sh_let (sh_pI h 13 46 ((2000 : Int32) + l1).toNatClampNeg l2) (fun h1 => (some h1))) else none)
theorem x_M_tell {d : Nat} (hd : 1 ≤ d) (l1 : Int32) (l2 : Int32) (h : sh_H) {Q : ai_Q} {R : sh_H → Prop} (H : sh_ok (f_M_tell l1 l2 h) R) (hR : ∀ h, R h → Q none (sh_E h)) : ai_Ex sh_T d 226 [aR 12 0, aI l1, aI l2] (sh_E h) Q := by
  obtain ⟨d, rfl⟩ : ∃ e, d = e + 1 := ⟨d - 1, by omega⟩
  replace hd : 0 ≤ d := by omega
  refine And.intro (Nat.le_of_ble_eq_true rfl) ?_
  show wq_226 d Q 0 [oR 12 0, oI l1, oI l2] [] (sh_E h)
  have c := sh_okG H
  replace H := sh_okH H
  refine ai_WP_steps mc_226 (sh_CM d) 7 (And.intro c ?_)
  show wq_226 d Q 11 [oR 12 0, oI l1, oI l2] [] (sh_E (sh_pI h 13 46 ((2000 : Int32) + l1).toNatClampNeg l2))
  replace H := sh_okL H
  generalize sh_pI h 13 46 ((2000 : Int32) + l1).toNatClampNeg l2 = h1 at H ⊢
  exact ai_WP_steps mc_226 (sh_CM d) 1 (hR h1 H)
def f_M_emit  (l1 : Int32) (l2 : Int32) (h : sh_H) : Option sh_H := (Option.bind (f_M_told (10 : Int32) h) (fun v1 => (Option.bind (f_M_tell ((1000 : Int32) + v1) l1 h) (fun h2 => (Option.bind (f_M_told (10 : Int32) h2) (fun v3 => (Option.bind (f_M_tell ((1500 : Int32) + v3) l2 h2) (fun h4 => (Option.bind (f_M_told (10 : Int32) h4) (fun v5 => (Option.bind (f_M_tell (10 : Int32) (v5 + (1 : Int32)) h4) (fun h6 => (some h6)))))))))))))
theorem x_M_emit {d : Nat} (hd : 2 ≤ d) (l1 : Int32) (l2 : Int32) (h : sh_H) {Q : ai_Q} {R : sh_H → Prop} (H : sh_ok (f_M_emit l1 l2 h) R) (hR : ∀ h, R h → Q none (sh_E h)) : ai_Ex sh_T d 227 [aR 12 0, aI l1, aI l2] (sh_E h) Q := by
  obtain ⟨d, rfl⟩ : ∃ e, d = e + 1 := ⟨d - 1, by omega⟩
  replace hd : 1 ≤ d := by omega
  refine And.intro (Nat.le_of_ble_eq_true rfl) ?_
  show wq_227 d Q 0 [oR 12 0, oI l1, oI l2] [] (sh_E h)
  refine ai_WP_steps mc_227 (sh_CM d) 5 (And.intro (Nat.le_of_ble_eq_true rfl) (x_M_told (Nat.le_trans (Nat.le_of_ble_eq_true rfl) hd) (10 : Int32) h (sh_okB H) (fun v1 H => ?_)))
  show wq_227 d Q 10 [oR 12 0, oI l1, oI l2] [aI v1, aI (1000 : Int32), aR 12 0] (sh_E h)
  refine ai_WP_steps mc_227 (sh_CM d) 3 (And.intro (Nat.le_of_ble_eq_true rfl) (x_M_tell (Nat.le_trans (Nat.le_of_ble_eq_true rfl) hd) ((1000 : Int32) + v1) l1 h (sh_okB H) (fun h2 H => ?_)))
  show wq_227 d Q 15 [oR 12 0, oI l1, oI l2] [] (sh_E h2)
  refine ai_WP_steps mc_227 (sh_CM d) 5 (And.intro (Nat.le_of_ble_eq_true rfl) (x_M_told (Nat.le_trans (Nat.le_of_ble_eq_true rfl) hd) (10 : Int32) h2 (sh_okB H) (fun v3 H => ?_)))
  show wq_227 d Q 25 [oR 12 0, oI l1, oI l2] [aI v3, aI (1500 : Int32), aR 12 0] (sh_E h2)
  refine ai_WP_steps mc_227 (sh_CM d) 3 (And.intro (Nat.le_of_ble_eq_true rfl) (x_M_tell (Nat.le_trans (Nat.le_of_ble_eq_true rfl) hd) ((1500 : Int32) + v3) l2 h2 (sh_okB H) (fun h4 H => ?_)))
  show wq_227 d Q 30 [oR 12 0, oI l1, oI l2] [] (sh_E h4)
  refine ai_WP_steps mc_227 (sh_CM d) 5 (And.intro (Nat.le_of_ble_eq_true rfl) (x_M_told (Nat.le_trans (Nat.le_of_ble_eq_true rfl) hd) (10 : Int32) h4 (sh_okB H) (fun v5 H => ?_)))
  show wq_227 d Q 39 [oR 12 0, oI l1, oI l2] [aI v5, aI (10 : Int32), aR 12 0] (sh_E h4)
  refine ai_WP_steps mc_227 (sh_CM d) 3 (And.intro (Nat.le_of_ble_eq_true rfl) (x_M_tell (Nat.le_trans (Nat.le_of_ble_eq_true rfl) hd) (10 : Int32) (v5 + (1 : Int32)) h4 (sh_okB H) (fun h6 H => ?_)))
  show wq_227 d Q 44 [oR 12 0, oI l1, oI l2] [] (sh_E h6)
  exact ai_WP_steps mc_227 (sh_CM d) 1 (hR h6 H)
def f_M_rank_b11    (h : sh_H) : Option Int32 := (some (0 : Int32))
theorem x_M_rank_b11 {d : Nat} (hd : 0 ≤ d) (h : sh_H) {Q : ai_Q} {R : Int32 → Prop} (hR : ∀ r, R r → Q (some (aI r)) (sh_E h))    {d0 : Option ai_V} (H : sh_ok (f_M_rank_b11 h) R) : wq_228 d Q 11 [d0] [] (sh_E h) := by
  exact ai_WP_steps mc_228 (sh_CM d) 3 (hR (0 : Int32) H)
def f_M_rank  (l0 : Int32) (h : sh_H) : Option Int32 := (if (9 : Int32) < l0 then f_M_rank_b11 h else (if l0 < (2 : Int32) then f_M_rank_b11 h else (if (3 : Int32) < l0 then (some (2 : Int32)) else (some (1 : Int32)))))
theorem x_M_rank {d : Nat} (hd : 1 ≤ d) (l0 : Int32) (h : sh_H) {Q : ai_Q} {R : Int32 → Prop} (H : sh_ok (f_M_rank l0 h) R) (hR : ∀ r, R r → Q (some (aI r)) (sh_E h)) : ai_Ex sh_T d 228 [aI l0] (sh_E h) Q := by
  obtain ⟨d, rfl⟩ : ∃ e, d = e + 1 := ⟨d - 1, by omega⟩
  replace hd : 0 ≤ d := by omega
  refine And.intro (Nat.le_of_ble_eq_true rfl) ?_
  show wq_228 d Q 0 [oI l0] [] (sh_E h)
  refine ai_WP_steps mc_228 (sh_CM d) 3 (And.intro (fun c => ?_) (fun c => ?_))
  · replace H := sh_okT c H
    exact x_M_rank_b11 hd h hR H
  · replace H := sh_okF c H
    show wq_228 d Q 6 [oI l0] [] (sh_E h)
    refine ai_WP_steps mc_228 (sh_CM d) 3 (And.intro (fun c => ?_) (fun c => ?_))
    · replace H := sh_okT c H
      exact x_M_rank_b11 hd h hR H
    · replace H := sh_okF c H
      show wq_228 d Q 15 [oI l0] [] (sh_E h)
      refine ai_WP_steps mc_228 (sh_CM d) 3 (And.intro (fun c => ?_) (fun c => ?_))
      · replace H := sh_okT c H
        show wq_228 d Q 20 [oI l0] [] (sh_E h)
        exact ai_WP_steps mc_228 (sh_CM d) 3 (hR (2 : Int32) H)
      · replace H := sh_okF c H
        show wq_228 d Q 24 [oI l0] [] (sh_E h)
        exact ai_WP_steps mc_228 (sh_CM d) 2 (hR (1 : Int32) H)
def f_M_reduce_c0 (N : Nat)   (k0 : Int32 → sh_H → Option sh_H) (l1 : Int32) (h : sh_H) : Option sh_H := (if 0 < (h.1 12 0 20) then (if ai_in ((h.1 12 0 20) - (1 : Int32)) 500 then (Option.bind (f_M_rank (h.1 13 49 ((h.1 12 0 20) - (1 : Int32)).toNatClampNeg) h) (fun v1 => (if v1 < l1 then (some h) else (sh_let (sh_pI h 12 0 20 ((h.1 12 0 20) - (1 : Int32))) (fun h2 => (if ai_in (h2.1 12 0 20) 500 then (Option.bind (f_M_emit (h2.1 13 49 (h2.1 12 0 20).toNatClampNeg) (0 : Int32) h2) (fun h3 => k0 l1 h3)) else none)))))) else none) else (some h))
def f_M_reduce_l0 (N : Nat)   (n : Nat) : Int32 → sh_H → Option sh_H := Nat.rec (motive := fun _ => Int32 → sh_H → Option sh_H) (fun _ _ => none) (fun _ k0 => f_M_reduce_c0 N k0) n
theorem x_M_reduce_l0 (N : Nat) {d : Nat} (hd : 2 ≤ d) {Q : ai_Q} {R : sh_H → Prop} (hR : ∀ h, R h → Q none (sh_E h))   (n : Nat) : ∀ (l1 : Int32) (h : sh_H), sh_ok (f_M_reduce_l0 N n l1 h) R → wq_229 d Q 0 [oR 12 0, oI l1] [] (sh_E h) := by
  induction n with
  | zero => intro l1 h H; exact H.elim
  | succ n ih =>
    intro l1 h H
    have hk0 := @ih
    replace H : sh_ok (f_M_reduce_c0 N (f_M_reduce_l0 N n) l1 h) R := H
    revert hk0 H
    generalize f_M_reduce_l0 N n = k0
    intro hk0 H
    refine ai_WP_steps mc_229 (sh_CM d) 3 (And.intro (fun c => ?_) (fun c => ?_))
    · replace H := sh_okT c H
      show wq_229 d Q 7 [oR 12 0, oI l1] [] (sh_E h)
      have c := sh_okG H
      replace H := sh_okH H
      refine ai_WP_steps mc_229 (sh_CM d) 7 (And.intro c ?_)
      show wq_229 d Q 18 [oR 12 0, oI l1] [aI (h.1 13 49 ((h.1 12 0 20) - (1 : Int32)).toNatClampNeg)] (sh_E h)
      refine ai_WP_steps mc_229 (sh_CM d) 1 (And.intro (Nat.le_of_ble_eq_true rfl) (x_M_rank (Nat.le_trans (Nat.le_of_ble_eq_true rfl) hd) (h.1 13 49 ((h.1 12 0 20) - (1 : Int32)).toNatClampNeg) h (sh_okB H) (fun v1 H => ?_)))
      show wq_229 d Q 21 [oR 12 0, oI l1] [aI v1] (sh_E h)
      refine ai_WP_steps mc_229 (sh_CM d) 2 (And.intro (fun c => ?_) (fun c => ?_))
      · replace H := sh_okT c H
        show wq_229 d Q 52 [oR 12 0, oI l1] [] (sh_E h)
        exact ai_WP_steps mc_229 (sh_CM d) 1 (hR h H)
      · replace H := sh_okF c H
        show wq_229 d Q 25 [oR 12 0, oI l1] [] (sh_E h)
        refine ai_WP_steps mc_229 (sh_CM d) 6 (And.intro trivial ?_)
        show wq_229 d Q 35 [oR 12 0, oI l1] [] (sh_E (sh_pI h 12 0 20 ((h.1 12 0 20) - (1 : Int32))))
        replace H := sh_okL H
        generalize sh_pI h 12 0 20 ((h.1 12 0 20) - (1 : Int32)) = h2 at H ⊢
        have c := sh_okG H
        replace H := sh_okH H
        refine ai_WP_steps mc_229 (sh_CM d) 6 (And.intro c ?_)
        show wq_229 d Q 45 [oR 12 0, oI l1] [aI (h2.1 13 49 (h2.1 12 0 20).toNatClampNeg), aR 12 0] (sh_E h2)
        refine ai_WP_steps mc_229 (sh_CM d) 2 (And.intro (Nat.le_of_ble_eq_true rfl) (x_M_emit (Nat.le_trans (Nat.le_of_ble_eq_true rfl) hd) (h2.1 13 49 (h2.1 12 0 20).toNatClampNeg) (0 : Int32) h2 (sh_okB H) (fun h3 H => ?_)))
        show wq_229 d Q 49 [oR 12 0, oI l1] [] (sh_E h3)
        refine ai_WP_steps mc_229 (sh_CM d) 1 ?_
        exact hk0 l1 h3 H
    · replace H := sh_okF c H
      show wq_229 d Q 52 [oR 12 0, oI l1] [] (sh_E h)
      exact ai_WP_steps mc_229 (sh_CM d) 1 (hR h H)
def f_M_reduce (N : Nat)  (l1 : Int32) (h : sh_H) : Option sh_H := f_M_reduce_l0 N N l1 h
theorem x_M_reduce (N : Nat) {d : Nat} (hd : 3 ≤ d) (l1 : Int32) (h : sh_H) {Q : ai_Q} {R : sh_H → Prop} (H : sh_ok (f_M_reduce N l1 h) R) (hR : ∀ h, R h → Q none (sh_E h)) : ai_Ex sh_T d 229 [aR 12 0, aI l1] (sh_E h) Q := by
  obtain ⟨d, rfl⟩ : ∃ e, d = e + 1 := ⟨d - 1, by omega⟩
  replace hd : 2 ≤ d := by omega
  refine And.intro (Nat.le_of_ble_eq_true rfl) ?_
  show wq_229 d Q 0 [oR 12 0, oI l1] [] (sh_E h)
  exact x_M_reduce_l0 N hd hR N l1 h H
def f_M_await  (l1 : Int32) (h : sh_H) : Option sh_H := (if ai_in (h.1 12 0 20) 500 then (sh_let (sh_pI h 13 49 (h.1 12 0 20).toNatClampNeg l1) (fun h1 => (sh_let (sh_pI h1 12 0 20 ((h1.1 12 0 20) + (1 : Int32))) (fun h2 => (some h2))))) else none)
theorem x_M_await {d : Nat} (hd : 1 ≤ d) (l1 : Int32) (h : sh_H) {Q : ai_Q} {R : sh_H → Prop} (H : sh_ok (f_M_await l1 h) R) (hR : ∀ h, R h → Q none (sh_E h)) : ai_Ex sh_T d 230 [aR 12 0, aI l1] (sh_E h) Q := by
  obtain ⟨d, rfl⟩ : ∃ e, d = e + 1 := ⟨d - 1, by omega⟩
  replace hd : 0 ≤ d := by omega
  refine And.intro (Nat.le_of_ble_eq_true rfl) ?_
  show wq_230 d Q 0 [oR 12 0, oI l1] [] (sh_E h)
  have c := sh_okG H
  replace H := sh_okH H
  refine ai_WP_steps mc_230 (sh_CM d) 6 (And.intro c ?_)
  show wq_230 d Q 10 [oR 12 0, oI l1] [] (sh_E (sh_pI h 13 49 (h.1 12 0 20).toNatClampNeg l1))
  replace H := sh_okL H
  generalize sh_pI h 13 49 (h.1 12 0 20).toNatClampNeg l1 = h1 at H ⊢
  refine ai_WP_steps mc_230 (sh_CM d) 6 (And.intro trivial ?_)
  show wq_230 d Q 20 [oR 12 0, oI l1] [] (sh_E (sh_pI h1 12 0 20 ((h1.1 12 0 20) + (1 : Int32))))
  replace H := sh_okL H
  generalize sh_pI h1 12 0 20 ((h1.1 12 0 20) + (1 : Int32)) = h2 at H ⊢
  exact ai_WP_steps mc_230 (sh_CM d) 1 (hR h2 H)
def f_M_joinAt   (h : sh_H) : Option Int32 := (Option.bind (f_M_isSign (43 : Int32) h) (fun v1 => (if v1 = 0 then (Option.bind (f_M_isSign (45 : Int32) h) (fun v2 => (if v2 = 0 then (Option.bind (f_M_isSign (42 : Int32) h) (fun v3 => (if v3 = 0 then (Option.bind (f_M_isSign (47 : Int32) h) (fun v4 => (if v4 = 0 then (some (-1 : Int32)) else (some (5 : Int32))))) else (some (4 : Int32))))) else (some (3 : Int32))))) else (some (2 : Int32)))))
theorem x_M_joinAt {d : Nat} (hd : 2 ≤ d)  (h : sh_H) {Q : ai_Q} {R : Int32 → Prop} (H : sh_ok (f_M_joinAt h) R) (hR : ∀ r, R r → Q (some (aI r)) (sh_E h)) : ai_Ex sh_T d 231 [aR 12 0] (sh_E h) Q := by
  obtain ⟨d, rfl⟩ : ∃ e, d = e + 1 := ⟨d - 1, by omega⟩
  replace hd : 1 ≤ d := by omega
  refine And.intro (Nat.le_of_ble_eq_true rfl) ?_
  show wq_231 d Q 0 [oR 12 0] [] (sh_E h)
  refine ai_WP_steps mc_231 (sh_CM d) 3 (And.intro (Nat.le_of_ble_eq_true rfl) (x_M_isSign (Nat.le_trans (Nat.le_of_ble_eq_true rfl) hd) (43 : Int32) h (sh_okB H) (fun v1 H => ?_)))
  show wq_231 d Q 6 [oR 12 0] [aI v1] (sh_E h)
  refine ai_WP_steps mc_231 (sh_CM d) 1 (And.intro (fun c => ?_) (fun c => ?_))
  · replace H := sh_okT c H
    show wq_231 d Q 11 [oR 12 0] [] (sh_E h)
    refine ai_WP_steps mc_231 (sh_CM d) 3 (And.intro (Nat.le_of_ble_eq_true rfl) (x_M_isSign (Nat.le_trans (Nat.le_of_ble_eq_true rfl) hd) (45 : Int32) h (sh_okB H) (fun v2 H => ?_)))
    show wq_231 d Q 17 [oR 12 0] [aI v2] (sh_E h)
    refine ai_WP_steps mc_231 (sh_CM d) 1 (And.intro (fun c => ?_) (fun c => ?_))
    · replace H := sh_okT c H
      show wq_231 d Q 22 [oR 12 0] [] (sh_E h)
      refine ai_WP_steps mc_231 (sh_CM d) 3 (And.intro (Nat.le_of_ble_eq_true rfl) (x_M_isSign (Nat.le_trans (Nat.le_of_ble_eq_true rfl) hd) (42 : Int32) h (sh_okB H) (fun v3 H => ?_)))
      show wq_231 d Q 28 [oR 12 0] [aI v3] (sh_E h)
      refine ai_WP_steps mc_231 (sh_CM d) 1 (And.intro (fun c => ?_) (fun c => ?_))
      · replace H := sh_okT c H
        show wq_231 d Q 33 [oR 12 0] [] (sh_E h)
        refine ai_WP_steps mc_231 (sh_CM d) 3 (And.intro (Nat.le_of_ble_eq_true rfl) (x_M_isSign (Nat.le_trans (Nat.le_of_ble_eq_true rfl) hd) (47 : Int32) h (sh_okB H) (fun v4 H => ?_)))
        show wq_231 d Q 39 [oR 12 0] [aI v4] (sh_E h)
        refine ai_WP_steps mc_231 (sh_CM d) 1 (And.intro (fun c => ?_) (fun c => ?_))
        · replace H := sh_okT c H
          show wq_231 d Q 46 [oR 12 0] [] (sh_E h)
          exact ai_WP_steps mc_231 (sh_CM d) 2 (hR (-1 : Int32) H)
        · replace H := sh_okF c H
          show wq_231 d Q 42 [oR 12 0] [] (sh_E h)
          exact ai_WP_steps mc_231 (sh_CM d) 3 (hR (5 : Int32) H)
      · replace H := sh_okF c H
        show wq_231 d Q 31 [oR 12 0] [] (sh_E h)
        exact ai_WP_steps mc_231 (sh_CM d) 2 (hR (4 : Int32) H)
    · replace H := sh_okF c H
      show wq_231 d Q 20 [oR 12 0] [] (sh_E h)
      exact ai_WP_steps mc_231 (sh_CM d) 2 (hR (3 : Int32) H)
  · replace H := sh_okF c H
    show wq_231 d Q 9 [oR 12 0] [] (sh_E h)
    exact ai_WP_steps mc_231 (sh_CM d) 2 (hR (2 : Int32) H)
def f_M_expr_b75 (N : Nat)  (k21 : Int32 → Int32 → Int32 → sh_H → Option (Int32 × sh_H)) (l1 : Int32) (l2 : Int32) (l3 : Int32) (s1 : Int32) (h : sh_H) : Option (Int32 × sh_H) := (Option.bind (f_M_await s1 h) (fun h1 => (sh_b2 (f_M_pass h1) (fun v2 h3 => (if v2 = 0 then (some ((ai_nar 1 (0 : Int32)), h3)) else k21 (l1 + (1 : Int32)) l2 l3 h3)))))
theorem x_M_expr_b75 (N : Nat) {d : Nat} (hd : 3 ≤ d) {Q : ai_Q} {R : Int32 × sh_H → Prop} (hR : ∀ r h, R (r, h) → Q (some (aI r)) (sh_E h))  (k21 : Int32 → Int32 → Int32 → sh_H → Option (Int32 × sh_H)) (hk21 : ∀ (l1 : Int32) (l2 : Int32) (l3 : Int32) {d4 : Option ai_V} (h : sh_H), sh_ok (k21 l1 l2 l3 h) R → wq_232 d Q 21 [oR 12 0, oI l1, oI l2, oI l3, d4] [] (sh_E h)) (l1 : Int32) (l2 : Int32) (l3 : Int32) (s1 : Int32) {d4 : Option ai_V} (h : sh_H) (H : sh_ok (f_M_expr_b75 N k21 l1 l2 l3 s1 h) R) : wq_232 d Q 75 [oR 12 0, oI l1, oI l2, oI l3, d4] [aI s1, aR 12 0] (sh_E h) := by
  refine ai_WP_steps mc_232 (sh_CM d) 1 (And.intro (Nat.le_of_ble_eq_true rfl) (x_M_await (Nat.le_trans (Nat.le_of_ble_eq_true rfl) hd) s1 h (sh_okB H) (fun h1 H => ?_)))
  show wq_232 d Q 78 [oR 12 0, oI l1, oI l2, oI l3, _] [] (sh_E h1)
  refine ai_WP_steps mc_232 (sh_CM d) 3 (And.intro (Nat.le_of_ble_eq_true rfl) (x_M_pass (Nat.le_trans (Nat.le_of_ble_eq_true rfl) hd) h1 (sh_okB H) (fun v2 h3 H => ?_)))
  show wq_232 d Q 85 [oR 12 0, oI (l1 + (1 : Int32)), oI l2, oI l3, _] [aI v2] (sh_E h3)
  refine ai_WP_steps mc_232 (sh_CM d) 1 (And.intro (fun c => ?_) (fun c => ?_))
  · replace H := sh_okT c H
    show wq_232 d Q 88 [oR 12 0, oI (l1 + (1 : Int32)), oI l2, oI l3, _] [] (sh_E h3)
    exact ai_WP_steps mc_232 (sh_CM d) 2 (hR (ai_nar 1 (0 : Int32)) h3 H)
  · replace H := sh_okF c H
    exact hk21 (l1 + (1 : Int32)) l2 l3 h3 H
def f_M_expr_b47 (N : Nat)  (k21 : Int32 → Int32 → Int32 → sh_H → Option (Int32 × sh_H)) (k53 : sh_H → Option (Int32 × sh_H)) (l1 : Int32) (l2 : Int32) (l3 : Int32) (h : sh_H) : Option (Int32 × sh_H) := (if l1 = (6 : Int32) then k53 h else (Option.bind (f_M_isSign (40 : Int32) h) (fun v4 => (if v4 = 0 then f_M_expr_b75 N k21 l1 l2 l3 (10 : Int32) h else f_M_expr_b75 N k21 l1 l2 l3 (0 : Int32) h))))
theorem x_M_expr_b47 (N : Nat) {d : Nat} (hd : 3 ≤ d) {Q : ai_Q} {R : Int32 × sh_H → Prop} (hR : ∀ r h, R (r, h) → Q (some (aI r)) (sh_E h))  (k21 : Int32 → Int32 → Int32 → sh_H → Option (Int32 × sh_H)) (hk21 : ∀ (l1 : Int32) (l2 : Int32) (l3 : Int32) {d4 : Option ai_V} (h : sh_H), sh_ok (k21 l1 l2 l3 h) R → wq_232 d Q 21 [oR 12 0, oI l1, oI l2, oI l3, d4] [] (sh_E h)) (k53 : sh_H → Option (Int32 × sh_H)) (hk53 : ∀ {d1 d2 d3 d4 : Option ai_V} (h : sh_H), sh_ok (k53 h) R → wq_232 d Q 53 [oR 12 0, d1, d2, d3, d4] [] (sh_E h)) (l1 : Int32) (l2 : Int32) (l3 : Int32) {d4 : Option ai_V} (h : sh_H) (H : sh_ok (f_M_expr_b47 N k21 k53 l1 l2 l3 h) R) : wq_232 d Q 47 [oR 12 0, oI l1, oI l2, oI l3, d4] [] (sh_E h) := by
  refine ai_WP_steps mc_232 (sh_CM d) 3 (And.intro (fun c => ?_) (fun c => ?_))
  · replace H := sh_okT c H
    exact hk53 h H
  · replace H := sh_okF c H
    show wq_232 d Q 59 [oR 12 0, oI l1, oI l2, oI l3, _] [] (sh_E h)
    refine ai_WP_steps mc_232 (sh_CM d) 4 (And.intro (Nat.le_of_ble_eq_true rfl) (x_M_isSign (Nat.le_trans (Nat.le_of_ble_eq_true rfl) hd) (40 : Int32) h (sh_okB H) (fun v4 H => ?_)))
    show wq_232 d Q 66 [oR 12 0, oI l1, oI l2, oI l3, _] [aI v4, aR 12 0] (sh_E h)
    refine ai_WP_steps mc_232 (sh_CM d) 1 (And.intro (fun c => ?_) (fun c => ?_))
    · replace H := sh_okT c H
      show wq_232 d Q 73 [oR 12 0, oI l1, oI l2, oI l3, _] [aR 12 0] (sh_E h)
      refine ai_WP_steps mc_232 (sh_CM d) 1 ?_
      exact x_M_expr_b75 N hd hR k21 hk21 l1 l2 l3 (10 : Int32) h H
    · replace H := sh_okF c H
      show wq_232 d Q 69 [oR 12 0, oI l1, oI l2, oI l3, _] [aR 12 0] (sh_E h)
      refine ai_WP_steps mc_232 (sh_CM d) 2 ?_
      exact x_M_expr_b75 N hd hR k21 hk21 l1 l2 l3 (0 : Int32) h H
def f_M_expr_b179 (N : Nat)  (k21 : Int32 → Int32 → Int32 → sh_H → Option (Int32 × sh_H)) (l1 : Int32) (l3 : Int32) (s1 : Int32) (s2 : Int32) (h : sh_H) : Option (Int32 × sh_H) := (Option.bind (f_M_emit s1 s2 h) (fun h5 => (sh_b2 (f_M_pass h5) (fun v6 h7 => (if v6 = 0 then (some ((ai_nar 1 (0 : Int32)), h7)) else k21 l1 (0 : Int32) l3 h7)))))
theorem x_M_expr_b179 (N : Nat) {d : Nat} (hd : 3 ≤ d) {Q : ai_Q} {R : Int32 × sh_H → Prop} (hR : ∀ r h, R (r, h) → Q (some (aI r)) (sh_E h))  (k21 : Int32 → Int32 → Int32 → sh_H → Option (Int32 × sh_H)) (hk21 : ∀ (l1 : Int32) (l2 : Int32) (l3 : Int32) {d4 : Option ai_V} (h : sh_H), sh_ok (k21 l1 l2 l3 h) R → wq_232 d Q 21 [oR 12 0, oI l1, oI l2, oI l3, d4] [] (sh_E h)) (l1 : Int32) (l3 : Int32) (s1 : Int32) (s2 : Int32) {d2 d4 : Option ai_V} (h : sh_H) (H : sh_ok (f_M_expr_b179 N k21 l1 l3 s1 s2 h) R) : wq_232 d Q 179 [oR 12 0, oI l1, d2, oI l3, d4] [aI s2, aI s1, aR 12 0] (sh_E h) := by
  refine ai_WP_steps mc_232 (sh_CM d) 1 (And.intro (Nat.le_of_ble_eq_true rfl) (x_M_emit (Nat.le_trans (Nat.le_of_ble_eq_true rfl) hd) s1 s2 h (sh_okB H) (fun h5 H => ?_)))
  show wq_232 d Q 182 [oR 12 0, oI l1, _, oI l3, _] [] (sh_E h5)
  refine ai_WP_steps mc_232 (sh_CM d) 2 (And.intro (Nat.le_of_ble_eq_true rfl) (x_M_pass (Nat.le_trans (Nat.le_of_ble_eq_true rfl) hd) h5 (sh_okB H) (fun v6 h7 H => ?_)))
  show wq_232 d Q 186 [oR 12 0, oI l1, _, oI l3, _] [aI v6] (sh_E h7)
  refine ai_WP_steps mc_232 (sh_CM d) 1 (And.intro (fun c => ?_) (fun c => ?_))
  · replace H := sh_okT c H
    show wq_232 d Q 189 [oR 12 0, oI l1, _, oI l3, _] [] (sh_E h7)
    exact ai_WP_steps mc_232 (sh_CM d) 2 (hR (ai_nar 1 (0 : Int32)) h7 H)
  · replace H := sh_okF c H
    show wq_232 d Q 191 [oR 12 0, oI l1, _, oI l3, _] [] (sh_E h7)
    refine ai_WP_steps mc_232 (sh_CM d) 3 ?_
    exact hk21 l1 (0 : Int32) l3 h7 H
def f_M_expr_b160 (N : Nat)  (k21 : Int32 → Int32 → Int32 → sh_H → Option (Int32 × sh_H)) (l1 : Int32) (l3 : Int32) (l4 : Int32) (s1 : Int32) (h : sh_H) : Option (Int32 × sh_H) := (if l4 < 0 then (if ai_in (h.1 12 0 7) 2001 then f_M_expr_b179 N k21 l1 l3 s1 (h.1 13 45 (h.1 12 0 7).toNatClampNeg) h else none) else f_M_expr_b179 N k21 l1 l3 s1 l4 h)
theorem x_M_expr_b160 (N : Nat) {d : Nat} (hd : 3 ≤ d) {Q : ai_Q} {R : Int32 × sh_H → Prop} (hR : ∀ r h, R (r, h) → Q (some (aI r)) (sh_E h))  (k21 : Int32 → Int32 → Int32 → sh_H → Option (Int32 × sh_H)) (hk21 : ∀ (l1 : Int32) (l2 : Int32) (l3 : Int32) {d4 : Option ai_V} (h : sh_H), sh_ok (k21 l1 l2 l3 h) R → wq_232 d Q 21 [oR 12 0, oI l1, oI l2, oI l3, d4] [] (sh_E h)) (l1 : Int32) (l3 : Int32) (l4 : Int32) (s1 : Int32) {d2 : Option ai_V} (h : sh_H) (H : sh_ok (f_M_expr_b160 N k21 l1 l3 l4 s1 h) R) : wq_232 d Q 160 [oR 12 0, oI l1, d2, oI l3, oI l4] [aI s1, aR 12 0] (sh_E h) := by
  refine ai_WP_steps mc_232 (sh_CM d) 2 (And.intro (fun c => ?_) (fun c => ?_))
  · replace H := sh_okT c H
    show wq_232 d Q 165 [oR 12 0, oI l1, _, oI l3, oI l4] [aI s1, aR 12 0] (sh_E h)
    have c := sh_okG H
    replace H := sh_okH H
    refine ai_WP_steps mc_232 (sh_CM d) 5 (And.intro c ?_)
    show wq_232 d Q 174 [oR 12 0, oI l1, _, oI l3, oI l4] [aI (h.1 13 45 (h.1 12 0 7).toNatClampNeg), aI s1, aR 12 0] (sh_E h)
    refine ai_WP_steps mc_232 (sh_CM d) 1 ?_
    exact x_M_expr_b179 N hd hR k21 hk21 l1 l3 s1 (h.1 13 45 (h.1 12 0 7).toNatClampNeg) h H
  · replace H := sh_okF c H
    show wq_232 d Q 177 [oR 12 0, oI l1, _, oI l3, oI l4] [aI s1, aR 12 0] (sh_E h)
    refine ai_WP_steps mc_232 (sh_CM d) 1 ?_
    exact x_M_expr_b179 N hd hR k21 hk21 l1 l3 s1 l4 h H
def f_M_expr_b149 (N : Nat)  (k21 : Int32 → Int32 → Int32 → sh_H → Option (Int32 × sh_H)) (l1 : Int32) (l3 : Int32) (l4 : Int32) (h : sh_H) : Option (Int32 × sh_H) := (if l4 < 0 then f_M_expr_b160 N k21 l1 l3 l4 (0 : Int32) h else f_M_expr_b160 N k21 l1 l3 l4 (1 : Int32) h)
theorem x_M_expr_b149 (N : Nat) {d : Nat} (hd : 3 ≤ d) {Q : ai_Q} {R : Int32 × sh_H → Prop} (hR : ∀ r h, R (r, h) → Q (some (aI r)) (sh_E h))  (k21 : Int32 → Int32 → Int32 → sh_H → Option (Int32 × sh_H)) (hk21 : ∀ (l1 : Int32) (l2 : Int32) (l3 : Int32) {d4 : Option ai_V} (h : sh_H), sh_ok (k21 l1 l2 l3 h) R → wq_232 d Q 21 [oR 12 0, oI l1, oI l2, oI l3, d4] [] (sh_E h)) (l1 : Int32) (l3 : Int32) (l4 : Int32) {d2 : Option ai_V} (h : sh_H) (H : sh_ok (f_M_expr_b149 N k21 l1 l3 l4 h) R) : wq_232 d Q 149 [oR 12 0, oI l1, d2, oI l3, oI l4] [] (sh_E h) := by
  refine ai_WP_steps mc_232 (sh_CM d) 3 (And.intro (fun c => ?_) (fun c => ?_))
  · replace H := sh_okT c H
    show wq_232 d Q 155 [oR 12 0, oI l1, _, oI l3, oI l4] [aR 12 0] (sh_E h)
    refine ai_WP_steps mc_232 (sh_CM d) 2 ?_
    exact x_M_expr_b160 N hd hR k21 hk21 l1 l3 l4 (0 : Int32) h H
  · replace H := sh_okF c H
    show wq_232 d Q 159 [oR 12 0, oI l1, _, oI l3, oI l4] [aR 12 0] (sh_E h)
    refine ai_WP_steps mc_232 (sh_CM d) 1 ?_
    exact x_M_expr_b160 N hd hR k21 hk21 l1 l3 l4 (1 : Int32) h H
def f_M_expr_b123 (N : Nat)  (k21 : Int32 → Int32 → Int32 → sh_H → Option (Int32 × sh_H)) (k143 : sh_H → Option (Int32 × sh_H)) (l1 : Int32) (l3 : Int32) (s0 : Int32) (h : sh_H) : Option (Int32 × sh_H) := (if ai_in (h.1 12 0 7) 2001 then (if (h.1 13 43 (h.1 12 0 7).toNatClampNeg) = (1 : Int32) then f_M_expr_b149 N k21 l1 l3 s0 h else (if s0 < 0 then k143 h else f_M_expr_b149 N k21 l1 l3 s0 h)) else none)
theorem x_M_expr_b123 (N : Nat) {d : Nat} (hd : 3 ≤ d) {Q : ai_Q} {R : Int32 × sh_H → Prop} (hR : ∀ r h, R (r, h) → Q (some (aI r)) (sh_E h))  (k21 : Int32 → Int32 → Int32 → sh_H → Option (Int32 × sh_H)) (hk21 : ∀ (l1 : Int32) (l2 : Int32) (l3 : Int32) {d4 : Option ai_V} (h : sh_H), sh_ok (k21 l1 l2 l3 h) R → wq_232 d Q 21 [oR 12 0, oI l1, oI l2, oI l3, d4] [] (sh_E h)) (k143 : sh_H → Option (Int32 × sh_H)) (hk143 : ∀ {d1 d2 d3 d4 : Option ai_V} (h : sh_H), sh_ok (k143 h) R → wq_232 d Q 143 [oR 12 0, d1, d2, d3, d4] [] (sh_E h)) (l1 : Int32) (l3 : Int32) (s0 : Int32) {d2 d4 : Option ai_V} (h : sh_H) (H : sh_ok (f_M_expr_b123 N k21 k143 l1 l3 s0 h) R) : wq_232 d Q 123 [oR 12 0, oI l1, d2, oI l3, d4] [aI s0] (sh_E h) := by
  have c := sh_okG H
  replace H := sh_okH H
  refine ai_WP_steps mc_232 (sh_CM d) 6 (And.intro c ?_)
  show wq_232 d Q 134 [oR 12 0, oI l1, _, oI l3, oI s0] [aI (h.1 13 43 (h.1 12 0 7).toNatClampNeg)] (sh_E h)
  refine ai_WP_steps mc_232 (sh_CM d) 2 (And.intro (fun c => ?_) (fun c => ?_))
  · replace H := sh_okT c H
    exact x_M_expr_b149 N hd hR k21 hk21 l1 l3 s0 h H
  · replace H := sh_okF c H
    show wq_232 d Q 138 [oR 12 0, oI l1, _, oI l3, oI s0] [] (sh_E h)
    refine ai_WP_steps mc_232 (sh_CM d) 2 (And.intro (fun c => ?_) (fun c => ?_))
    · replace H := sh_okT c H
      exact hk143 h H
    · replace H := sh_okF c H
      exact x_M_expr_b149 N hd hR k21 hk21 l1 l3 s0 h H
def f_M_expr_b386 (N : Nat)  (k21 : Int32 → Int32 → Int32 → sh_H → Option (Int32 × sh_H)) (l1 : Int32) (l2 : Int32) (l3 : Int32) (h : sh_H) : Option (Int32 × sh_H) := (sh_b2 (f_M_pass h) (fun v8 h9 => (if v8 = 0 then (some ((ai_nar 1 (0 : Int32)), h9)) else k21 l1 l2 l3 h9)))
theorem x_M_expr_b386 (N : Nat) {d : Nat} (hd : 3 ≤ d) {Q : ai_Q} {R : Int32 × sh_H → Prop} (hR : ∀ r h, R (r, h) → Q (some (aI r)) (sh_E h))  (k21 : Int32 → Int32 → Int32 → sh_H → Option (Int32 × sh_H)) (hk21 : ∀ (l1 : Int32) (l2 : Int32) (l3 : Int32) {d4 : Option ai_V} (h : sh_H), sh_ok (k21 l1 l2 l3 h) R → wq_232 d Q 21 [oR 12 0, oI l1, oI l2, oI l3, d4] [] (sh_E h)) (l1 : Int32) (l2 : Int32) (l3 : Int32) {d4 : Option ai_V} (h : sh_H) (H : sh_ok (f_M_expr_b386 N k21 l1 l2 l3 h) R) : wq_232 d Q 386 [oR 12 0, oI l1, oI l2, oI l3, d4] [] (sh_E h) := by
  refine ai_WP_steps mc_232 (sh_CM d) 2 (And.intro (Nat.le_of_ble_eq_true rfl) (x_M_pass (Nat.le_trans (Nat.le_of_ble_eq_true rfl) hd) h (sh_okB H) (fun v8 h9 H => ?_)))
  show wq_232 d Q 390 [oR 12 0, oI l1, oI l2, oI l3, _] [aI v8] (sh_E h9)
  refine ai_WP_steps mc_232 (sh_CM d) 1 (And.intro (fun c => ?_) (fun c => ?_))
  · replace H := sh_okT c H
    show wq_232 d Q 393 [oR 12 0, oI l1, oI l2, oI l3, _] [] (sh_E h9)
    exact ai_WP_steps mc_232 (sh_CM d) 2 (hR (ai_nar 1 (0 : Int32)) h9 H)
  · replace H := sh_okF c H
    show wq_232 d Q 395 [oR 12 0, oI l1, oI l2, oI l3, _] [] (sh_E h9)
    refine ai_WP_steps mc_232 (sh_CM d) 1 ?_
    exact hk21 l1 l2 l3 h9 H
def f_M_expr_b318 (N : Nat)  (k21 : Int32 → Int32 → Int32 → sh_H → Option (Int32 × sh_H)) (l1 : Int32) (l3 : Int32) (s0 : Nat) (s1 : Int32) (s2 : Int32) (h : sh_H) : Option (Int32 × sh_H) := (if ai_in s1 (sh_l13 s0) then (sh_let (sh_pI h 13 s0 s1.toNatClampNeg s2) (fun h10 => f_M_expr_b386 N k21 l1 (1 : Int32) l3 h10)) else none)
theorem x_M_expr_b318 (N : Nat) {d : Nat} (hd : 3 ≤ d) {Q : ai_Q} {R : Int32 × sh_H → Prop} (hR : ∀ r h, R (r, h) → Q (some (aI r)) (sh_E h))  (k21 : Int32 → Int32 → Int32 → sh_H → Option (Int32 × sh_H)) (hk21 : ∀ (l1 : Int32) (l2 : Int32) (l3 : Int32) {d4 : Option ai_V} (h : sh_H), sh_ok (k21 l1 l2 l3 h) R → wq_232 d Q 21 [oR 12 0, oI l1, oI l2, oI l3, d4] [] (sh_E h)) (l1 : Int32) (l3 : Int32) (s0 : Nat) (s1 : Int32) (s2 : Int32) {d2 d4 : Option ai_V} (h : sh_H) (H : sh_ok (f_M_expr_b318 N k21 l1 l3 s0 s1 s2 h) R) : wq_232 d Q 318 [oR 12 0, oI l1, d2, oI l3, d4] [aI s2, aI s1, aR 13 s0] (sh_E h) := by
  have c := sh_okG H
  replace H := sh_okH H
  refine ai_WP_steps mc_232 (sh_CM d) 1 (And.intro c ?_)
  show wq_232 d Q 319 [oR 12 0, oI l1, _, oI l3, _] [] (sh_E (sh_pI h 13 s0 s1.toNatClampNeg s2))
  replace H := sh_okL H
  generalize sh_pI h 13 s0 s1.toNatClampNeg s2 = h10 at H ⊢
  refine ai_WP_steps mc_232 (sh_CM d) 3 ?_
  exact x_M_expr_b386 N hd hR k21 hk21 l1 (1 : Int32) l3 h10 H
def f_M_expr_b292 (N : Nat)  (k21 : Int32 → Int32 → Int32 → sh_H → Option (Int32 × sh_H)) (l1 : Int32) (l3 : Int32) (h : sh_H) : Option (Int32 × sh_H) := (Option.bind (f_M_isSign (60 : Int32) h) (fun v11 => (if v11 = 0 then f_M_expr_b318 N k21 l1 l3 49 ((h.1 12 0 20) - (1 : Int32)) (12 : Int32) h else f_M_expr_b318 N k21 l1 l3 49 ((h.1 12 0 20) - (1 : Int32)) (11 : Int32) h)))
theorem x_M_expr_b292 (N : Nat) {d : Nat} (hd : 3 ≤ d) {Q : ai_Q} {R : Int32 × sh_H → Prop} (hR : ∀ r h, R (r, h) → Q (some (aI r)) (sh_E h))  (k21 : Int32 → Int32 → Int32 → sh_H → Option (Int32 × sh_H)) (hk21 : ∀ (l1 : Int32) (l2 : Int32) (l3 : Int32) {d4 : Option ai_V} (h : sh_H), sh_ok (k21 l1 l2 l3 h) R → wq_232 d Q 21 [oR 12 0, oI l1, oI l2, oI l3, d4] [] (sh_E h)) (l1 : Int32) (l3 : Int32) {d2 d4 : Option ai_V} (h : sh_H) (H : sh_ok (f_M_expr_b292 N k21 l1 l3 h) R) : wq_232 d Q 292 [oR 12 0, oI l1, d2, oI l3, d4] [] (sh_E h) := by
  refine ai_WP_steps mc_232 (sh_CM d) 9 (And.intro (Nat.le_of_ble_eq_true rfl) (x_M_isSign (Nat.le_trans (Nat.le_of_ble_eq_true rfl) hd) (60 : Int32) h (sh_okB H) (fun v11 H => ?_)))
  show wq_232 d Q 308 [oR 12 0, oI l1, _, oI l3, _] [aI v11, aI ((h.1 12 0 20) - (1 : Int32)), aR 13 49] (sh_E h)
  refine ai_WP_steps mc_232 (sh_CM d) 1 (And.intro (fun c => ?_) (fun c => ?_))
  · replace H := sh_okT c H
    show wq_232 d Q 316 [oR 12 0, oI l1, _, oI l3, _] [aI ((h.1 12 0 20) - (1 : Int32)), aR 13 49] (sh_E h)
    refine ai_WP_steps mc_232 (sh_CM d) 1 ?_
    exact x_M_expr_b318 N hd hR k21 hk21 l1 l3 49 ((h.1 12 0 20) - (1 : Int32)) (12 : Int32) h H
  · replace H := sh_okF c H
    show wq_232 d Q 311 [oR 12 0, oI l1, _, oI l3, _] [aI ((h.1 12 0 20) - (1 : Int32)), aR 13 49] (sh_E h)
    refine ai_WP_steps mc_232 (sh_CM d) 2 ?_
    exact x_M_expr_b318 N hd hR k21 hk21 l1 l3 49 ((h.1 12 0 20) - (1 : Int32)) (11 : Int32) h H
def f_M_expr_b382 (N : Nat)  (k21 : Int32 → Int32 → Int32 → sh_H → Option (Int32 × sh_H)) (l1 : Int32) (l2 : Int32) (l3 : Int32) (s1 : Int32) (h : sh_H) : Option (Int32 × sh_H) := (Option.bind (f_M_emit s1 (0 : Int32) h) (fun h12 => f_M_expr_b386 N k21 l1 l2 l3 h12))
theorem x_M_expr_b382 (N : Nat) {d : Nat} (hd : 3 ≤ d) {Q : ai_Q} {R : Int32 × sh_H → Prop} (hR : ∀ r h, R (r, h) → Q (some (aI r)) (sh_E h))  (k21 : Int32 → Int32 → Int32 → sh_H → Option (Int32 × sh_H)) (hk21 : ∀ (l1 : Int32) (l2 : Int32) (l3 : Int32) {d4 : Option ai_V} (h : sh_H), sh_ok (k21 l1 l2 l3 h) R → wq_232 d Q 21 [oR 12 0, oI l1, oI l2, oI l3, d4] [] (sh_E h)) (l1 : Int32) (l2 : Int32) (l3 : Int32) (s1 : Int32) {d4 : Option ai_V} (h : sh_H) (H : sh_ok (f_M_expr_b382 N k21 l1 l2 l3 s1 h) R) : wq_232 d Q 382 [oR 12 0, oI l1, oI l2, oI l3, d4] [aI s1, aR 12 0] (sh_E h) := by
  refine ai_WP_steps mc_232 (sh_CM d) 2 (And.intro (Nat.le_of_ble_eq_true rfl) (x_M_emit (Nat.le_trans (Nat.le_of_ble_eq_true rfl) hd) s1 (0 : Int32) h (sh_okB H) (fun h12 H => ?_)))
  show wq_232 d Q 386 [oR 12 0, oI l1, oI l2, oI l3, _] [] (sh_E h12)
  exact x_M_expr_b386 N hd hR k21 hk21 l1 l2 l3 h12 H
def f_M_expr_b337 (N : Nat)  (k21 : Int32 → Int32 → Int32 → sh_H → Option (Int32 × sh_H)) (k343 : sh_H → Option (Int32 × sh_H)) (l1 : Int32) (l2 : Int32) (l3 : Int32) (l4 : Int32) (s1 : Int32) (h : sh_H) : Option (Int32 × sh_H) := (Option.bind (f_M_isSign s1 h) (fun v13 => (if v13 = 0 then k343 h else (sh_let (sh_pI h 12 0 20 ((h.1 12 0 20) - (1 : Int32))) (fun h14 => (if 0 < l4 then (if l4 = (11 : Int32) then f_M_expr_b382 N k21 (l1 + (-1 : Int32)) l2 l3 (6 : Int32) h14 else f_M_expr_b382 N k21 (l1 + (-1 : Int32)) l2 l3 (7 : Int32) h14) else f_M_expr_b386 N k21 (l1 + (-1 : Int32)) l2 l3 h14))))))
theorem x_M_expr_b337 (N : Nat) {d : Nat} (hd : 3 ≤ d) {Q : ai_Q} {R : Int32 × sh_H → Prop} (hR : ∀ r h, R (r, h) → Q (some (aI r)) (sh_E h))  (k21 : Int32 → Int32 → Int32 → sh_H → Option (Int32 × sh_H)) (hk21 : ∀ (l1 : Int32) (l2 : Int32) (l3 : Int32) {d4 : Option ai_V} (h : sh_H), sh_ok (k21 l1 l2 l3 h) R → wq_232 d Q 21 [oR 12 0, oI l1, oI l2, oI l3, d4] [] (sh_E h)) (k343 : sh_H → Option (Int32 × sh_H)) (hk343 : ∀ {d1 d2 d3 d4 : Option ai_V} (h : sh_H), sh_ok (k343 h) R → wq_232 d Q 343 [oR 12 0, d1, d2, d3, d4] [] (sh_E h)) (l1 : Int32) (l2 : Int32) (l3 : Int32) (l4 : Int32) (s1 : Int32) (h : sh_H) (H : sh_ok (f_M_expr_b337 N k21 k343 l1 l2 l3 l4 s1 h) R) : wq_232 d Q 337 [oR 12 0, oI l1, oI l2, oI l3, oI l4] [aI s1, aR 12 0] (sh_E h) := by
  refine ai_WP_steps mc_232 (sh_CM d) 1 (And.intro (Nat.le_of_ble_eq_true rfl) (x_M_isSign (Nat.le_trans (Nat.le_of_ble_eq_true rfl) hd) s1 h (sh_okB H) (fun v13 H => ?_)))
  show wq_232 d Q 340 [oR 12 0, oI l1, oI l2, oI l3, oI l4] [aI v13] (sh_E h)
  refine ai_WP_steps mc_232 (sh_CM d) 1 (And.intro (fun c => ?_) (fun c => ?_))
  · replace H := sh_okT c H
    exact hk343 h H
  · replace H := sh_okF c H
    show wq_232 d Q 349 [oR 12 0, oI l1, oI l2, oI l3, oI l4] [] (sh_E h)
    refine ai_WP_steps mc_232 (sh_CM d) 6 (And.intro trivial ?_)
    show wq_232 d Q 359 [oR 12 0, oI l1, oI l2, oI l3, oI l4] [] (sh_E (sh_pI h 12 0 20 ((h.1 12 0 20) - (1 : Int32))))
    replace H := sh_okL H
    generalize sh_pI h 12 0 20 ((h.1 12 0 20) - (1 : Int32)) = h14 at H ⊢
    refine ai_WP_steps mc_232 (sh_CM d) 3 (And.intro (fun c => ?_) (fun c => ?_))
    · replace H := sh_okT c H
      show wq_232 d Q 367 [oR 12 0, oI (l1 + (-1 : Int32)), oI l2, oI l3, oI l4] [] (sh_E h14)
      refine ai_WP_steps mc_232 (sh_CM d) 4 (And.intro (fun c => ?_) (fun c => ?_))
      · replace H := sh_okT c H
        show wq_232 d Q 375 [oR 12 0, oI (l1 + (-1 : Int32)), oI l2, oI l3, oI l4] [aR 12 0] (sh_E h14)
        refine ai_WP_steps mc_232 (sh_CM d) 2 ?_
        exact x_M_expr_b382 N hd hR k21 hk21 (l1 + (-1 : Int32)) l2 l3 (6 : Int32) h14 H
      · replace H := sh_okF c H
        show wq_232 d Q 380 [oR 12 0, oI (l1 + (-1 : Int32)), oI l2, oI l3, oI l4] [aR 12 0] (sh_E h14)
        refine ai_WP_steps mc_232 (sh_CM d) 1 ?_
        exact x_M_expr_b382 N hd hR k21 hk21 (l1 + (-1 : Int32)) l2 l3 (7 : Int32) h14 H
    · replace H := sh_okF c H
      exact x_M_expr_b386 N hd hR k21 hk21 (l1 + (-1 : Int32)) l2 l3 h14 H
def f_M_expr_b90 (N : Nat)  (k21 : Int32 → Int32 → Int32 → sh_H → Option (Int32 × sh_H)) (k143 : sh_H → Option (Int32 × sh_H)) (k286 : sh_H → Option (Int32 × sh_H)) (k343 : sh_H → Option (Int32 × sh_H)) (l1 : Int32) (l2 : Int32) (l3 : Int32) (h : sh_H) : Option (Int32 × sh_H) := (if l2 = 0 then (Option.bind (f_M_joinAt h) (fun v15 => (if v15 < 0 then (if 0 < l1 then (Option.bind (f_M_reduce N (1 : Int32) h) (fun h16 => (if ai_in ((h16.1 12 0 20) - (1 : Int32)) 500 then (if (h16.1 13 49 ((h16.1 12 0 20) - (1 : Int32)).toNatClampNeg) = (10 : Int32) then (Option.bind (f_M_isSign (60 : Int32) h16) (fun v17 => (if v17 = 0 then (Option.bind (f_M_isSign (300 : Int32) h16) (fun v18 => (if v18 = 0 then k286 h16 else f_M_expr_b292 N k21 l1 l3 h16))) else f_M_expr_b292 N k21 l1 l3 h16))) else (if (h16.1 13 49 ((h16.1 12 0 20) - (1 : Int32)).toNatClampNeg) = 0 then f_M_expr_b337 N k21 k343 l1 l2 l3 (h16.1 13 49 ((h16.1 12 0 20) - (1 : Int32)).toNatClampNeg) (41 : Int32) h16 else f_M_expr_b337 N k21 k343 l1 l2 l3 (h16.1 13 49 ((h16.1 12 0 20) - (1 : Int32)).toNatClampNeg) (93 : Int32) h16)) else none))) else k21 l1 l2 (0 : Int32) h) else (Option.bind (f_M_joinAt h) (fun v19 => (Option.bind (f_M_rank v19 h) (fun v20 => (Option.bind (f_M_reduce N v20 h) (fun h21 => (Option.bind (f_M_await v19 h21) (fun h22 => (sh_b2 (f_M_pass h22) (fun v23 h24 => (if v23 = 0 then (some ((ai_nar 1 (0 : Int32)), h24)) else k21 l1 (1 : Int32) l3 h24)))))))))))))) else (if ai_in (h.1 12 0 7) 2001 then (if (h.1 13 43 (h.1 12 0 7).toNatClampNeg) = (3 : Int32) then (if ai_in (h.1 12 0 7) 2001 then f_M_expr_b123 N k21 k143 l1 l3 ((h.1 13 45 (h.1 12 0 7).toNatClampNeg) - (9 : Int32)) h else none) else f_M_expr_b123 N k21 k143 l1 l3 (-1 : Int32) h) else none))
theorem x_M_expr_b90 (N : Nat) {d : Nat} (hd : 3 ≤ d) {Q : ai_Q} {R : Int32 × sh_H → Prop} (hR : ∀ r h, R (r, h) → Q (some (aI r)) (sh_E h))  (k21 : Int32 → Int32 → Int32 → sh_H → Option (Int32 × sh_H)) (hk21 : ∀ (l1 : Int32) (l2 : Int32) (l3 : Int32) {d4 : Option ai_V} (h : sh_H), sh_ok (k21 l1 l2 l3 h) R → wq_232 d Q 21 [oR 12 0, oI l1, oI l2, oI l3, d4] [] (sh_E h)) (k143 : sh_H → Option (Int32 × sh_H)) (hk143 : ∀ {d1 d2 d3 d4 : Option ai_V} (h : sh_H), sh_ok (k143 h) R → wq_232 d Q 143 [oR 12 0, d1, d2, d3, d4] [] (sh_E h)) (k286 : sh_H → Option (Int32 × sh_H)) (hk286 : ∀ {d1 d2 d3 d4 : Option ai_V} (h : sh_H), sh_ok (k286 h) R → wq_232 d Q 286 [oR 12 0, d1, d2, d3, d4] [] (sh_E h)) (k343 : sh_H → Option (Int32 × sh_H)) (hk343 : ∀ {d1 d2 d3 d4 : Option ai_V} (h : sh_H), sh_ok (k343 h) R → wq_232 d Q 343 [oR 12 0, d1, d2, d3, d4] [] (sh_E h)) (l1 : Int32) (l2 : Int32) (l3 : Int32) {d4 : Option ai_V} (h : sh_H) (H : sh_ok (f_M_expr_b90 N k21 k143 k286 k343 l1 l2 l3 h) R) : wq_232 d Q 90 [oR 12 0, oI l1, oI l2, oI l3, d4] [] (sh_E h) := by
  refine ai_WP_steps mc_232 (sh_CM d) 2 (And.intro (fun c => ?_) (fun c => ?_))
  · replace H := sh_okT c H
    show wq_232 d Q 196 [oR 12 0, oI l1, oI l2, oI l3, _] [] (sh_E h)
    refine ai_WP_steps mc_232 (sh_CM d) 2 (And.intro (Nat.le_of_ble_eq_true rfl) (x_M_joinAt (Nat.le_trans (Nat.le_of_ble_eq_true rfl) hd) h (sh_okB H) (fun v15 H => ?_)))
    show wq_232 d Q 200 [oR 12 0, oI l1, oI l2, oI l3, _] [aI v15] (sh_E h)
    refine ai_WP_steps mc_232 (sh_CM d) 1 (And.intro (fun c => ?_) (fun c => ?_))
    · replace H := sh_okT c H
      show wq_232 d Q 238 [oR 12 0, oI l1, oI l2, oI l3, _] [] (sh_E h)
      refine ai_WP_steps mc_232 (sh_CM d) 2 (And.intro (fun c => ?_) (fun c => ?_))
      · replace H := sh_okT c H
        show wq_232 d Q 242 [oR 12 0, oI l1, oI l2, oI l3, _] [] (sh_E h)
        refine ai_WP_steps mc_232 (sh_CM d) 3 (And.intro (Nat.le_of_ble_eq_true rfl) (x_M_reduce N (Nat.le_trans (Nat.le_of_ble_eq_true rfl) hd) (1 : Int32) h (sh_okB H) (fun h16 H => ?_)))
        show wq_232 d Q 247 [oR 12 0, oI l1, oI l2, oI l3, _] [] (sh_E h16)
        have c := sh_okG H
        replace H := sh_okH H
        refine ai_WP_steps mc_232 (sh_CM d) 7 (And.intro c ?_)
        show wq_232 d Q 258 [oR 12 0, oI l1, oI l2, oI l3, _] [aI (h16.1 13 49 ((h16.1 12 0 20) - (1 : Int32)).toNatClampNeg)] (sh_E h16)
        refine ai_WP_steps mc_232 (sh_CM d) 4 (And.intro (fun c => ?_) (fun c => ?_))
        · replace H := sh_okT c H
          show wq_232 d Q 267 [oR 12 0, oI l1, oI l2, oI l3, oI (h16.1 13 49 ((h16.1 12 0 20) - (1 : Int32)).toNatClampNeg)] [] (sh_E h16)
          refine ai_WP_steps mc_232 (sh_CM d) 3 (And.intro (Nat.le_of_ble_eq_true rfl) (x_M_isSign (Nat.le_trans (Nat.le_of_ble_eq_true rfl) hd) (60 : Int32) h16 (sh_okB H) (fun v17 H => ?_)))
          show wq_232 d Q 273 [oR 12 0, oI l1, oI l2, oI l3, oI (h16.1 13 49 ((h16.1 12 0 20) - (1 : Int32)).toNatClampNeg)] [aI v17] (sh_E h16)
          refine ai_WP_steps mc_232 (sh_CM d) 1 (And.intro (fun c => ?_) (fun c => ?_))
          · replace H := sh_okT c H
            show wq_232 d Q 276 [oR 12 0, oI l1, oI l2, oI l3, oI (h16.1 13 49 ((h16.1 12 0 20) - (1 : Int32)).toNatClampNeg)] [] (sh_E h16)
            refine ai_WP_steps mc_232 (sh_CM d) 3 (And.intro (Nat.le_of_ble_eq_true rfl) (x_M_isSign (Nat.le_trans (Nat.le_of_ble_eq_true rfl) hd) (300 : Int32) h16 (sh_okB H) (fun v18 H => ?_)))
            show wq_232 d Q 283 [oR 12 0, oI l1, oI l2, oI l3, oI (h16.1 13 49 ((h16.1 12 0 20) - (1 : Int32)).toNatClampNeg)] [aI v18] (sh_E h16)
            refine ai_WP_steps mc_232 (sh_CM d) 1 (And.intro (fun c => ?_) (fun c => ?_))
            · replace H := sh_okT c H
              exact hk286 h16 H
            · replace H := sh_okF c H
              exact x_M_expr_b292 N hd hR k21 hk21 l1 l3 h16 H
          · replace H := sh_okF c H
            exact x_M_expr_b292 N hd hR k21 hk21 l1 l3 h16 H
        · replace H := sh_okF c H
          show wq_232 d Q 324 [oR 12 0, oI l1, oI l2, oI l3, oI (h16.1 13 49 ((h16.1 12 0 20) - (1 : Int32)).toNatClampNeg)] [] (sh_E h16)
          refine ai_WP_steps mc_232 (sh_CM d) 3 (And.intro (fun c => ?_) (fun c => ?_))
          · replace H := sh_okT c H
            show wq_232 d Q 330 [oR 12 0, oI l1, oI l2, oI l3, oI (h16.1 13 49 ((h16.1 12 0 20) - (1 : Int32)).toNatClampNeg)] [aR 12 0] (sh_E h16)
            refine ai_WP_steps mc_232 (sh_CM d) 2 ?_
            exact x_M_expr_b337 N hd hR k21 hk21 k343 hk343 l1 l2 l3 (h16.1 13 49 ((h16.1 12 0 20) - (1 : Int32)).toNatClampNeg) (41 : Int32) h16 H
          · replace H := sh_okF c H
            show wq_232 d Q 335 [oR 12 0, oI l1, oI l2, oI l3, oI (h16.1 13 49 ((h16.1 12 0 20) - (1 : Int32)).toNatClampNeg)] [aR 12 0] (sh_E h16)
            refine ai_WP_steps mc_232 (sh_CM d) 1 ?_
            exact x_M_expr_b337 N hd hR k21 hk21 k343 hk343 l1 l2 l3 (h16.1 13 49 ((h16.1 12 0 20) - (1 : Int32)).toNatClampNeg) (93 : Int32) h16 H
      · replace H := sh_okF c H
        show wq_232 d Q 398 [oR 12 0, oI l1, oI l2, oI l3, _] [] (sh_E h)
        refine ai_WP_steps mc_232 (sh_CM d) 3 ?_
        exact hk21 l1 l2 (0 : Int32) h H
    · replace H := sh_okF c H
      show wq_232 d Q 203 [oR 12 0, oI l1, oI l2, oI l3, _] [] (sh_E h)
      refine ai_WP_steps mc_232 (sh_CM d) 2 (And.intro (Nat.le_of_ble_eq_true rfl) (x_M_joinAt (Nat.le_trans (Nat.le_of_ble_eq_true rfl) hd) h (sh_okB H) (fun v19 H => ?_)))
      show wq_232 d Q 207 [oR 12 0, oI l1, oI l2, oI l3, _] [aI v19] (sh_E h)
      refine ai_WP_steps mc_232 (sh_CM d) 4 (And.intro (Nat.le_of_ble_eq_true rfl) (x_M_rank (Nat.le_trans (Nat.le_of_ble_eq_true rfl) hd) v19 h (sh_okB H) (fun v20 H => ?_)))
      show wq_232 d Q 215 [oR 12 0, oI l1, oI l2, oI l3, oI v19] [aI v20, aR 12 0] (sh_E h)
      refine ai_WP_steps mc_232 (sh_CM d) 1 (And.intro (Nat.le_of_ble_eq_true rfl) (x_M_reduce N (Nat.le_trans (Nat.le_of_ble_eq_true rfl) hd) v20 h (sh_okB H) (fun h21 H => ?_)))
      show wq_232 d Q 218 [oR 12 0, oI l1, oI l2, oI l3, oI v19] [] (sh_E h21)
      refine ai_WP_steps mc_232 (sh_CM d) 3 (And.intro (Nat.le_of_ble_eq_true rfl) (x_M_await (Nat.le_trans (Nat.le_of_ble_eq_true rfl) hd) v19 h21 (sh_okB H) (fun h22 H => ?_)))
      show wq_232 d Q 224 [oR 12 0, oI l1, oI l2, oI l3, oI v19] [] (sh_E h22)
      refine ai_WP_steps mc_232 (sh_CM d) 2 (And.intro (Nat.le_of_ble_eq_true rfl) (x_M_pass (Nat.le_trans (Nat.le_of_ble_eq_true rfl) hd) h22 (sh_okB H) (fun v23 h24 H => ?_)))
      show wq_232 d Q 228 [oR 12 0, oI l1, oI l2, oI l3, oI v19] [aI v23] (sh_E h24)
      refine ai_WP_steps mc_232 (sh_CM d) 1 (And.intro (fun c => ?_) (fun c => ?_))
      · replace H := sh_okT c H
        show wq_232 d Q 231 [oR 12 0, oI l1, oI l2, oI l3, oI v19] [] (sh_E h24)
        exact ai_WP_steps mc_232 (sh_CM d) 2 (hR (ai_nar 1 (0 : Int32)) h24 H)
      · replace H := sh_okF c H
        show wq_232 d Q 233 [oR 12 0, oI l1, oI l2, oI l3, oI v19] [] (sh_E h24)
        refine ai_WP_steps mc_232 (sh_CM d) 3 ?_
        exact hk21 l1 (1 : Int32) l3 h24 H
  · replace H := sh_okF c H
    show wq_232 d Q 94 [oR 12 0, oI l1, oI l2, oI l3, _] [] (sh_E h)
    have c := sh_okG H
    replace H := sh_okH H
    refine ai_WP_steps mc_232 (sh_CM d) 5 (And.intro c ?_)
    show wq_232 d Q 103 [oR 12 0, oI l1, oI l2, oI l3, _] [aI (h.1 13 43 (h.1 12 0 7).toNatClampNeg)] (sh_E h)
    refine ai_WP_steps mc_232 (sh_CM d) 2 (And.intro (fun c => ?_) (fun c => ?_))
    · replace H := sh_okT c H
      show wq_232 d Q 107 [oR 12 0, oI l1, oI l2, oI l3, _] [] (sh_E h)
      have c := sh_okG H
      replace H := sh_okH H
      refine ai_WP_steps mc_232 (sh_CM d) 5 (And.intro c ?_)
      show wq_232 d Q 116 [oR 12 0, oI l1, oI l2, oI l3, _] [aI (h.1 13 45 (h.1 12 0 7).toNatClampNeg)] (sh_E h)
      refine ai_WP_steps mc_232 (sh_CM d) 3 ?_
      exact x_M_expr_b123 N hd hR k21 hk21 k143 hk143 l1 l3 ((h.1 13 45 (h.1 12 0 7).toNatClampNeg) - (9 : Int32)) h H
    · replace H := sh_okF c H
      show wq_232 d Q 122 [oR 12 0, oI l1, oI l2, oI l3, _] [] (sh_E h)
      refine ai_WP_steps mc_232 (sh_CM d) 1 ?_
      exact x_M_expr_b123 N hd hR k21 hk21 k143 hk143 l1 l3 (-1 : Int32) h H
def f_M_expr_c21 (N : Nat)  (k53 : sh_H → Option (Int32 × sh_H)) (k143 : sh_H → Option (Int32 × sh_H)) (k286 : sh_H → Option (Int32 × sh_H)) (k343 : sh_H → Option (Int32 × sh_H)) (k403 : sh_H → Option (Int32 × sh_H)) (k21 : Int32 → Int32 → Int32 → sh_H → Option (Int32 × sh_H)) (l1 : Int32) (l2 : Int32) (l3 : Int32) (h : sh_H) : Option (Int32 × sh_H) := (if l3 = 0 then k403 h else (if l2 = 0 then f_M_expr_b90 N k21 k143 k286 k343 l1 l2 l3 h else (Option.bind (f_M_isSign (40 : Int32) h) (fun v25 => (if v25 = 0 then (Option.bind (f_M_isSign (91 : Int32) h) (fun v26 => (if v26 = 0 then f_M_expr_b90 N k21 k143 k286 k343 l1 l2 l3 h else f_M_expr_b47 N k21 k53 l1 l2 l3 h))) else f_M_expr_b47 N k21 k53 l1 l2 l3 h)))))
def f_M_expr_l21 (N : Nat)  (k53 : sh_H → Option (Int32 × sh_H)) (k143 : sh_H → Option (Int32 × sh_H)) (k286 : sh_H → Option (Int32 × sh_H)) (k343 : sh_H → Option (Int32 × sh_H)) (k403 : sh_H → Option (Int32 × sh_H)) (n : Nat) : Int32 → Int32 → Int32 → sh_H → Option (Int32 × sh_H) := Nat.rec (motive := fun _ => Int32 → Int32 → Int32 → sh_H → Option (Int32 × sh_H)) (fun _ _ _ _ => none) (fun _ k21 => f_M_expr_c21 N k53 k143 k286 k343 k403 k21) n
theorem x_M_expr_l21 (N : Nat) {d : Nat} (hd : 3 ≤ d) {Q : ai_Q} {R : Int32 × sh_H → Prop} (hR : ∀ r h, R (r, h) → Q (some (aI r)) (sh_E h))  (k53 : sh_H → Option (Int32 × sh_H)) (hk53 : ∀ {d1 d2 d3 d4 : Option ai_V} (h : sh_H), sh_ok (k53 h) R → wq_232 d Q 53 [oR 12 0, d1, d2, d3, d4] [] (sh_E h)) (k143 : sh_H → Option (Int32 × sh_H)) (hk143 : ∀ {d1 d2 d3 d4 : Option ai_V} (h : sh_H), sh_ok (k143 h) R → wq_232 d Q 143 [oR 12 0, d1, d2, d3, d4] [] (sh_E h)) (k286 : sh_H → Option (Int32 × sh_H)) (hk286 : ∀ {d1 d2 d3 d4 : Option ai_V} (h : sh_H), sh_ok (k286 h) R → wq_232 d Q 286 [oR 12 0, d1, d2, d3, d4] [] (sh_E h)) (k343 : sh_H → Option (Int32 × sh_H)) (hk343 : ∀ {d1 d2 d3 d4 : Option ai_V} (h : sh_H), sh_ok (k343 h) R → wq_232 d Q 343 [oR 12 0, d1, d2, d3, d4] [] (sh_E h)) (k403 : sh_H → Option (Int32 × sh_H)) (hk403 : ∀ {d1 d2 d3 d4 : Option ai_V} (h : sh_H), sh_ok (k403 h) R → wq_232 d Q 403 [oR 12 0, d1, d2, d3, d4] [] (sh_E h)) (n : Nat) : ∀ (l1 : Int32) (l2 : Int32) (l3 : Int32) {d4 : Option ai_V} (h : sh_H), sh_ok (f_M_expr_l21 N k53 k143 k286 k343 k403 n l1 l2 l3 h) R → wq_232 d Q 21 [oR 12 0, oI l1, oI l2, oI l3, d4] [] (sh_E h) := by
  induction n with
  | zero => intro l1 l2 l3 d4 h H; exact H.elim
  | succ n ih =>
    intro l1 l2 l3 d4 h H
    have hk21 := @ih
    replace H : sh_ok (f_M_expr_c21 N k53 k143 k286 k343 k403 (f_M_expr_l21 N k53 k143 k286 k343 k403 n) l1 l2 l3 h) R := H
    revert hk21 H
    generalize f_M_expr_l21 N k53 k143 k286 k343 k403 n = k21
    intro hk21 H
    refine ai_WP_steps mc_232 (sh_CM d) 2 (And.intro (fun c => ?_) (fun c => ?_))
    · replace H := sh_okT c H
      exact hk403 h H
    · replace H := sh_okF c H
      show wq_232 d Q 25 [oR 12 0, oI l1, oI l2, oI l3, _] [] (sh_E h)
      refine ai_WP_steps mc_232 (sh_CM d) 2 (And.intro (fun c => ?_) (fun c => ?_))
      · replace H := sh_okT c H
        exact x_M_expr_b90 N hd hR k21 hk21 k143 hk143 k286 hk286 k343 hk343 l1 l2 l3 h H
      · replace H := sh_okF c H
        show wq_232 d Q 29 [oR 12 0, oI l1, oI l2, oI l3, _] [] (sh_E h)
        refine ai_WP_steps mc_232 (sh_CM d) 3 (And.intro (Nat.le_of_ble_eq_true rfl) (x_M_isSign (Nat.le_trans (Nat.le_of_ble_eq_true rfl) hd) (40 : Int32) h (sh_okB H) (fun v25 H => ?_)))
        show wq_232 d Q 35 [oR 12 0, oI l1, oI l2, oI l3, _] [aI v25] (sh_E h)
        refine ai_WP_steps mc_232 (sh_CM d) 1 (And.intro (fun c => ?_) (fun c => ?_))
        · replace H := sh_okT c H
          show wq_232 d Q 38 [oR 12 0, oI l1, oI l2, oI l3, _] [] (sh_E h)
          refine ai_WP_steps mc_232 (sh_CM d) 3 (And.intro (Nat.le_of_ble_eq_true rfl) (x_M_isSign (Nat.le_trans (Nat.le_of_ble_eq_true rfl) hd) (91 : Int32) h (sh_okB H) (fun v26 H => ?_)))
          show wq_232 d Q 44 [oR 12 0, oI l1, oI l2, oI l3, _] [aI v26] (sh_E h)
          refine ai_WP_steps mc_232 (sh_CM d) 1 (And.intro (fun c => ?_) (fun c => ?_))
          · replace H := sh_okT c H
            exact x_M_expr_b90 N hd hR k21 hk21 k143 hk143 k286 hk286 k343 hk343 l1 l2 l3 h H
          · replace H := sh_okF c H
            exact x_M_expr_b47 N hd hR k21 hk21 k53 hk53 l1 l2 l3 h H
        · replace H := sh_okF c H
          exact x_M_expr_b47 N hd hR k21 hk21 k53 hk53 l1 l2 l3 h H
def f_M_expr_b53 (N : Nat)    (h : sh_H) : Option (Int32 × sh_H) := (sh_b2 (f_M_wrong (2 : Int32) h) (fun v27 h28 => (some ((ai_nar 1 v27), h28))))
theorem x_M_expr_b53 (N : Nat) {d : Nat} (hd : 3 ≤ d) {Q : ai_Q} {R : Int32 × sh_H → Prop} (hR : ∀ r h, R (r, h) → Q (some (aI r)) (sh_E h))    {d1 d2 d3 d4 : Option ai_V} (h : sh_H) (H : sh_ok (f_M_expr_b53 N h) R) : wq_232 d Q 53 [oR 12 0, d1, d2, d3, d4] [] (sh_E h) := by
  refine ai_WP_steps mc_232 (sh_CM d) 3 (And.intro (Nat.le_of_ble_eq_true rfl) (x_M_wrong (Nat.le_trans (Nat.le_of_ble_eq_true rfl) hd) (2 : Int32) h (sh_okB H) (fun v27 h28 H => ?_)))
  show wq_232 d Q 58 [oR 12 0, _, _, _, _] [aI v27] (sh_E h28)
  exact ai_WP_steps mc_232 (sh_CM d) 1 (hR (ai_nar 1 v27) h28 H)
def f_M_expr_b143 (N : Nat)    (h : sh_H) : Option (Int32 × sh_H) := (sh_b2 (f_M_wrong (1 : Int32) h) (fun v29 h30 => (some ((ai_nar 1 v29), h30))))
theorem x_M_expr_b143 (N : Nat) {d : Nat} (hd : 3 ≤ d) {Q : ai_Q} {R : Int32 × sh_H → Prop} (hR : ∀ r h, R (r, h) → Q (some (aI r)) (sh_E h))    {d1 d2 d3 d4 : Option ai_V} (h : sh_H) (H : sh_ok (f_M_expr_b143 N h) R) : wq_232 d Q 143 [oR 12 0, d1, d2, d3, d4] [] (sh_E h) := by
  refine ai_WP_steps mc_232 (sh_CM d) 3 (And.intro (Nat.le_of_ble_eq_true rfl) (x_M_wrong (Nat.le_trans (Nat.le_of_ble_eq_true rfl) hd) (1 : Int32) h (sh_okB H) (fun v29 h30 H => ?_)))
  show wq_232 d Q 148 [oR 12 0, _, _, _, _] [aI v29] (sh_E h30)
  exact ai_WP_steps mc_232 (sh_CM d) 1 (hR (ai_nar 1 v29) h30 H)
def f_M_expr_b286 (N : Nat)    (h : sh_H) : Option (Int32 × sh_H) := (sh_b2 (f_M_wrong (1 : Int32) h) (fun v31 h32 => (some ((ai_nar 1 v31), h32))))
theorem x_M_expr_b286 (N : Nat) {d : Nat} (hd : 3 ≤ d) {Q : ai_Q} {R : Int32 × sh_H → Prop} (hR : ∀ r h, R (r, h) → Q (some (aI r)) (sh_E h))    {d1 d2 d3 d4 : Option ai_V} (h : sh_H) (H : sh_ok (f_M_expr_b286 N h) R) : wq_232 d Q 286 [oR 12 0, d1, d2, d3, d4] [] (sh_E h) := by
  refine ai_WP_steps mc_232 (sh_CM d) 3 (And.intro (Nat.le_of_ble_eq_true rfl) (x_M_wrong (Nat.le_trans (Nat.le_of_ble_eq_true rfl) hd) (1 : Int32) h (sh_okB H) (fun v31 h32 H => ?_)))
  show wq_232 d Q 291 [oR 12 0, _, _, _, _] [aI v31] (sh_E h32)
  exact ai_WP_steps mc_232 (sh_CM d) 1 (hR (ai_nar 1 v31) h32 H)
def f_M_expr_b343 (N : Nat)    (h : sh_H) : Option (Int32 × sh_H) := (sh_b2 (f_M_wrong (1 : Int32) h) (fun v33 h34 => (some ((ai_nar 1 v33), h34))))
theorem x_M_expr_b343 (N : Nat) {d : Nat} (hd : 3 ≤ d) {Q : ai_Q} {R : Int32 × sh_H → Prop} (hR : ∀ r h, R (r, h) → Q (some (aI r)) (sh_E h))    {d1 d2 d3 d4 : Option ai_V} (h : sh_H) (H : sh_ok (f_M_expr_b343 N h) R) : wq_232 d Q 343 [oR 12 0, d1, d2, d3, d4] [] (sh_E h) := by
  refine ai_WP_steps mc_232 (sh_CM d) 3 (And.intro (Nat.le_of_ble_eq_true rfl) (x_M_wrong (Nat.le_trans (Nat.le_of_ble_eq_true rfl) hd) (1 : Int32) h (sh_okB H) (fun v33 h34 H => ?_)))
  show wq_232 d Q 348 [oR 12 0, _, _, _, _] [aI v33] (sh_E h34)
  exact ai_WP_steps mc_232 (sh_CM d) 1 (hR (ai_nar 1 v33) h34 H)
def f_M_expr_b403 (N : Nat)    (h : sh_H) : Option (Int32 × sh_H) := (Option.bind (f_M_reduce N (1 : Int32) h) (fun h35 => (some ((ai_nar 1 (1 : Int32)), h35))))
theorem x_M_expr_b403 (N : Nat) {d : Nat} (hd : 3 ≤ d) {Q : ai_Q} {R : Int32 × sh_H → Prop} (hR : ∀ r h, R (r, h) → Q (some (aI r)) (sh_E h))    {d1 d2 d3 d4 : Option ai_V} (h : sh_H) (H : sh_ok (f_M_expr_b403 N h) R) : wq_232 d Q 403 [oR 12 0, d1, d2, d3, d4] [] (sh_E h) := by
  refine ai_WP_steps mc_232 (sh_CM d) 3 (And.intro (Nat.le_of_ble_eq_true rfl) (x_M_reduce N (Nat.le_trans (Nat.le_of_ble_eq_true rfl) hd) (1 : Int32) h (sh_okB H) (fun h35 H => ?_)))
  show wq_232 d Q 408 [oR 12 0, _, _, _, _] [] (sh_E h35)
  exact ai_WP_steps mc_232 (sh_CM d) 2 (hR (ai_nar 1 (1 : Int32)) h35 H)
def f_M_expr (N : Nat)   (h : sh_H) : Option (Int32 × sh_H) := (Option.bind (f_M_told (10 : Int32) h) (fun v36 => (sh_let (sh_pI h 12 0 22 v36) (fun h37 => (sh_let (sh_pI h37 12 0 20 (0 : Int32)) (fun h38 => f_M_expr_l21 N (f_M_expr_b53 N) (f_M_expr_b143 N) (f_M_expr_b286 N) (f_M_expr_b343 N) (f_M_expr_b403 N) N (0 : Int32) (1 : Int32) (1 : Int32) h38))))))
theorem x_M_expr (N : Nat) {d : Nat} (hd : 4 ≤ d)  (h : sh_H) {Q : ai_Q} {R : Int32 × sh_H → Prop} (H : sh_ok (f_M_expr N h) R) (hR : ∀ r h, R (r, h) → Q (some (aI r)) (sh_E h)) : ai_Ex sh_T d 232 [aR 12 0] (sh_E h) Q := by
  obtain ⟨d, rfl⟩ : ∃ e, d = e + 1 := ⟨d - 1, by omega⟩
  replace hd : 3 ≤ d := by omega
  refine And.intro (Nat.le_of_ble_eq_true rfl) ?_
  show wq_232 d Q 0 [oR 12 0, none, none, none, none] [] (sh_E h)
  refine ai_WP_steps mc_232 (sh_CM d) 4 (And.intro (Nat.le_of_ble_eq_true rfl) (x_M_told (Nat.le_trans (Nat.le_of_ble_eq_true rfl) hd) (10 : Int32) h (sh_okB H) (fun v36 H => ?_)))
  show wq_232 d Q 7 [oR 12 0, _, _, _, _] [aI v36, aR 12 0] (sh_E h)
  refine ai_WP_steps mc_232 (sh_CM d) 1 (And.intro trivial ?_)
  show wq_232 d Q 10 [oR 12 0, _, _, _, _] [] (sh_E (sh_pI h 12 0 22 v36))
  replace H := sh_okL H
  generalize sh_pI h 12 0 22 v36 = h37 at H ⊢
  refine ai_WP_steps mc_232 (sh_CM d) 3 (And.intro trivial ?_)
  show wq_232 d Q 15 [oR 12 0, _, _, _, _] [] (sh_E (sh_pI h37 12 0 20 (0 : Int32)))
  replace H := sh_okL H
  generalize sh_pI h37 12 0 20 (0 : Int32) = h38 at H ⊢
  refine ai_WP_steps mc_232 (sh_CM d) 6 ?_
  exact x_M_expr_l21 N hd hR (f_M_expr_b53 N) (fun {e1} {e2} {e3} {e4} h H => x_M_expr_b53 N hd hR  h H) (f_M_expr_b143 N) (fun {e1} {e2} {e3} {e4} h H => x_M_expr_b143 N hd hR  h H) (f_M_expr_b286 N) (fun {e1} {e2} {e3} {e4} h H => x_M_expr_b286 N hd hR  h H) (f_M_expr_b343 N) (fun {e1} {e2} {e3} {e4} h H => x_M_expr_b343 N hd hR  h H) (f_M_expr_b403 N) (fun {e1} {e2} {e3} {e4} h H => x_M_expr_b403 N hd hR  h H) N (0 : Int32) (1 : Int32) (1 : Int32) h38 H
