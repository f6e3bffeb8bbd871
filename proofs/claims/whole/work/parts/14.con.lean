/-! CONSTRUCTORS, by the abstract machine: written by program (wip/whole/gen/con.py) -/
def ih_I (h : ai_H) (c a j : Nat) (v : Int32) : ai_H := (ai_up3 h.1 c a j v, h.2)
def ih_R (h : ai_H) (c a j b : Nat) : ai_H := (h.1, h.2.1, ai_up3 h.2.2.1 c a j (b + 1), h.2.2.2)
/-- a field made: an object, an array -/
def st_obj (ini : ai_H → Nat → ai_H) (C c a j : Nat) (h : ai_H) : ai_H := ih_R (ini (ai_new h C 0) (h.2.2.2.1 C)) c a j (h.2.2.2.1 C)
def st_arr (k n c a j : Nat) (h : ai_H) : ai_H := ih_R (ai_new h k n) c a j (h.2.2.2.1 k)
def ini_Rows (m w : Int32) (h : ai_H) (r : Nat) : ai_H := st_arr 13 (m * w).toNatClampNeg 6 r 2 (ih_I (ih_I h 6 r 0 m) 6 r 1 w)
def ini_zero (h : ai_H) (r : Nat) : ai_H := ih_I h 6 r 3 (h.1 6 r 0)
theorem e_max0 {d : Nat} (hd : 1 ≤ d) {h : ai_H} {m : Int32} (hm : ¬ m < 0) {Q : ai_Q} (H : Q (some (aI m)) h) : ai_Ex sh_T d 345 [aI 0, aI m] h Q := by
  obtain ⟨d, rfl⟩ : ∃ e, d = e + 1 := ⟨d - 1, by omega⟩
  refine And.intro (Nat.le_of_ble_eq_true rfl) ?_
  show wq_345 d Q 0 [oI 0, oI m] [] h
  refine ai_WP_steps mc_345 (sh_CM d) 3 (And.intro (fun c => ?_) (fun c => ?_))
  · show wq_345 d Q 9 [oI 0, oI m] [] h
    exact ai_WP_steps mc_345 (sh_CM d) 2 H
  · have e : m = 0 := by
      rcases Int32.lt_or_eq_of_le (Int32.not_lt.mp hm) with q | q
      · exact absurd q c
      · exact q.symm
    subst e
    show wq_345 d Q 5 [oI 0, oI 0] [] h
    exact ai_WP_steps mc_345 (sh_CM d) 3 H
theorem ih_rows1 (h : ai_H) (r : Nat) (m w : Int32) : (ih_I (ih_I h 6 r 0 m) 6 r 1 w).1 6 r 0 = m ∧ (ih_I (ih_I h 6 r 0 m) 6 r 1 w).1 6 r 1 = w := by
  refine ⟨?_, ai_up3_at 1⟩
  exact (ai_up3_at (f := ai_up3 h.1 6 r 0 m) 0).trans (ai_up3_at 0)
set_option maxRecDepth 20000 in
theorem e_Rows_init {d : Nat} (hd : 2 ≤ d) {h : ai_H} {r : Nat} {m w : Int32} (hm : ¬ m < 0) (hw : ¬ w < 0) (hmw : ¬ m * w < 0) (hb : (m * w).toNatClampNeg ≤ 300) {Q : ai_Q} (H : Q none (ini_Rows m w h r)) : ai_Ex sh_T d 97 [aR 6 r, aI m, aI w] h Q := by
  obtain ⟨d, rfl⟩ : ∃ e, d = e + 1 := ⟨d - 1, by omega⟩
  replace hd : 1 ≤ d := by omega
  refine And.intro (Nat.le_of_ble_eq_true rfl) ?_
  show ai_WP cd_97 (ai_Ex sh_T d) Q 0 0 0 [oR 6 r, oI m, oI w] [] h
  refine ai_WP_steps mc_97 (sh_CM d) 2 (And.intro (Nat.le_of_ble_eq_true rfl) ?_)
  refine ai_WP_steps mc_97 (sh_CM d) 4 (And.intro (Nat.le_of_ble_eq_true rfl) (e_max0 hd hm ?_))
  refine ai_WP_steps mc_97 (sh_CM d) 1 (And.intro trivial ?_)
  refine ai_WP_steps mc_97 (sh_CM d) 4 (And.intro (Nat.le_of_ble_eq_true rfl) (e_max0 hd hw ?_))
  refine ai_WP_steps mc_97 (sh_CM d) 1 (And.intro trivial ?_)
  obtain ⟨e0, e1⟩ := ih_rows1 h r m w
  refine ai_WP_steps mc_97 (sh_CM d) 7 ?_
  show ai_WP cd_97 (ai_Ex sh_T d) Q 0 0 33 [oR 6 r, oI m, oI w] [aI ((ih_I (ih_I h 6 r 0 m) 6 r 1 w).1 6 r 0 * (ih_I (ih_I h 6 r 0 m) 6 r 1 w).1 6 r 1), aI 0, aR 6 r] (ih_I (ih_I h 6 r 0 m) 6 r 1 w)
  rw [e0, e1]
  refine ai_WP_steps mc_97 (sh_CM d) 1 (And.intro (Nat.le_of_ble_eq_true rfl) (e_max0 hd hmw ?_))
  refine ai_WP_steps mc_97 (sh_CM d) 1 (And.intro ⟨hmw, by omega, Nat.le_of_ble_eq_true rfl, by show 0 + _ ≤ 300; omega⟩ ?_)
  exact ai_WP_steps mc_97 (sh_CM d) 2 H
theorem ai_up3_same {α : Type} {f : Nat → Nat → Nat → α} {c i j : Nat} {v : α} (e : f c i j = v) : ai_up3 f c i j v = f := by
  funext c' i' j'
  unfold ai_up3
  by_cases q : c' = c ∧ i' = i ∧ j' = j
  · rw [if_pos q, q.1, q.2.1, q.2.2, e]
  · rw [if_neg q]
/-- a reference read, one step -/
theorem e_getR {code : Nat → Option ai_Op} (hm : ai_MC code) {C : ai_C} (hC : ai_CM C) {Q : ai_Q} {u w pc : Nat} {lo : ai_L} {st : ai_S} {h : ai_H} {c a j t nx b : Nat} (hc : code pc = some (op_getR c j t nx)) (e : h.2.2.1 c a j = b + 1) (x : ai_WP code C Q u w nx lo (aR t b :: st) h) : ai_WP code C Q u w pc lo (aR c a :: st) h := by
  refine ai_WP_step hm hC ?_
  unfold ai_step
  rw [hc]
  show op_getR c j t nx C Q (ai_WP code C Q) u w lo (aR c a :: st) h
  unfold op_getR
  simp only [aR]
  rw [show Nat.beq c c = true from Nat.beq_refl c, e]
  exact x

theorem st_obj_R (ini : ai_H → Nat → ai_H) (C c a j : Nat) (h : ai_H) : (st_obj ini C c a j h).2.2.1 c a j = h.2.2.2.1 C + 1 := (ai_up3_at j).trans (if_pos rfl)
theorem st_rows_R (m w : Int32) (c a j : Nat) (h : ai_H) (hc : ¬ c = 6) : (st_obj (ini_Rows m w) 6 c a j h).2.2.1 6 (h.2.2.2.1 6) 2 = h.2.2.2.1 13 + 1 := by
  refine (ai_up3_off (fun q => hc q.1.symm) 2).trans ?_
  refine (ai_up3_at 2).trans ?_
  rfl
theorem st_rows_z (m w : Int32) (c a j : Nat) (h : ai_H) (i : Nat) : (st_obj (ini_Rows m w) 6 c a j h).1 13 (h.2.2.2.1 13) i = 0 := ai_z3_at (f := (ih_I (ih_I (ai_new h 6 0) 6 (h.2.2.2.1 6) 0 m) 6 (h.2.2.2.1 6) 1 w).1) i
theorem st_rows_l (m w : Int32) (c a j : Nat) (h : ai_H) : (st_obj (ini_Rows m w) 6 c a j h).2.2.2.2 13 (h.2.2.2.1 13) = (m * w).toNatClampNeg := if_pos ⟨rfl, rfl⟩
set_option maxRecDepth 20000 in
theorem e_zero {d : Nat} (hd : 1 ≤ d) {h : ai_H} {r b n : Nat} (hR : h.2.2.1 6 r 2 = b + 1) (hz : ∀ j, h.1 13 b j = 0) (hl : h.2.2.2.2 13 b = n) (hn : n ≤ 300) {Q : ai_Q} (H : Q none (ini_zero h r)) : ai_Ex sh_T d 105 [aR 6 r] h Q := by
  obtain ⟨d, rfl⟩ : ∃ e, d = e + 1 := ⟨d - 1, by omega⟩
  refine And.intro (Nat.le_of_ble_eq_true rfl) ?_
  show ai_WP cd_105 (ai_Ex sh_T d) Q 0 0 0 [oR 6 r, none] [] h
  refine ai_WP_steps mc_105 (sh_CM d) 4 (And.intro trivial ?_)
  show ai_WP cd_105 (ai_Ex sh_T d) Q 0 0 8 [oR 6 r, none] [] (ini_zero h r)
  refine ai_WP_steps mc_105 (sh_CM d) 2 ?_
  show ai_WP cd_105 (ai_Ex sh_T d) Q 0 0 10 [oR 6 r, oI 0] [] (ini_zero h r)
  have hz2 : ∀ j, (ini_zero h r).1 13 b j = 0 := fun j => (ai_up3_off (f := h.1) (c0 := 6) (i0 := r) (j0 := 3) (v := h.1 6 r 0) (c := 13) (i := b) (fun q => absurd q.1 (by decide)) j).trans (hz j)
  have hl2 : (ini_zero h r).2.2.2.2 13 b = n := hl
  have hR2 : (ini_zero h r).2.2.1 6 r 2 = b + 1 := hR
  generalize ini_zero h r = g at *
  have key : ∀ k, k ≤ n → ai_WP cd_105 (ai_Ex sh_T d) Q 0 0 10 [oR 6 r, oI (nI (n - k))] [] g := by
    intro k
    induction k with
    | zero =>
      intro _
      refine ai_WP_steps mc_105 (sh_CM d) 2 ?_
      refine e_getR mc_105 (sh_CM d) rfl hR2 ?_
      refine ai_WP_steps mc_105 (sh_CM d) 2 (And.intro (fun c => ?_) (fun c => ?_))
      · exfalso
        rw [hl2] at c
        exact Int32.lt_irrefl c
      · exact ai_WP_steps mc_105 (sh_CM d) 1 H
    | succ k ih =>
      intro hk
      refine ai_WP_steps mc_105 (sh_CM d) 2 ?_
      refine e_getR mc_105 (sh_CM d) rfl hR2 ?_
      refine ai_WP_steps mc_105 (sh_CM d) 2 (And.intro (fun c => ?_) (fun c => ?_))
      · refine ai_WP_steps mc_105 (sh_CM d) 1 ?_
        refine e_getR mc_105 (sh_CM d) rfl hR2 ?_
        have hin : ai_in (nI (n - (k + 1))) (g.2.2.2.2 13 b) := by rw [hl2]; exact nI_in (by omega) (by omega)
        refine ai_WP_steps mc_105 (sh_CM d) 3 (And.intro hin ?_)
        refine ai_WP_steps mc_105 (sh_CM d) 2 ?_
        have e : (ai_up3 g.1 13 b (nI (n - (k + 1))).toNatClampNeg 0, g.2) = g := by rw [ai_up3_same (hz2 _)]
        show ai_WP cd_105 (ai_Ex sh_T d) Q 0 0 10 [oR 6 r, oI (nI (n - (k + 1)) + 1)] [] (ai_up3 g.1 13 b (nI (n - (k + 1))).toNatClampNeg 0, g.2)
        rw [e, nI_1, show n - (k + 1) + 1 = n - k by omega]
        exact ih (by omega)
      · exfalso
        apply c
        rw [hl2]
        exact nI_lt (by omega) (by omega)
  have h0 := key n (Nat.le_refl n)
  rw [Nat.sub_self] at h0
  exact h0
def ini_Pieces (h : ai_H) (a : Nat) : ai_H := (ini_zero (st_obj (ini_Rows 30 4) 6 4 a 0 h) (h.2.2.2.1 6))
set_option maxRecDepth 20000 in
theorem e_Pieces_init {d : Nat} (hd : 3 ≤ d) {h : ai_H} {a : Nat} {Q : ai_Q} (H : Q none (ini_Pieces h a)) : ai_Ex sh_T d 61 [aR 4 a] h Q := by
  obtain ⟨d, rfl⟩ : ∃ e, d = e + 1 := ⟨d - 1, by omega⟩
  replace hd : 2 ≤ d := by omega
  refine And.intro (Nat.le_of_ble_eq_true rfl) ?_
  show ai_WP cd_61 (ai_Ex sh_T d) Q 0 0 0 [oR 4 a] [] h
  refine ai_WP_steps mc_61 (sh_CM d) 2 (And.intro (Nat.le_of_ble_eq_true rfl) ?_)
  refine ai_WP_steps mc_61 (sh_CM d) 2 (And.intro ⟨Nat.le_of_ble_eq_true rfl, Nat.le_of_ble_eq_true rfl⟩ ?_)
  refine ai_WP_steps mc_61 (sh_CM d) 4 (And.intro ⟨Nat.le_of_ble_eq_true rfl, Nat.le_of_ble_eq_true rfl, Nat.le_of_ble_eq_true rfl⟩ (e_Rows_init (m := 30) (w := 4) (Nat.le_trans (Nat.le_of_ble_eq_true rfl) hd) (by decide) (by decide) (by decide) (by decide) ⟨rfl, ?_⟩))
  refine ai_WP_steps mc_61 (sh_CM d) 1 ?_
  show ai_WP cd_61 (ai_Ex sh_T d) Q 2 304 18 [oR 4 a] [] (st_obj (ini_Rows 30 4) 6 4 a 0 h)
  refine ai_WP_steps mc_61 (sh_CM d) 1 ?_
  refine e_getR mc_61 (sh_CM d) rfl (st_obj_R ..) ?_
  refine ai_WP_steps mc_61 (sh_CM d) 1 (And.intro (Nat.le_of_ble_eq_true rfl) (e_zero (Nat.le_trans (Nat.le_of_ble_eq_true rfl) hd) (st_rows_R _ _ _ _ _ _ (by decide)) (fun i => st_rows_z _ _ _ _ _ _ i) (st_rows_l ..) (by decide) ?_))
  show ai_WP cd_61 (ai_Ex sh_T d) Q 2 304 25 [oR 4 a] [] (ini_zero (st_obj (ini_Rows 30 4) 6 4 a 0 h) (h.2.2.2.1 6))
  exact ai_WP_steps mc_61 (sh_CM d) 1 H
def ini_Formulas (h : ai_H) (a : Nat) : ai_H := (st_arr 13 32 2 a 2 (st_arr 13 400 2 a 0 h))
set_option maxRecDepth 20000 in
theorem e_Formulas_init {d : Nat} (hd : 2 ≤ d) {h : ai_H} {a : Nat} {Q : ai_Q} (H : Q none (ini_Formulas h a)) : ai_Ex sh_T d 33 [aR 2 a] h Q := by
  obtain ⟨d, rfl⟩ : ∃ e, d = e + 1 := ⟨d - 1, by omega⟩
  replace hd : 1 ≤ d := by omega
  refine And.intro (Nat.le_of_ble_eq_true rfl) ?_
  show ai_WP cd_33 (ai_Ex sh_T d) Q 0 0 0 [oR 2 a] [] h
  refine ai_WP_steps mc_33 (sh_CM d) 2 (And.intro (Nat.le_of_ble_eq_true rfl) ?_)
  refine ai_WP_steps mc_33 (sh_CM d) 3 (And.intro ⟨by decide, Nat.le_of_ble_eq_true rfl, Nat.le_of_ble_eq_true rfl, Nat.le_of_ble_eq_true rfl⟩ ?_)
  refine ai_WP_steps mc_33 (sh_CM d) 1 ?_
  show ai_WP cd_33 (ai_Ex sh_T d) Q 1 400 13 [oR 2 a] [] (st_arr 13 400 2 a 0 h)
  refine ai_WP_steps mc_33 (sh_CM d) 3 (And.intro ⟨by decide, Nat.le_of_ble_eq_true rfl, Nat.le_of_ble_eq_true rfl, Nat.le_of_ble_eq_true rfl⟩ ?_)
  refine ai_WP_steps mc_33 (sh_CM d) 1 ?_
  show ai_WP cd_33 (ai_Ex sh_T d) Q 2 432 21 [oR 2 a] [] (st_arr 13 32 2 a 2 (st_arr 13 400 2 a 0 h))
  exact ai_WP_steps mc_33 (sh_CM d) 1 H
def ini_Text (h : ai_H) (a : Nat) : ai_H := (st_obj ini_Formulas 2 9 a 7 (st_obj (ini_Rows 12 5) 6 9 a 6 (st_obj (ini_Rows 12 5) 6 9 a 5 (st_obj (ini_Rows 12 5) 6 9 a 4 (st_obj (ini_Rows 12 5) 6 9 a 3 (st_obj (ini_Rows 12 5) 6 9 a 2 (st_obj (ini_Rows 4 2) 6 9 a 1 (st_obj (ini_Rows 6 3) 6 9 a 0 h))))))))
set_option maxRecDepth 20000 in
theorem e_Text_init {d : Nat} (hd : 3 ≤ d) {h : ai_H} {a : Nat} {Q : ai_Q} (H : Q none (ini_Text h a)) : ai_Ex sh_T d 121 [aR 9 a] h Q := by
  obtain ⟨d, rfl⟩ : ∃ e, d = e + 1 := ⟨d - 1, by omega⟩
  replace hd : 2 ≤ d := by omega
  refine And.intro (Nat.le_of_ble_eq_true rfl) ?_
  show ai_WP cd_121 (ai_Ex sh_T d) Q 0 0 0 [oR 9 a] [] h
  refine ai_WP_steps mc_121 (sh_CM d) 2 (And.intro (Nat.le_of_ble_eq_true rfl) ?_)
  refine ai_WP_steps mc_121 (sh_CM d) 2 (And.intro ⟨Nat.le_of_ble_eq_true rfl, Nat.le_of_ble_eq_true rfl⟩ ?_)
  refine ai_WP_steps mc_121 (sh_CM d) 4 (And.intro ⟨Nat.le_of_ble_eq_true rfl, Nat.le_of_ble_eq_true rfl, Nat.le_of_ble_eq_true rfl⟩ (e_Rows_init (m := 6) (w := 3) (Nat.le_trans (Nat.le_of_ble_eq_true rfl) hd) (by decide) (by decide) (by decide) (by decide) ⟨rfl, ?_⟩))
  refine ai_WP_steps mc_121 (sh_CM d) 1 ?_
  show ai_WP cd_121 (ai_Ex sh_T d) Q 2 304 18 [oR 9 a] [] (st_obj (ini_Rows 6 3) 6 9 a 0 h)
  refine ai_WP_steps mc_121 (sh_CM d) 2 (And.intro ⟨Nat.le_of_ble_eq_true rfl, Nat.le_of_ble_eq_true rfl⟩ ?_)
  refine ai_WP_steps mc_121 (sh_CM d) 4 (And.intro ⟨Nat.le_of_ble_eq_true rfl, Nat.le_of_ble_eq_true rfl, Nat.le_of_ble_eq_true rfl⟩ (e_Rows_init (m := 4) (w := 2) (Nat.le_trans (Nat.le_of_ble_eq_true rfl) hd) (by decide) (by decide) (by decide) (by decide) ⟨rfl, ?_⟩))
  refine ai_WP_steps mc_121 (sh_CM d) 1 ?_
  show ai_WP cd_121 (ai_Ex sh_T d) Q 4 608 31 [oR 9 a] [] (st_obj (ini_Rows 4 2) 6 9 a 1 (st_obj (ini_Rows 6 3) 6 9 a 0 h))
  refine ai_WP_steps mc_121 (sh_CM d) 2 (And.intro ⟨Nat.le_of_ble_eq_true rfl, Nat.le_of_ble_eq_true rfl⟩ ?_)
  refine ai_WP_steps mc_121 (sh_CM d) 4 (And.intro ⟨Nat.le_of_ble_eq_true rfl, Nat.le_of_ble_eq_true rfl, Nat.le_of_ble_eq_true rfl⟩ (e_Rows_init (m := 12) (w := 5) (Nat.le_trans (Nat.le_of_ble_eq_true rfl) hd) (by decide) (by decide) (by decide) (by decide) ⟨rfl, ?_⟩))
  refine ai_WP_steps mc_121 (sh_CM d) 1 ?_
  show ai_WP cd_121 (ai_Ex sh_T d) Q 6 912 45 [oR 9 a] [] (st_obj (ini_Rows 12 5) 6 9 a 2 (st_obj (ini_Rows 4 2) 6 9 a 1 (st_obj (ini_Rows 6 3) 6 9 a 0 h)))
  refine ai_WP_steps mc_121 (sh_CM d) 2 (And.intro ⟨Nat.le_of_ble_eq_true rfl, Nat.le_of_ble_eq_true rfl⟩ ?_)
  refine ai_WP_steps mc_121 (sh_CM d) 4 (And.intro ⟨Nat.le_of_ble_eq_true rfl, Nat.le_of_ble_eq_true rfl, Nat.le_of_ble_eq_true rfl⟩ (e_Rows_init (m := 12) (w := 5) (Nat.le_trans (Nat.le_of_ble_eq_true rfl) hd) (by decide) (by decide) (by decide) (by decide) ⟨rfl, ?_⟩))
  refine ai_WP_steps mc_121 (sh_CM d) 1 ?_
  show ai_WP cd_121 (ai_Ex sh_T d) Q 8 1216 59 [oR 9 a] [] (st_obj (ini_Rows 12 5) 6 9 a 3 (st_obj (ini_Rows 12 5) 6 9 a 2 (st_obj (ini_Rows 4 2) 6 9 a 1 (st_obj (ini_Rows 6 3) 6 9 a 0 h))))
  refine ai_WP_steps mc_121 (sh_CM d) 2 (And.intro ⟨Nat.le_of_ble_eq_true rfl, Nat.le_of_ble_eq_true rfl⟩ ?_)
  refine ai_WP_steps mc_121 (sh_CM d) 4 (And.intro ⟨Nat.le_of_ble_eq_true rfl, Nat.le_of_ble_eq_true rfl, Nat.le_of_ble_eq_true rfl⟩ (e_Rows_init (m := 12) (w := 5) (Nat.le_trans (Nat.le_of_ble_eq_true rfl) hd) (by decide) (by decide) (by decide) (by decide) ⟨rfl, ?_⟩))
  refine ai_WP_steps mc_121 (sh_CM d) 1 ?_
  show ai_WP cd_121 (ai_Ex sh_T d) Q 10 1520 73 [oR 9 a] [] (st_obj (ini_Rows 12 5) 6 9 a 4 (st_obj (ini_Rows 12 5) 6 9 a 3 (st_obj (ini_Rows 12 5) 6 9 a 2 (st_obj (ini_Rows 4 2) 6 9 a 1 (st_obj (ini_Rows 6 3) 6 9 a 0 h)))))
  refine ai_WP_steps mc_121 (sh_CM d) 2 (And.intro ⟨Nat.le_of_ble_eq_true rfl, Nat.le_of_ble_eq_true rfl⟩ ?_)
  refine ai_WP_steps mc_121 (sh_CM d) 4 (And.intro ⟨Nat.le_of_ble_eq_true rfl, Nat.le_of_ble_eq_true rfl, Nat.le_of_ble_eq_true rfl⟩ (e_Rows_init (m := 12) (w := 5) (Nat.le_trans (Nat.le_of_ble_eq_true rfl) hd) (by decide) (by decide) (by decide) (by decide) ⟨rfl, ?_⟩))
  refine ai_WP_steps mc_121 (sh_CM d) 1 ?_
  show ai_WP cd_121 (ai_Ex sh_T d) Q 12 1824 87 [oR 9 a] [] (st_obj (ini_Rows 12 5) 6 9 a 5 (st_obj (ini_Rows 12 5) 6 9 a 4 (st_obj (ini_Rows 12 5) 6 9 a 3 (st_obj (ini_Rows 12 5) 6 9 a 2 (st_obj (ini_Rows 4 2) 6 9 a 1 (st_obj (ini_Rows 6 3) 6 9 a 0 h))))))
  refine ai_WP_steps mc_121 (sh_CM d) 2 (And.intro ⟨Nat.le_of_ble_eq_true rfl, Nat.le_of_ble_eq_true rfl⟩ ?_)
  refine ai_WP_steps mc_121 (sh_CM d) 4 (And.intro ⟨Nat.le_of_ble_eq_true rfl, Nat.le_of_ble_eq_true rfl, Nat.le_of_ble_eq_true rfl⟩ (e_Rows_init (m := 12) (w := 5) (Nat.le_trans (Nat.le_of_ble_eq_true rfl) hd) (by decide) (by decide) (by decide) (by decide) ⟨rfl, ?_⟩))
  refine ai_WP_steps mc_121 (sh_CM d) 1 ?_
  show ai_WP cd_121 (ai_Ex sh_T d) Q 14 2128 101 [oR 9 a] [] (st_obj (ini_Rows 12 5) 6 9 a 6 (st_obj (ini_Rows 12 5) 6 9 a 5 (st_obj (ini_Rows 12 5) 6 9 a 4 (st_obj (ini_Rows 12 5) 6 9 a 3 (st_obj (ini_Rows 12 5) 6 9 a 2 (st_obj (ini_Rows 4 2) 6 9 a 1 (st_obj (ini_Rows 6 3) 6 9 a 0 h)))))))
  refine ai_WP_steps mc_121 (sh_CM d) 2 (And.intro ⟨Nat.le_of_ble_eq_true rfl, Nat.le_of_ble_eq_true rfl⟩ ?_)
  refine ai_WP_steps mc_121 (sh_CM d) 2 (And.intro ⟨Nat.le_of_ble_eq_true rfl, Nat.le_of_ble_eq_true rfl, Nat.le_of_ble_eq_true rfl⟩ (e_Formulas_init (Nat.le_trans (Nat.le_of_ble_eq_true rfl) hd) ⟨rfl, ?_⟩))
  refine ai_WP_steps mc_121 (sh_CM d) 1 ?_
  show ai_WP cd_121 (ai_Ex sh_T d) Q 17 2565 112 [oR 9 a] [] (st_obj ini_Formulas 2 9 a 7 (st_obj (ini_Rows 12 5) 6 9 a 6 (st_obj (ini_Rows 12 5) 6 9 a 5 (st_obj (ini_Rows 12 5) 6 9 a 4 (st_obj (ini_Rows 12 5) 6 9 a 3 (st_obj (ini_Rows 12 5) 6 9 a 2 (st_obj (ini_Rows 4 2) 6 9 a 1 (st_obj (ini_Rows 6 3) 6 9 a 0 h))))))))
  exact ai_WP_steps mc_121 (sh_CM d) 1 H
def ini_Tokens (h : ai_H) (a : Nat) : ai_H := (st_arr 14 401 10 a 2 (st_arr 13 401 10 a 1 (st_arr 13 401 10 a 0 h)))
set_option maxRecDepth 20000 in
theorem e_Tokens_init {d : Nat} (hd : 2 ≤ d) {h : ai_H} {a : Nat} {Q : ai_Q} (H : Q none (ini_Tokens h a)) : ai_Ex sh_T d 132 [aR 10 a] h Q := by
  obtain ⟨d, rfl⟩ : ∃ e, d = e + 1 := ⟨d - 1, by omega⟩
  replace hd : 1 ≤ d := by omega
  refine And.intro (Nat.le_of_ble_eq_true rfl) ?_
  show ai_WP cd_132 (ai_Ex sh_T d) Q 0 0 0 [oR 10 a] [] h
  refine ai_WP_steps mc_132 (sh_CM d) 2 (And.intro (Nat.le_of_ble_eq_true rfl) ?_)
  refine ai_WP_steps mc_132 (sh_CM d) 3 (And.intro ⟨by decide, Nat.le_of_ble_eq_true rfl, Nat.le_of_ble_eq_true rfl, Nat.le_of_ble_eq_true rfl⟩ ?_)
  refine ai_WP_steps mc_132 (sh_CM d) 1 ?_
  show ai_WP cd_132 (ai_Ex sh_T d) Q 1 401 13 [oR 10 a] [] (st_arr 13 401 10 a 0 h)
  refine ai_WP_steps mc_132 (sh_CM d) 3 (And.intro ⟨by decide, Nat.le_of_ble_eq_true rfl, Nat.le_of_ble_eq_true rfl, Nat.le_of_ble_eq_true rfl⟩ ?_)
  refine ai_WP_steps mc_132 (sh_CM d) 1 ?_
  show ai_WP cd_132 (ai_Ex sh_T d) Q 2 802 22 [oR 10 a] [] (st_arr 13 401 10 a 1 (st_arr 13 401 10 a 0 h))
  refine ai_WP_steps mc_132 (sh_CM d) 3 (And.intro ⟨by decide, Nat.le_of_ble_eq_true rfl, Nat.le_of_ble_eq_true rfl, Nat.le_of_ble_eq_true rfl⟩ ?_)
  refine ai_WP_steps mc_132 (sh_CM d) 1 ?_
  show ai_WP cd_132 (ai_Ex sh_T d) Q 3 1203 31 [oR 10 a] [] (st_arr 14 401 10 a 2 (st_arr 13 401 10 a 1 (st_arr 13 401 10 a 0 h)))
  exact ai_WP_steps mc_132 (sh_CM d) 1 H
def ini_Reader (h : ai_H) (a : Nat) : ai_H := (st_arr 14 4 5 a 2 (st_arr 14 6 5 a 1 (st_obj ini_Tokens 10 5 a 0 h)))
set_option maxRecDepth 20000 in
theorem e_Reader_init {d : Nat} (hd : 3 ≤ d) {h : ai_H} {a : Nat} {Q : ai_Q} (H : Q none (ini_Reader h a)) : ai_Ex sh_T d 69 [aR 5 a] h Q := by
  obtain ⟨d, rfl⟩ : ∃ e, d = e + 1 := ⟨d - 1, by omega⟩
  replace hd : 2 ≤ d := by omega
  refine And.intro (Nat.le_of_ble_eq_true rfl) ?_
  show ai_WP cd_69 (ai_Ex sh_T d) Q 0 0 0 [oR 5 a] [] h
  refine ai_WP_steps mc_69 (sh_CM d) 2 (And.intro (Nat.le_of_ble_eq_true rfl) ?_)
  refine ai_WP_steps mc_69 (sh_CM d) 2 (And.intro ⟨Nat.le_of_ble_eq_true rfl, Nat.le_of_ble_eq_true rfl⟩ ?_)
  refine ai_WP_steps mc_69 (sh_CM d) 2 (And.intro ⟨Nat.le_of_ble_eq_true rfl, Nat.le_of_ble_eq_true rfl, Nat.le_of_ble_eq_true rfl⟩ (e_Tokens_init (Nat.le_trans (Nat.le_of_ble_eq_true rfl) hd) ⟨rfl, ?_⟩))
  refine ai_WP_steps mc_69 (sh_CM d) 1 ?_
  show ai_WP cd_69 (ai_Ex sh_T d) Q 4 1210 15 [oR 5 a] [] (st_obj ini_Tokens 10 5 a 0 h)
  refine ai_WP_steps mc_69 (sh_CM d) 3 (And.intro ⟨by decide, Nat.le_of_ble_eq_true rfl, Nat.le_of_ble_eq_true rfl, Nat.le_of_ble_eq_true rfl⟩ ?_)
  refine ai_WP_steps mc_69 (sh_CM d) 1 ?_
  show ai_WP cd_69 (ai_Ex sh_T d) Q 5 1216 23 [oR 5 a] [] (st_arr 14 6 5 a 1 (st_obj ini_Tokens 10 5 a 0 h))
  refine ai_WP_steps mc_69 (sh_CM d) 3 (And.intro ⟨by decide, Nat.le_of_ble_eq_true rfl, Nat.le_of_ble_eq_true rfl, Nat.le_of_ble_eq_true rfl⟩ ?_)
  refine ai_WP_steps mc_69 (sh_CM d) 1 ?_
  show ai_WP cd_69 (ai_Ex sh_T d) Q 6 1220 30 [oR 5 a] [] (st_arr 14 4 5 a 2 (st_arr 14 6 5 a 1 (st_obj ini_Tokens 10 5 a 0 h)))
  exact ai_WP_steps mc_69 (sh_CM d) 1 H
def ini_State (h : ai_H) (a : Nat) : ai_H := (ini_zero (st_obj (ini_Rows 4 6) 6 7 a 3 (st_obj (ini_Rows 60 5) 6 7 a 2 (st_obj (ini_Rows 40 6) 6 7 a 1 (st_obj ini_Pieces 4 7 a 0 h)))) ((st_obj (ini_Rows 60 5) 6 7 a 2 (st_obj (ini_Rows 40 6) 6 7 a 1 (st_obj ini_Pieces 4 7 a 0 h))).2.2.2.1 6))
set_option maxRecDepth 20000 in
theorem e_State_init {d : Nat} (hd : 4 ≤ d) {h : ai_H} {a : Nat} {Q : ai_Q} (H : Q none (ini_State h a)) : ai_Ex sh_T d 107 [aR 7 a] h Q := by
  obtain ⟨d, rfl⟩ : ∃ e, d = e + 1 := ⟨d - 1, by omega⟩
  replace hd : 3 ≤ d := by omega
  refine And.intro (Nat.le_of_ble_eq_true rfl) ?_
  show ai_WP cd_107 (ai_Ex sh_T d) Q 0 0 0 [oR 7 a] [] h
  refine ai_WP_steps mc_107 (sh_CM d) 2 (And.intro (Nat.le_of_ble_eq_true rfl) ?_)
  refine ai_WP_steps mc_107 (sh_CM d) 2 (And.intro ⟨Nat.le_of_ble_eq_true rfl, Nat.le_of_ble_eq_true rfl⟩ ?_)
  refine ai_WP_steps mc_107 (sh_CM d) 2 (And.intro ⟨Nat.le_of_ble_eq_true rfl, Nat.le_of_ble_eq_true rfl, Nat.le_of_ble_eq_true rfl⟩ (e_Pieces_init (Nat.le_trans (Nat.le_of_ble_eq_true rfl) hd) ⟨rfl, ?_⟩))
  refine ai_WP_steps mc_107 (sh_CM d) 1 ?_
  show ai_WP cd_107 (ai_Ex sh_T d) Q 3 305 15 [oR 7 a] [] (st_obj ini_Pieces 4 7 a 0 h)
  refine ai_WP_steps mc_107 (sh_CM d) 2 (And.intro ⟨Nat.le_of_ble_eq_true rfl, Nat.le_of_ble_eq_true rfl⟩ ?_)
  refine ai_WP_steps mc_107 (sh_CM d) 4 (And.intro ⟨Nat.le_of_ble_eq_true rfl, Nat.le_of_ble_eq_true rfl, Nat.le_of_ble_eq_true rfl⟩ (e_Rows_init (m := 40) (w := 6) (Nat.le_trans (Nat.le_of_ble_eq_true rfl) hd) (by decide) (by decide) (by decide) (by decide) ⟨rfl, ?_⟩))
  refine ai_WP_steps mc_107 (sh_CM d) 1 ?_
  show ai_WP cd_107 (ai_Ex sh_T d) Q 5 609 30 [oR 7 a] [] (st_obj (ini_Rows 40 6) 6 7 a 1 (st_obj ini_Pieces 4 7 a 0 h))
  refine ai_WP_steps mc_107 (sh_CM d) 2 (And.intro ⟨Nat.le_of_ble_eq_true rfl, Nat.le_of_ble_eq_true rfl⟩ ?_)
  refine ai_WP_steps mc_107 (sh_CM d) 4 (And.intro ⟨Nat.le_of_ble_eq_true rfl, Nat.le_of_ble_eq_true rfl, Nat.le_of_ble_eq_true rfl⟩ (e_Rows_init (m := 60) (w := 5) (Nat.le_trans (Nat.le_of_ble_eq_true rfl) hd) (by decide) (by decide) (by decide) (by decide) ⟨rfl, ?_⟩))
  refine ai_WP_steps mc_107 (sh_CM d) 1 ?_
  show ai_WP cd_107 (ai_Ex sh_T d) Q 7 913 44 [oR 7 a] [] (st_obj (ini_Rows 60 5) 6 7 a 2 (st_obj (ini_Rows 40 6) 6 7 a 1 (st_obj ini_Pieces 4 7 a 0 h)))
  refine ai_WP_steps mc_107 (sh_CM d) 2 (And.intro ⟨Nat.le_of_ble_eq_true rfl, Nat.le_of_ble_eq_true rfl⟩ ?_)
  refine ai_WP_steps mc_107 (sh_CM d) 4 (And.intro ⟨Nat.le_of_ble_eq_true rfl, Nat.le_of_ble_eq_true rfl, Nat.le_of_ble_eq_true rfl⟩ (e_Rows_init (m := 4) (w := 6) (Nat.le_trans (Nat.le_of_ble_eq_true rfl) hd) (by decide) (by decide) (by decide) (by decide) ⟨rfl, ?_⟩))
  refine ai_WP_steps mc_107 (sh_CM d) 1 ?_
  show ai_WP cd_107 (ai_Ex sh_T d) Q 9 1217 58 [oR 7 a] [] (st_obj (ini_Rows 4 6) 6 7 a 3 (st_obj (ini_Rows 60 5) 6 7 a 2 (st_obj (ini_Rows 40 6) 6 7 a 1 (st_obj ini_Pieces 4 7 a 0 h))))
  refine ai_WP_steps mc_107 (sh_CM d) 1 ?_
  refine e_getR mc_107 (sh_CM d) rfl (st_obj_R ..) ?_
  refine ai_WP_steps mc_107 (sh_CM d) 1 (And.intro (Nat.le_of_ble_eq_true rfl) (e_zero (Nat.le_trans (Nat.le_of_ble_eq_true rfl) hd) (st_rows_R _ _ _ _ _ _ (by decide)) (fun i => st_rows_z _ _ _ _ _ _ i) (st_rows_l ..) (by decide) ?_))
  show ai_WP cd_107 (ai_Ex sh_T d) Q 9 1217 65 [oR 7 a] [] (ini_zero (st_obj (ini_Rows 4 6) 6 7 a 3 (st_obj (ini_Rows 60 5) 6 7 a 2 (st_obj (ini_Rows 40 6) 6 7 a 1 (st_obj ini_Pieces 4 7 a 0 h)))) ((st_obj (ini_Rows 60 5) 6 7 a 2 (st_obj (ini_Rows 40 6) 6 7 a 1 (st_obj ini_Pieces 4 7 a 0 h))).2.2.2.1 6))
  exact ai_WP_steps mc_107 (sh_CM d) 1 H
def ini_Calendar (h : ai_H) (a : Nat) : ai_H := (st_obj ini_Pieces 4 0 a 1 (st_obj (ini_Rows 12 1) 6 0 a 0 h))
set_option maxRecDepth 20000 in
theorem e_Calendar_init {d : Nat} (hd : 4 ≤ d) {h : ai_H} {a : Nat} {Q : ai_Q} (H : Q none (ini_Calendar h a)) : ai_Ex sh_T d 0 [aR 0 a] h Q := by
  obtain ⟨d, rfl⟩ : ∃ e, d = e + 1 := ⟨d - 1, by omega⟩
  replace hd : 3 ≤ d := by omega
  refine And.intro (Nat.le_of_ble_eq_true rfl) ?_
  show ai_WP cd_0 (ai_Ex sh_T d) Q 0 0 0 [oR 0 a] [] h
  refine ai_WP_steps mc_0 (sh_CM d) 2 (And.intro (Nat.le_of_ble_eq_true rfl) ?_)
  refine ai_WP_steps mc_0 (sh_CM d) 2 (And.intro ⟨Nat.le_of_ble_eq_true rfl, Nat.le_of_ble_eq_true rfl⟩ ?_)
  refine ai_WP_steps mc_0 (sh_CM d) 4 (And.intro ⟨Nat.le_of_ble_eq_true rfl, Nat.le_of_ble_eq_true rfl, Nat.le_of_ble_eq_true rfl⟩ (e_Rows_init (m := 12) (w := 1) (Nat.le_trans (Nat.le_of_ble_eq_true rfl) hd) (by decide) (by decide) (by decide) (by decide) ⟨rfl, ?_⟩))
  refine ai_WP_steps mc_0 (sh_CM d) 1 ?_
  show ai_WP cd_0 (ai_Ex sh_T d) Q 2 304 18 [oR 0 a] [] (st_obj (ini_Rows 12 1) 6 0 a 0 h)
  refine ai_WP_steps mc_0 (sh_CM d) 2 (And.intro ⟨Nat.le_of_ble_eq_true rfl, Nat.le_of_ble_eq_true rfl⟩ ?_)
  refine ai_WP_steps mc_0 (sh_CM d) 2 (And.intro ⟨Nat.le_of_ble_eq_true rfl, Nat.le_of_ble_eq_true rfl, Nat.le_of_ble_eq_true rfl⟩ (e_Pieces_init (Nat.le_trans (Nat.le_of_ble_eq_true rfl) hd) ⟨rfl, ?_⟩))
  refine ai_WP_steps mc_0 (sh_CM d) 1 ?_
  show ai_WP cd_0 (ai_Ex sh_T d) Q 5 609 29 [oR 0 a] [] (st_obj ini_Pieces 4 0 a 1 (st_obj (ini_Rows 12 1) 6 0 a 0 h))
  exact ai_WP_steps mc_0 (sh_CM d) 1 H
def ini_Coins (h : ai_H) (a : Nat) : ai_H := (st_obj (ini_Rows 6 3) 6 1 a 2 (st_arr 13 4001 1 a 1 (st_arr 13 4001 1 a 0 h)))
set_option maxRecDepth 20000 in
theorem e_Coins_init {d : Nat} (hd : 3 ≤ d) {h : ai_H} {a : Nat} {Q : ai_Q} (H : Q none (ini_Coins h a)) : ai_Ex sh_T d 16 [aR 1 a] h Q := by
  obtain ⟨d, rfl⟩ : ∃ e, d = e + 1 := ⟨d - 1, by omega⟩
  replace hd : 2 ≤ d := by omega
  refine And.intro (Nat.le_of_ble_eq_true rfl) ?_
  show ai_WP cd_16 (ai_Ex sh_T d) Q 0 0 0 [oR 1 a] [] h
  refine ai_WP_steps mc_16 (sh_CM d) 2 (And.intro (Nat.le_of_ble_eq_true rfl) ?_)
  refine ai_WP_steps mc_16 (sh_CM d) 3 (And.intro ⟨by decide, Nat.le_of_ble_eq_true rfl, Nat.le_of_ble_eq_true rfl, Nat.le_of_ble_eq_true rfl⟩ ?_)
  refine ai_WP_steps mc_16 (sh_CM d) 1 ?_
  show ai_WP cd_16 (ai_Ex sh_T d) Q 1 4001 13 [oR 1 a] [] (st_arr 13 4001 1 a 0 h)
  refine ai_WP_steps mc_16 (sh_CM d) 3 (And.intro ⟨by decide, Nat.le_of_ble_eq_true rfl, Nat.le_of_ble_eq_true rfl, Nat.le_of_ble_eq_true rfl⟩ ?_)
  refine ai_WP_steps mc_16 (sh_CM d) 1 ?_
  show ai_WP cd_16 (ai_Ex sh_T d) Q 2 8002 22 [oR 1 a] [] (st_arr 13 4001 1 a 1 (st_arr 13 4001 1 a 0 h))
  refine ai_WP_steps mc_16 (sh_CM d) 2 (And.intro ⟨Nat.le_of_ble_eq_true rfl, Nat.le_of_ble_eq_true rfl⟩ ?_)
  refine ai_WP_steps mc_16 (sh_CM d) 4 (And.intro ⟨Nat.le_of_ble_eq_true rfl, Nat.le_of_ble_eq_true rfl, Nat.le_of_ble_eq_true rfl⟩ (e_Rows_init (m := 6) (w := 3) (Nat.le_trans (Nat.le_of_ble_eq_true rfl) hd) (by decide) (by decide) (by decide) (by decide) ⟨rfl, ?_⟩))
  refine ai_WP_steps mc_16 (sh_CM d) 1 ?_
  show ai_WP cd_16 (ai_Ex sh_T d) Q 4 8306 36 [oR 1 a] [] (st_obj (ini_Rows 6 3) 6 1 a 2 (st_arr 13 4001 1 a 1 (st_arr 13 4001 1 a 0 h)))
  exact ai_WP_steps mc_16 (sh_CM d) 1 H
def ini_Stocks (h : ai_H) (a : Nat) : ai_H := (st_arr 13 61 8 a 2 (st_arr 14 61 8 a 1 (st_arr 14 61 8 a 0 h)))
set_option maxRecDepth 20000 in
theorem e_Stocks_init {d : Nat} (hd : 2 ≤ d) {h : ai_H} {a : Nat} {Q : ai_Q} (H : Q none (ini_Stocks h a)) : ai_Ex sh_T d 110 [aR 8 a] h Q := by
  obtain ⟨d, rfl⟩ : ∃ e, d = e + 1 := ⟨d - 1, by omega⟩
  replace hd : 1 ≤ d := by omega
  refine And.intro (Nat.le_of_ble_eq_true rfl) ?_
  show ai_WP cd_110 (ai_Ex sh_T d) Q 0 0 0 [oR 8 a] [] h
  refine ai_WP_steps mc_110 (sh_CM d) 2 (And.intro (Nat.le_of_ble_eq_true rfl) ?_)
  refine ai_WP_steps mc_110 (sh_CM d) 3 (And.intro ⟨by decide, Nat.le_of_ble_eq_true rfl, Nat.le_of_ble_eq_true rfl, Nat.le_of_ble_eq_true rfl⟩ ?_)
  refine ai_WP_steps mc_110 (sh_CM d) 1 ?_
  show ai_WP cd_110 (ai_Ex sh_T d) Q 1 61 12 [oR 8 a] [] (st_arr 14 61 8 a 0 h)
  refine ai_WP_steps mc_110 (sh_CM d) 3 (And.intro ⟨by decide, Nat.le_of_ble_eq_true rfl, Nat.le_of_ble_eq_true rfl, Nat.le_of_ble_eq_true rfl⟩ ?_)
  refine ai_WP_steps mc_110 (sh_CM d) 1 ?_
  show ai_WP cd_110 (ai_Ex sh_T d) Q 2 122 20 [oR 8 a] [] (st_arr 14 61 8 a 1 (st_arr 14 61 8 a 0 h))
  refine ai_WP_steps mc_110 (sh_CM d) 3 (And.intro ⟨by decide, Nat.le_of_ble_eq_true rfl, Nat.le_of_ble_eq_true rfl, Nat.le_of_ble_eq_true rfl⟩ ?_)
  refine ai_WP_steps mc_110 (sh_CM d) 1 ?_
  show ai_WP cd_110 (ai_Ex sh_T d) Q 3 183 28 [oR 8 a] [] (st_arr 13 61 8 a 2 (st_arr 14 61 8 a 1 (st_arr 14 61 8 a 0 h)))
  exact ai_WP_steps mc_110 (sh_CM d) 1 H
def ini_Ledger (h : ai_H) (a : Nat) : ai_H := (st_obj (ini_Rows 60 1) 6 3 a 3 (st_obj (ini_Rows 5 2) 6 3 a 2 (st_obj (ini_Rows 5 6) 6 3 a 1 (st_obj (ini_Rows 5 6) 6 3 a 0 h))))
set_option maxRecDepth 20000 in
theorem e_Ledger_init {d : Nat} (hd : 3 ≤ d) {h : ai_H} {a : Nat} {Q : ai_Q} (H : Q none (ini_Ledger h a)) : ai_Ex sh_T d 41 [aR 3 a] h Q := by
  obtain ⟨d, rfl⟩ : ∃ e, d = e + 1 := ⟨d - 1, by omega⟩
  replace hd : 2 ≤ d := by omega
  refine And.intro (Nat.le_of_ble_eq_true rfl) ?_
  show ai_WP cd_41 (ai_Ex sh_T d) Q 0 0 0 [oR 3 a] [] h
  refine ai_WP_steps mc_41 (sh_CM d) 2 (And.intro (Nat.le_of_ble_eq_true rfl) ?_)
  refine ai_WP_steps mc_41 (sh_CM d) 2 (And.intro ⟨Nat.le_of_ble_eq_true rfl, Nat.le_of_ble_eq_true rfl⟩ ?_)
  refine ai_WP_steps mc_41 (sh_CM d) 4 (And.intro ⟨Nat.le_of_ble_eq_true rfl, Nat.le_of_ble_eq_true rfl, Nat.le_of_ble_eq_true rfl⟩ (e_Rows_init (m := 5) (w := 6) (Nat.le_trans (Nat.le_of_ble_eq_true rfl) hd) (by decide) (by decide) (by decide) (by decide) ⟨rfl, ?_⟩))
  refine ai_WP_steps mc_41 (sh_CM d) 1 ?_
  show ai_WP cd_41 (ai_Ex sh_T d) Q 2 304 18 [oR 3 a] [] (st_obj (ini_Rows 5 6) 6 3 a 0 h)
  refine ai_WP_steps mc_41 (sh_CM d) 2 (And.intro ⟨Nat.le_of_ble_eq_true rfl, Nat.le_of_ble_eq_true rfl⟩ ?_)
  refine ai_WP_steps mc_41 (sh_CM d) 4 (And.intro ⟨Nat.le_of_ble_eq_true rfl, Nat.le_of_ble_eq_true rfl, Nat.le_of_ble_eq_true rfl⟩ (e_Rows_init (m := 5) (w := 6) (Nat.le_trans (Nat.le_of_ble_eq_true rfl) hd) (by decide) (by decide) (by decide) (by decide) ⟨rfl, ?_⟩))
  refine ai_WP_steps mc_41 (sh_CM d) 1 ?_
  show ai_WP cd_41 (ai_Ex sh_T d) Q 4 608 32 [oR 3 a] [] (st_obj (ini_Rows 5 6) 6 3 a 1 (st_obj (ini_Rows 5 6) 6 3 a 0 h))
  refine ai_WP_steps mc_41 (sh_CM d) 2 (And.intro ⟨Nat.le_of_ble_eq_true rfl, Nat.le_of_ble_eq_true rfl⟩ ?_)
  refine ai_WP_steps mc_41 (sh_CM d) 4 (And.intro ⟨Nat.le_of_ble_eq_true rfl, Nat.le_of_ble_eq_true rfl, Nat.le_of_ble_eq_true rfl⟩ (e_Rows_init (m := 5) (w := 2) (Nat.le_trans (Nat.le_of_ble_eq_true rfl) hd) (by decide) (by decide) (by decide) (by decide) ⟨rfl, ?_⟩))
  refine ai_WP_steps mc_41 (sh_CM d) 1 ?_
  show ai_WP cd_41 (ai_Ex sh_T d) Q 6 912 45 [oR 3 a] [] (st_obj (ini_Rows 5 2) 6 3 a 2 (st_obj (ini_Rows 5 6) 6 3 a 1 (st_obj (ini_Rows 5 6) 6 3 a 0 h)))
  refine ai_WP_steps mc_41 (sh_CM d) 2 (And.intro ⟨Nat.le_of_ble_eq_true rfl, Nat.le_of_ble_eq_true rfl⟩ ?_)
  refine ai_WP_steps mc_41 (sh_CM d) 4 (And.intro ⟨Nat.le_of_ble_eq_true rfl, Nat.le_of_ble_eq_true rfl, Nat.le_of_ble_eq_true rfl⟩ (e_Rows_init (m := 60) (w := 1) (Nat.le_trans (Nat.le_of_ble_eq_true rfl) hd) (by decide) (by decide) (by decide) (by decide) ⟨rfl, ?_⟩))
  refine ai_WP_steps mc_41 (sh_CM d) 1 ?_
  show ai_WP cd_41 (ai_Ex sh_T d) Q 8 1216 59 [oR 3 a] [] (st_obj (ini_Rows 60 1) 6 3 a 3 (st_obj (ini_Rows 5 2) 6 3 a 2 (st_obj (ini_Rows 5 6) 6 3 a 1 (st_obj (ini_Rows 5 6) 6 3 a 0 h))))
  exact ai_WP_steps mc_41 (sh_CM d) 1 H
def ini_CB (h : ai_H) (a : Nat) : ai_H := (st_obj ini_Ledger 3 11 a 12 (st_obj ini_Stocks 8 11 a 11 (st_obj ini_Coins 1 11 a 10 (st_obj ini_Calendar 0 11 a 9 (st_obj ini_State 7 11 a 8 (st_obj ini_State 7 11 a 7 (st_obj ini_State 7 11 a 6 (st_obj ini_Reader 5 11 a 5 (st_obj ini_Text 9 11 a 4 (st_obj ini_Text 9 11 a 3 (ih_I (st_arr 15 2000 11 a 0 h) 11 a 2 (-1))))))))))))
set_option maxRecDepth 20000 in
theorem e_CB_init {d : Nat} (hd : 5 ≤ d) {h : ai_H} {a : Nat} {Q : ai_Q} (H : Q none (ini_CB h a)) : ai_Ex sh_T d 146 [aR 11 a] h Q := by
  obtain ⟨d, rfl⟩ : ∃ e, d = e + 1 := ⟨d - 1, by omega⟩
  replace hd : 4 ≤ d := by omega
  refine And.intro (Nat.le_of_ble_eq_true rfl) ?_
  show ai_WP cd_146 (ai_Ex sh_T d) Q 0 0 0 [oR 11 a] [] h
  refine ai_WP_steps mc_146 (sh_CM d) 2 (And.intro (Nat.le_of_ble_eq_true rfl) ?_)
  refine ai_WP_steps mc_146 (sh_CM d) 3 (And.intro ⟨by decide, Nat.le_of_ble_eq_true rfl, Nat.le_of_ble_eq_true rfl, Nat.le_of_ble_eq_true rfl⟩ ?_)
  refine ai_WP_steps mc_146 (sh_CM d) 1 ?_
  show ai_WP cd_146 (ai_Ex sh_T d) Q 1 2000 13 [oR 11 a] [] (st_arr 15 2000 11 a 0 h)
  refine ai_WP_steps mc_146 (sh_CM d) 3 (And.intro trivial ?_)
  show ai_WP cd_146 (ai_Ex sh_T d) Q 1 2000 18 [oR 11 a] [] (ih_I (st_arr 15 2000 11 a 0 h) 11 a 2 (-1))
  refine ai_WP_steps mc_146 (sh_CM d) 2 (And.intro ⟨Nat.le_of_ble_eq_true rfl, Nat.le_of_ble_eq_true rfl⟩ ?_)
  refine ai_WP_steps mc_146 (sh_CM d) 2 (And.intro ⟨Nat.le_of_ble_eq_true rfl, Nat.le_of_ble_eq_true rfl, Nat.le_of_ble_eq_true rfl⟩ (e_Text_init (Nat.le_trans (Nat.le_of_ble_eq_true rfl) hd) ⟨rfl, ?_⟩))
  refine ai_WP_steps mc_146 (sh_CM d) 1 ?_
  show ai_WP cd_146 (ai_Ex sh_T d) Q 19 4573 29 [oR 11 a] [] (st_obj ini_Text 9 11 a 3 (ih_I (st_arr 15 2000 11 a 0 h) 11 a 2 (-1)))
  refine ai_WP_steps mc_146 (sh_CM d) 2 (And.intro ⟨Nat.le_of_ble_eq_true rfl, Nat.le_of_ble_eq_true rfl⟩ ?_)
  refine ai_WP_steps mc_146 (sh_CM d) 2 (And.intro ⟨Nat.le_of_ble_eq_true rfl, Nat.le_of_ble_eq_true rfl, Nat.le_of_ble_eq_true rfl⟩ (e_Text_init (Nat.le_trans (Nat.le_of_ble_eq_true rfl) hd) ⟨rfl, ?_⟩))
  refine ai_WP_steps mc_146 (sh_CM d) 1 ?_
  show ai_WP cd_146 (ai_Ex sh_T d) Q 37 7146 40 [oR 11 a] [] (st_obj ini_Text 9 11 a 4 (st_obj ini_Text 9 11 a 3 (ih_I (st_arr 15 2000 11 a 0 h) 11 a 2 (-1))))
  refine ai_WP_steps mc_146 (sh_CM d) 2 (And.intro ⟨Nat.le_of_ble_eq_true rfl, Nat.le_of_ble_eq_true rfl⟩ ?_)
  refine ai_WP_steps mc_146 (sh_CM d) 2 (And.intro ⟨Nat.le_of_ble_eq_true rfl, Nat.le_of_ble_eq_true rfl, Nat.le_of_ble_eq_true rfl⟩ (e_Reader_init (Nat.le_trans (Nat.le_of_ble_eq_true rfl) hd) ⟨rfl, ?_⟩))
  refine ai_WP_steps mc_146 (sh_CM d) 1 ?_
  show ai_WP cd_146 (ai_Ex sh_T d) Q 44 8374 51 [oR 11 a] [] (st_obj ini_Reader 5 11 a 5 (st_obj ini_Text 9 11 a 4 (st_obj ini_Text 9 11 a 3 (ih_I (st_arr 15 2000 11 a 0 h) 11 a 2 (-1)))))
  refine ai_WP_steps mc_146 (sh_CM d) 2 (And.intro ⟨Nat.le_of_ble_eq_true rfl, Nat.le_of_ble_eq_true rfl⟩ ?_)
  refine ai_WP_steps mc_146 (sh_CM d) 2 (And.intro ⟨Nat.le_of_ble_eq_true rfl, Nat.le_of_ble_eq_true rfl, Nat.le_of_ble_eq_true rfl⟩ (e_State_init (Nat.le_trans (Nat.le_of_ble_eq_true rfl) hd) ⟨rfl, ?_⟩))
  refine ai_WP_steps mc_146 (sh_CM d) 1 ?_
  show ai_WP cd_146 (ai_Ex sh_T d) Q 54 9600 62 [oR 11 a] [] (st_obj ini_State 7 11 a 6 (st_obj ini_Reader 5 11 a 5 (st_obj ini_Text 9 11 a 4 (st_obj ini_Text 9 11 a 3 (ih_I (st_arr 15 2000 11 a 0 h) 11 a 2 (-1))))))
  refine ai_WP_steps mc_146 (sh_CM d) 2 (And.intro ⟨Nat.le_of_ble_eq_true rfl, Nat.le_of_ble_eq_true rfl⟩ ?_)
  refine ai_WP_steps mc_146 (sh_CM d) 2 (And.intro ⟨Nat.le_of_ble_eq_true rfl, Nat.le_of_ble_eq_true rfl, Nat.le_of_ble_eq_true rfl⟩ (e_State_init (Nat.le_trans (Nat.le_of_ble_eq_true rfl) hd) ⟨rfl, ?_⟩))
  refine ai_WP_steps mc_146 (sh_CM d) 1 ?_
  show ai_WP cd_146 (ai_Ex sh_T d) Q 64 10826 73 [oR 11 a] [] (st_obj ini_State 7 11 a 7 (st_obj ini_State 7 11 a 6 (st_obj ini_Reader 5 11 a 5 (st_obj ini_Text 9 11 a 4 (st_obj ini_Text 9 11 a 3 (ih_I (st_arr 15 2000 11 a 0 h) 11 a 2 (-1)))))))
  refine ai_WP_steps mc_146 (sh_CM d) 2 (And.intro ⟨Nat.le_of_ble_eq_true rfl, Nat.le_of_ble_eq_true rfl⟩ ?_)
  refine ai_WP_steps mc_146 (sh_CM d) 2 (And.intro ⟨Nat.le_of_ble_eq_true rfl, Nat.le_of_ble_eq_true rfl, Nat.le_of_ble_eq_true rfl⟩ (e_State_init (Nat.le_trans (Nat.le_of_ble_eq_true rfl) hd) ⟨rfl, ?_⟩))
  refine ai_WP_steps mc_146 (sh_CM d) 1 ?_
  show ai_WP cd_146 (ai_Ex sh_T d) Q 74 12052 84 [oR 11 a] [] (st_obj ini_State 7 11 a 8 (st_obj ini_State 7 11 a 7 (st_obj ini_State 7 11 a 6 (st_obj ini_Reader 5 11 a 5 (st_obj ini_Text 9 11 a 4 (st_obj ini_Text 9 11 a 3 (ih_I (st_arr 15 2000 11 a 0 h) 11 a 2 (-1))))))))
  refine ai_WP_steps mc_146 (sh_CM d) 2 (And.intro ⟨Nat.le_of_ble_eq_true rfl, Nat.le_of_ble_eq_true rfl⟩ ?_)
  refine ai_WP_steps mc_146 (sh_CM d) 2 (And.intro ⟨Nat.le_of_ble_eq_true rfl, Nat.le_of_ble_eq_true rfl, Nat.le_of_ble_eq_true rfl⟩ (e_Calendar_init (Nat.le_trans (Nat.le_of_ble_eq_true rfl) hd) ⟨rfl, ?_⟩))
  refine ai_WP_steps mc_146 (sh_CM d) 1 ?_
  show ai_WP cd_146 (ai_Ex sh_T d) Q 80 12664 95 [oR 11 a] [] (st_obj ini_Calendar 0 11 a 9 (st_obj ini_State 7 11 a 8 (st_obj ini_State 7 11 a 7 (st_obj ini_State 7 11 a 6 (st_obj ini_Reader 5 11 a 5 (st_obj ini_Text 9 11 a 4 (st_obj ini_Text 9 11 a 3 (ih_I (st_arr 15 2000 11 a 0 h) 11 a 2 (-1)))))))))
  refine ai_WP_steps mc_146 (sh_CM d) 2 (And.intro ⟨Nat.le_of_ble_eq_true rfl, Nat.le_of_ble_eq_true rfl⟩ ?_)
  refine ai_WP_steps mc_146 (sh_CM d) 2 (And.intro ⟨Nat.le_of_ble_eq_true rfl, Nat.le_of_ble_eq_true rfl, Nat.le_of_ble_eq_true rfl⟩ (e_Coins_init (Nat.le_trans (Nat.le_of_ble_eq_true rfl) hd) ⟨rfl, ?_⟩))
  refine ai_WP_steps mc_146 (sh_CM d) 1 ?_
  show ai_WP cd_146 (ai_Ex sh_T d) Q 85 20974 106 [oR 11 a] [] (st_obj ini_Coins 1 11 a 10 (st_obj ini_Calendar 0 11 a 9 (st_obj ini_State 7 11 a 8 (st_obj ini_State 7 11 a 7 (st_obj ini_State 7 11 a 6 (st_obj ini_Reader 5 11 a 5 (st_obj ini_Text 9 11 a 4 (st_obj ini_Text 9 11 a 3 (ih_I (st_arr 15 2000 11 a 0 h) 11 a 2 (-1))))))))))
  refine ai_WP_steps mc_146 (sh_CM d) 2 (And.intro ⟨Nat.le_of_ble_eq_true rfl, Nat.le_of_ble_eq_true rfl⟩ ?_)
  refine ai_WP_steps mc_146 (sh_CM d) 2 (And.intro ⟨Nat.le_of_ble_eq_true rfl, Nat.le_of_ble_eq_true rfl, Nat.le_of_ble_eq_true rfl⟩ (e_Stocks_init (Nat.le_trans (Nat.le_of_ble_eq_true rfl) hd) ⟨rfl, ?_⟩))
  refine ai_WP_steps mc_146 (sh_CM d) 1 ?_
  show ai_WP cd_146 (ai_Ex sh_T d) Q 89 21160 117 [oR 11 a] [] (st_obj ini_Stocks 8 11 a 11 (st_obj ini_Coins 1 11 a 10 (st_obj ini_Calendar 0 11 a 9 (st_obj ini_State 7 11 a 8 (st_obj ini_State 7 11 a 7 (st_obj ini_State 7 11 a 6 (st_obj ini_Reader 5 11 a 5 (st_obj ini_Text 9 11 a 4 (st_obj ini_Text 9 11 a 3 (ih_I (st_arr 15 2000 11 a 0 h) 11 a 2 (-1)))))))))))
  refine ai_WP_steps mc_146 (sh_CM d) 2 (And.intro ⟨Nat.le_of_ble_eq_true rfl, Nat.le_of_ble_eq_true rfl⟩ ?_)
  refine ai_WP_steps mc_146 (sh_CM d) 2 (And.intro ⟨Nat.le_of_ble_eq_true rfl, Nat.le_of_ble_eq_true rfl, Nat.le_of_ble_eq_true rfl⟩ (e_Ledger_init (Nat.le_trans (Nat.le_of_ble_eq_true rfl) hd) ⟨rfl, ?_⟩))
  refine ai_WP_steps mc_146 (sh_CM d) 1 ?_
  show ai_WP cd_146 (ai_Ex sh_T d) Q 98 22384 128 [oR 11 a] [] (st_obj ini_Ledger 3 11 a 12 (st_obj ini_Stocks 8 11 a 11 (st_obj ini_Coins 1 11 a 10 (st_obj ini_Calendar 0 11 a 9 (st_obj ini_State 7 11 a 8 (st_obj ini_State 7 11 a 7 (st_obj ini_State 7 11 a 6 (st_obj ini_Reader 5 11 a 5 (st_obj ini_Text 9 11 a 4 (st_obj ini_Text 9 11 a 3 (ih_I (st_arr 15 2000 11 a 0 h) 11 a 2 (-1))))))))))))
  exact ai_WP_steps mc_146 (sh_CM d) 1 H
def ini_M (h : ai_H) (a : Nat) : ai_H := (st_arr 13 5 12 a 43 (st_arr 13 5 12 a 42 (st_arr 13 6 12 a 39 (st_arr 13 6 12 a 38 (st_arr 14 61 12 a 36 (st_arr 14 61 12 a 35 (st_arr 13 401 12 a 32 (st_arr 13 4001 12 a 31 (st_arr 13 56014 12 a 30 (st_arr 13 12 12 a 29 (st_arr 13 30 12 a 26 (st_arr 13 5 12 a 25 (st_arr 13 500 12 a 24 (st_arr 13 4 12 a 23 (st_arr 13 500 12 a 21 (st_arr 13 12 12 a 18 (st_arr 13 12 12 a 17 (st_arr 14 12 12 a 16 (st_arr 16 4 12 a 14 (st_arr 14 12 12 a 13 (st_arr 13 8000 12 a 12 (ih_I (st_arr 14 2001 12 a 6 (st_arr 13 2001 12 a 5 (st_arr 13 2001 12 a 4 (st_arr 13 2001 12 a 3 (st_arr 13 2000 12 a 1 h))))) 12 a 9 (-1)))))))))))))))))))))))
set_option maxRecDepth 20000 in
theorem e_M_init {d : Nat} (hd : 2 ≤ d) {h : ai_H} {a : Nat} {Q : ai_Q} (H : Q none (ini_M h a)) : ai_Ex sh_T d 206 [aR 12 a] h Q := by
  obtain ⟨d, rfl⟩ : ∃ e, d = e + 1 := ⟨d - 1, by omega⟩
  replace hd : 1 ≤ d := by omega
  refine And.intro (Nat.le_of_ble_eq_true rfl) ?_
  show ai_WP cd_206 (ai_Ex sh_T d) Q 0 0 0 [oR 12 a] [] h
  refine ai_WP_steps mc_206 (sh_CM d) 2 (And.intro (Nat.le_of_ble_eq_true rfl) ?_)
  refine ai_WP_steps mc_206 (sh_CM d) 3 (And.intro ⟨by decide, Nat.le_of_ble_eq_true rfl, Nat.le_of_ble_eq_true rfl, Nat.le_of_ble_eq_true rfl⟩ ?_)
  refine ai_WP_steps mc_206 (sh_CM d) 1 ?_
  show ai_WP cd_206 (ai_Ex sh_T d) Q 1 2000 13 [oR 12 a] [] (st_arr 13 2000 12 a 1 h)
  refine ai_WP_steps mc_206 (sh_CM d) 3 (And.intro ⟨by decide, Nat.le_of_ble_eq_true rfl, Nat.le_of_ble_eq_true rfl, Nat.le_of_ble_eq_true rfl⟩ ?_)
  refine ai_WP_steps mc_206 (sh_CM d) 1 ?_
  show ai_WP cd_206 (ai_Ex sh_T d) Q 2 4001 22 [oR 12 a] [] (st_arr 13 2001 12 a 3 (st_arr 13 2000 12 a 1 h))
  refine ai_WP_steps mc_206 (sh_CM d) 3 (And.intro ⟨by decide, Nat.le_of_ble_eq_true rfl, Nat.le_of_ble_eq_true rfl, Nat.le_of_ble_eq_true rfl⟩ ?_)
  refine ai_WP_steps mc_206 (sh_CM d) 1 ?_
  show ai_WP cd_206 (ai_Ex sh_T d) Q 3 6002 31 [oR 12 a] [] (st_arr 13 2001 12 a 4 (st_arr 13 2001 12 a 3 (st_arr 13 2000 12 a 1 h)))
  refine ai_WP_steps mc_206 (sh_CM d) 3 (And.intro ⟨by decide, Nat.le_of_ble_eq_true rfl, Nat.le_of_ble_eq_true rfl, Nat.le_of_ble_eq_true rfl⟩ ?_)
  refine ai_WP_steps mc_206 (sh_CM d) 1 ?_
  show ai_WP cd_206 (ai_Ex sh_T d) Q 4 8003 40 [oR 12 a] [] (st_arr 13 2001 12 a 5 (st_arr 13 2001 12 a 4 (st_arr 13 2001 12 a 3 (st_arr 13 2000 12 a 1 h))))
  refine ai_WP_steps mc_206 (sh_CM d) 3 (And.intro ⟨by decide, Nat.le_of_ble_eq_true rfl, Nat.le_of_ble_eq_true rfl, Nat.le_of_ble_eq_true rfl⟩ ?_)
  refine ai_WP_steps mc_206 (sh_CM d) 1 ?_
  show ai_WP cd_206 (ai_Ex sh_T d) Q 5 10004 49 [oR 12 a] [] (st_arr 14 2001 12 a 6 (st_arr 13 2001 12 a 5 (st_arr 13 2001 12 a 4 (st_arr 13 2001 12 a 3 (st_arr 13 2000 12 a 1 h)))))
  refine ai_WP_steps mc_206 (sh_CM d) 3 (And.intro trivial ?_)
  show ai_WP cd_206 (ai_Ex sh_T d) Q 5 10004 54 [oR 12 a] [] (ih_I (st_arr 14 2001 12 a 6 (st_arr 13 2001 12 a 5 (st_arr 13 2001 12 a 4 (st_arr 13 2001 12 a 3 (st_arr 13 2000 12 a 1 h))))) 12 a 9 (-1))
  refine ai_WP_steps mc_206 (sh_CM d) 3 (And.intro ⟨by decide, Nat.le_of_ble_eq_true rfl, Nat.le_of_ble_eq_true rfl, Nat.le_of_ble_eq_true rfl⟩ ?_)
  refine ai_WP_steps mc_206 (sh_CM d) 1 ?_
  show ai_WP cd_206 (ai_Ex sh_T d) Q 6 18004 63 [oR 12 a] [] (st_arr 13 8000 12 a 12 (ih_I (st_arr 14 2001 12 a 6 (st_arr 13 2001 12 a 5 (st_arr 13 2001 12 a 4 (st_arr 13 2001 12 a 3 (st_arr 13 2000 12 a 1 h))))) 12 a 9 (-1)))
  refine ai_WP_steps mc_206 (sh_CM d) 3 (And.intro ⟨by decide, Nat.le_of_ble_eq_true rfl, Nat.le_of_ble_eq_true rfl, Nat.le_of_ble_eq_true rfl⟩ ?_)
  refine ai_WP_steps mc_206 (sh_CM d) 1 ?_
  show ai_WP cd_206 (ai_Ex sh_T d) Q 7 18016 71 [oR 12 a] [] (st_arr 14 12 12 a 13 (st_arr 13 8000 12 a 12 (ih_I (st_arr 14 2001 12 a 6 (st_arr 13 2001 12 a 5 (st_arr 13 2001 12 a 4 (st_arr 13 2001 12 a 3 (st_arr 13 2000 12 a 1 h))))) 12 a 9 (-1))))
  refine ai_WP_steps mc_206 (sh_CM d) 3 (And.intro ⟨by decide, Nat.le_of_ble_eq_true rfl, Nat.le_of_ble_eq_true rfl, Nat.le_of_ble_eq_true rfl⟩ ?_)
  refine ai_WP_steps mc_206 (sh_CM d) 1 ?_
  show ai_WP cd_206 (ai_Ex sh_T d) Q 8 18020 78 [oR 12 a] [] (st_arr 16 4 12 a 14 (st_arr 14 12 12 a 13 (st_arr 13 8000 12 a 12 (ih_I (st_arr 14 2001 12 a 6 (st_arr 13 2001 12 a 5 (st_arr 13 2001 12 a 4 (st_arr 13 2001 12 a 3 (st_arr 13 2000 12 a 1 h))))) 12 a 9 (-1)))))
  refine ai_WP_steps mc_206 (sh_CM d) 3 (And.intro ⟨by decide, Nat.le_of_ble_eq_true rfl, Nat.le_of_ble_eq_true rfl, Nat.le_of_ble_eq_true rfl⟩ ?_)
  refine ai_WP_steps mc_206 (sh_CM d) 1 ?_
  show ai_WP cd_206 (ai_Ex sh_T d) Q 9 18032 86 [oR 12 a] [] (st_arr 14 12 12 a 16 (st_arr 16 4 12 a 14 (st_arr 14 12 12 a 13 (st_arr 13 8000 12 a 12 (ih_I (st_arr 14 2001 12 a 6 (st_arr 13 2001 12 a 5 (st_arr 13 2001 12 a 4 (st_arr 13 2001 12 a 3 (st_arr 13 2000 12 a 1 h))))) 12 a 9 (-1))))))
  refine ai_WP_steps mc_206 (sh_CM d) 3 (And.intro ⟨by decide, Nat.le_of_ble_eq_true rfl, Nat.le_of_ble_eq_true rfl, Nat.le_of_ble_eq_true rfl⟩ ?_)
  refine ai_WP_steps mc_206 (sh_CM d) 1 ?_
  show ai_WP cd_206 (ai_Ex sh_T d) Q 10 18044 94 [oR 12 a] [] (st_arr 13 12 12 a 17 (st_arr 14 12 12 a 16 (st_arr 16 4 12 a 14 (st_arr 14 12 12 a 13 (st_arr 13 8000 12 a 12 (ih_I (st_arr 14 2001 12 a 6 (st_arr 13 2001 12 a 5 (st_arr 13 2001 12 a 4 (st_arr 13 2001 12 a 3 (st_arr 13 2000 12 a 1 h))))) 12 a 9 (-1)))))))
  refine ai_WP_steps mc_206 (sh_CM d) 3 (And.intro ⟨by decide, Nat.le_of_ble_eq_true rfl, Nat.le_of_ble_eq_true rfl, Nat.le_of_ble_eq_true rfl⟩ ?_)
  refine ai_WP_steps mc_206 (sh_CM d) 1 ?_
  show ai_WP cd_206 (ai_Ex sh_T d) Q 11 18056 102 [oR 12 a] [] (st_arr 13 12 12 a 18 (st_arr 13 12 12 a 17 (st_arr 14 12 12 a 16 (st_arr 16 4 12 a 14 (st_arr 14 12 12 a 13 (st_arr 13 8000 12 a 12 (ih_I (st_arr 14 2001 12 a 6 (st_arr 13 2001 12 a 5 (st_arr 13 2001 12 a 4 (st_arr 13 2001 12 a 3 (st_arr 13 2000 12 a 1 h))))) 12 a 9 (-1))))))))
  refine ai_WP_steps mc_206 (sh_CM d) 3 (And.intro ⟨by decide, Nat.le_of_ble_eq_true rfl, Nat.le_of_ble_eq_true rfl, Nat.le_of_ble_eq_true rfl⟩ ?_)
  refine ai_WP_steps mc_206 (sh_CM d) 1 ?_
  show ai_WP cd_206 (ai_Ex sh_T d) Q 12 18556 111 [oR 12 a] [] (st_arr 13 500 12 a 21 (st_arr 13 12 12 a 18 (st_arr 13 12 12 a 17 (st_arr 14 12 12 a 16 (st_arr 16 4 12 a 14 (st_arr 14 12 12 a 13 (st_arr 13 8000 12 a 12 (ih_I (st_arr 14 2001 12 a 6 (st_arr 13 2001 12 a 5 (st_arr 13 2001 12 a 4 (st_arr 13 2001 12 a 3 (st_arr 13 2000 12 a 1 h))))) 12 a 9 (-1)))))))))
  refine ai_WP_steps mc_206 (sh_CM d) 3 (And.intro ⟨by decide, Nat.le_of_ble_eq_true rfl, Nat.le_of_ble_eq_true rfl, Nat.le_of_ble_eq_true rfl⟩ ?_)
  refine ai_WP_steps mc_206 (sh_CM d) 1 ?_
  show ai_WP cd_206 (ai_Ex sh_T d) Q 13 18560 118 [oR 12 a] [] (st_arr 13 4 12 a 23 (st_arr 13 500 12 a 21 (st_arr 13 12 12 a 18 (st_arr 13 12 12 a 17 (st_arr 14 12 12 a 16 (st_arr 16 4 12 a 14 (st_arr 14 12 12 a 13 (st_arr 13 8000 12 a 12 (ih_I (st_arr 14 2001 12 a 6 (st_arr 13 2001 12 a 5 (st_arr 13 2001 12 a 4 (st_arr 13 2001 12 a 3 (st_arr 13 2000 12 a 1 h))))) 12 a 9 (-1))))))))))
  refine ai_WP_steps mc_206 (sh_CM d) 3 (And.intro ⟨by decide, Nat.le_of_ble_eq_true rfl, Nat.le_of_ble_eq_true rfl, Nat.le_of_ble_eq_true rfl⟩ ?_)
  refine ai_WP_steps mc_206 (sh_CM d) 1 ?_
  show ai_WP cd_206 (ai_Ex sh_T d) Q 14 19060 127 [oR 12 a] [] (st_arr 13 500 12 a 24 (st_arr 13 4 12 a 23 (st_arr 13 500 12 a 21 (st_arr 13 12 12 a 18 (st_arr 13 12 12 a 17 (st_arr 14 12 12 a 16 (st_arr 16 4 12 a 14 (st_arr 14 12 12 a 13 (st_arr 13 8000 12 a 12 (ih_I (st_arr 14 2001 12 a 6 (st_arr 13 2001 12 a 5 (st_arr 13 2001 12 a 4 (st_arr 13 2001 12 a 3 (st_arr 13 2000 12 a 1 h))))) 12 a 9 (-1)))))))))))
  refine ai_WP_steps mc_206 (sh_CM d) 3 (And.intro ⟨by decide, Nat.le_of_ble_eq_true rfl, Nat.le_of_ble_eq_true rfl, Nat.le_of_ble_eq_true rfl⟩ ?_)
  refine ai_WP_steps mc_206 (sh_CM d) 1 ?_
  show ai_WP cd_206 (ai_Ex sh_T d) Q 15 19065 134 [oR 12 a] [] (st_arr 13 5 12 a 25 (st_arr 13 500 12 a 24 (st_arr 13 4 12 a 23 (st_arr 13 500 12 a 21 (st_arr 13 12 12 a 18 (st_arr 13 12 12 a 17 (st_arr 14 12 12 a 16 (st_arr 16 4 12 a 14 (st_arr 14 12 12 a 13 (st_arr 13 8000 12 a 12 (ih_I (st_arr 14 2001 12 a 6 (st_arr 13 2001 12 a 5 (st_arr 13 2001 12 a 4 (st_arr 13 2001 12 a 3 (st_arr 13 2000 12 a 1 h))))) 12 a 9 (-1))))))))))))
  refine ai_WP_steps mc_206 (sh_CM d) 3 (And.intro ⟨by decide, Nat.le_of_ble_eq_true rfl, Nat.le_of_ble_eq_true rfl, Nat.le_of_ble_eq_true rfl⟩ ?_)
  refine ai_WP_steps mc_206 (sh_CM d) 1 ?_
  show ai_WP cd_206 (ai_Ex sh_T d) Q 16 19095 142 [oR 12 a] [] (st_arr 13 30 12 a 26 (st_arr 13 5 12 a 25 (st_arr 13 500 12 a 24 (st_arr 13 4 12 a 23 (st_arr 13 500 12 a 21 (st_arr 13 12 12 a 18 (st_arr 13 12 12 a 17 (st_arr 14 12 12 a 16 (st_arr 16 4 12 a 14 (st_arr 14 12 12 a 13 (st_arr 13 8000 12 a 12 (ih_I (st_arr 14 2001 12 a 6 (st_arr 13 2001 12 a 5 (st_arr 13 2001 12 a 4 (st_arr 13 2001 12 a 3 (st_arr 13 2000 12 a 1 h))))) 12 a 9 (-1)))))))))))))
  refine ai_WP_steps mc_206 (sh_CM d) 3 (And.intro ⟨by decide, Nat.le_of_ble_eq_true rfl, Nat.le_of_ble_eq_true rfl, Nat.le_of_ble_eq_true rfl⟩ ?_)
  refine ai_WP_steps mc_206 (sh_CM d) 1 ?_
  show ai_WP cd_206 (ai_Ex sh_T d) Q 17 19107 150 [oR 12 a] [] (st_arr 13 12 12 a 29 (st_arr 13 30 12 a 26 (st_arr 13 5 12 a 25 (st_arr 13 500 12 a 24 (st_arr 13 4 12 a 23 (st_arr 13 500 12 a 21 (st_arr 13 12 12 a 18 (st_arr 13 12 12 a 17 (st_arr 14 12 12 a 16 (st_arr 16 4 12 a 14 (st_arr 14 12 12 a 13 (st_arr 13 8000 12 a 12 (ih_I (st_arr 14 2001 12 a 6 (st_arr 13 2001 12 a 5 (st_arr 13 2001 12 a 4 (st_arr 13 2001 12 a 3 (st_arr 13 2000 12 a 1 h))))) 12 a 9 (-1))))))))))))))
  refine ai_WP_steps mc_206 (sh_CM d) 3 (And.intro ⟨by decide, Nat.le_of_ble_eq_true rfl, Nat.le_of_ble_eq_true rfl, Nat.le_of_ble_eq_true rfl⟩ ?_)
  refine ai_WP_steps mc_206 (sh_CM d) 1 ?_
  show ai_WP cd_206 (ai_Ex sh_T d) Q 18 75121 158 [oR 12 a] [] (st_arr 13 56014 12 a 30 (st_arr 13 12 12 a 29 (st_arr 13 30 12 a 26 (st_arr 13 5 12 a 25 (st_arr 13 500 12 a 24 (st_arr 13 4 12 a 23 (st_arr 13 500 12 a 21 (st_arr 13 12 12 a 18 (st_arr 13 12 12 a 17 (st_arr 14 12 12 a 16 (st_arr 16 4 12 a 14 (st_arr 14 12 12 a 13 (st_arr 13 8000 12 a 12 (ih_I (st_arr 14 2001 12 a 6 (st_arr 13 2001 12 a 5 (st_arr 13 2001 12 a 4 (st_arr 13 2001 12 a 3 (st_arr 13 2000 12 a 1 h))))) 12 a 9 (-1)))))))))))))))
  refine ai_WP_steps mc_206 (sh_CM d) 3 (And.intro ⟨by decide, Nat.le_of_ble_eq_true rfl, Nat.le_of_ble_eq_true rfl, Nat.le_of_ble_eq_true rfl⟩ ?_)
  refine ai_WP_steps mc_206 (sh_CM d) 1 ?_
  show ai_WP cd_206 (ai_Ex sh_T d) Q 19 79122 167 [oR 12 a] [] (st_arr 13 4001 12 a 31 (st_arr 13 56014 12 a 30 (st_arr 13 12 12 a 29 (st_arr 13 30 12 a 26 (st_arr 13 5 12 a 25 (st_arr 13 500 12 a 24 (st_arr 13 4 12 a 23 (st_arr 13 500 12 a 21 (st_arr 13 12 12 a 18 (st_arr 13 12 12 a 17 (st_arr 14 12 12 a 16 (st_arr 16 4 12 a 14 (st_arr 14 12 12 a 13 (st_arr 13 8000 12 a 12 (ih_I (st_arr 14 2001 12 a 6 (st_arr 13 2001 12 a 5 (st_arr 13 2001 12 a 4 (st_arr 13 2001 12 a 3 (st_arr 13 2000 12 a 1 h))))) 12 a 9 (-1))))))))))))))))
  refine ai_WP_steps mc_206 (sh_CM d) 3 (And.intro ⟨by decide, Nat.le_of_ble_eq_true rfl, Nat.le_of_ble_eq_true rfl, Nat.le_of_ble_eq_true rfl⟩ ?_)
  refine ai_WP_steps mc_206 (sh_CM d) 1 ?_
  show ai_WP cd_206 (ai_Ex sh_T d) Q 20 79523 176 [oR 12 a] [] (st_arr 13 401 12 a 32 (st_arr 13 4001 12 a 31 (st_arr 13 56014 12 a 30 (st_arr 13 12 12 a 29 (st_arr 13 30 12 a 26 (st_arr 13 5 12 a 25 (st_arr 13 500 12 a 24 (st_arr 13 4 12 a 23 (st_arr 13 500 12 a 21 (st_arr 13 12 12 a 18 (st_arr 13 12 12 a 17 (st_arr 14 12 12 a 16 (st_arr 16 4 12 a 14 (st_arr 14 12 12 a 13 (st_arr 13 8000 12 a 12 (ih_I (st_arr 14 2001 12 a 6 (st_arr 13 2001 12 a 5 (st_arr 13 2001 12 a 4 (st_arr 13 2001 12 a 3 (st_arr 13 2000 12 a 1 h))))) 12 a 9 (-1)))))))))))))))))
  refine ai_WP_steps mc_206 (sh_CM d) 3 (And.intro ⟨by decide, Nat.le_of_ble_eq_true rfl, Nat.le_of_ble_eq_true rfl, Nat.le_of_ble_eq_true rfl⟩ ?_)
  refine ai_WP_steps mc_206 (sh_CM d) 1 ?_
  show ai_WP cd_206 (ai_Ex sh_T d) Q 21 79584 184 [oR 12 a] [] (st_arr 14 61 12 a 35 (st_arr 13 401 12 a 32 (st_arr 13 4001 12 a 31 (st_arr 13 56014 12 a 30 (st_arr 13 12 12 a 29 (st_arr 13 30 12 a 26 (st_arr 13 5 12 a 25 (st_arr 13 500 12 a 24 (st_arr 13 4 12 a 23 (st_arr 13 500 12 a 21 (st_arr 13 12 12 a 18 (st_arr 13 12 12 a 17 (st_arr 14 12 12 a 16 (st_arr 16 4 12 a 14 (st_arr 14 12 12 a 13 (st_arr 13 8000 12 a 12 (ih_I (st_arr 14 2001 12 a 6 (st_arr 13 2001 12 a 5 (st_arr 13 2001 12 a 4 (st_arr 13 2001 12 a 3 (st_arr 13 2000 12 a 1 h))))) 12 a 9 (-1))))))))))))))))))
  refine ai_WP_steps mc_206 (sh_CM d) 3 (And.intro ⟨by decide, Nat.le_of_ble_eq_true rfl, Nat.le_of_ble_eq_true rfl, Nat.le_of_ble_eq_true rfl⟩ ?_)
  refine ai_WP_steps mc_206 (sh_CM d) 1 ?_
  show ai_WP cd_206 (ai_Ex sh_T d) Q 22 79645 192 [oR 12 a] [] (st_arr 14 61 12 a 36 (st_arr 14 61 12 a 35 (st_arr 13 401 12 a 32 (st_arr 13 4001 12 a 31 (st_arr 13 56014 12 a 30 (st_arr 13 12 12 a 29 (st_arr 13 30 12 a 26 (st_arr 13 5 12 a 25 (st_arr 13 500 12 a 24 (st_arr 13 4 12 a 23 (st_arr 13 500 12 a 21 (st_arr 13 12 12 a 18 (st_arr 13 12 12 a 17 (st_arr 14 12 12 a 16 (st_arr 16 4 12 a 14 (st_arr 14 12 12 a 13 (st_arr 13 8000 12 a 12 (ih_I (st_arr 14 2001 12 a 6 (st_arr 13 2001 12 a 5 (st_arr 13 2001 12 a 4 (st_arr 13 2001 12 a 3 (st_arr 13 2000 12 a 1 h))))) 12 a 9 (-1)))))))))))))))))))
  refine ai_WP_steps mc_206 (sh_CM d) 3 (And.intro ⟨by decide, Nat.le_of_ble_eq_true rfl, Nat.le_of_ble_eq_true rfl, Nat.le_of_ble_eq_true rfl⟩ ?_)
  refine ai_WP_steps mc_206 (sh_CM d) 1 ?_
  show ai_WP cd_206 (ai_Ex sh_T d) Q 23 79651 200 [oR 12 a] [] (st_arr 13 6 12 a 38 (st_arr 14 61 12 a 36 (st_arr 14 61 12 a 35 (st_arr 13 401 12 a 32 (st_arr 13 4001 12 a 31 (st_arr 13 56014 12 a 30 (st_arr 13 12 12 a 29 (st_arr 13 30 12 a 26 (st_arr 13 5 12 a 25 (st_arr 13 500 12 a 24 (st_arr 13 4 12 a 23 (st_arr 13 500 12 a 21 (st_arr 13 12 12 a 18 (st_arr 13 12 12 a 17 (st_arr 14 12 12 a 16 (st_arr 16 4 12 a 14 (st_arr 14 12 12 a 13 (st_arr 13 8000 12 a 12 (ih_I (st_arr 14 2001 12 a 6 (st_arr 13 2001 12 a 5 (st_arr 13 2001 12 a 4 (st_arr 13 2001 12 a 3 (st_arr 13 2000 12 a 1 h))))) 12 a 9 (-1))))))))))))))))))))
  refine ai_WP_steps mc_206 (sh_CM d) 3 (And.intro ⟨by decide, Nat.le_of_ble_eq_true rfl, Nat.le_of_ble_eq_true rfl, Nat.le_of_ble_eq_true rfl⟩ ?_)
  refine ai_WP_steps mc_206 (sh_CM d) 1 ?_
  show ai_WP cd_206 (ai_Ex sh_T d) Q 24 79657 208 [oR 12 a] [] (st_arr 13 6 12 a 39 (st_arr 13 6 12 a 38 (st_arr 14 61 12 a 36 (st_arr 14 61 12 a 35 (st_arr 13 401 12 a 32 (st_arr 13 4001 12 a 31 (st_arr 13 56014 12 a 30 (st_arr 13 12 12 a 29 (st_arr 13 30 12 a 26 (st_arr 13 5 12 a 25 (st_arr 13 500 12 a 24 (st_arr 13 4 12 a 23 (st_arr 13 500 12 a 21 (st_arr 13 12 12 a 18 (st_arr 13 12 12 a 17 (st_arr 14 12 12 a 16 (st_arr 16 4 12 a 14 (st_arr 14 12 12 a 13 (st_arr 13 8000 12 a 12 (ih_I (st_arr 14 2001 12 a 6 (st_arr 13 2001 12 a 5 (st_arr 13 2001 12 a 4 (st_arr 13 2001 12 a 3 (st_arr 13 2000 12 a 1 h))))) 12 a 9 (-1)))))))))))))))))))))
  refine ai_WP_steps mc_206 (sh_CM d) 3 (And.intro ⟨by decide, Nat.le_of_ble_eq_true rfl, Nat.le_of_ble_eq_true rfl, Nat.le_of_ble_eq_true rfl⟩ ?_)
  refine ai_WP_steps mc_206 (sh_CM d) 1 ?_
  show ai_WP cd_206 (ai_Ex sh_T d) Q 25 79662 215 [oR 12 a] [] (st_arr 13 5 12 a 42 (st_arr 13 6 12 a 39 (st_arr 13 6 12 a 38 (st_arr 14 61 12 a 36 (st_arr 14 61 12 a 35 (st_arr 13 401 12 a 32 (st_arr 13 4001 12 a 31 (st_arr 13 56014 12 a 30 (st_arr 13 12 12 a 29 (st_arr 13 30 12 a 26 (st_arr 13 5 12 a 25 (st_arr 13 500 12 a 24 (st_arr 13 4 12 a 23 (st_arr 13 500 12 a 21 (st_arr 13 12 12 a 18 (st_arr 13 12 12 a 17 (st_arr 14 12 12 a 16 (st_arr 16 4 12 a 14 (st_arr 14 12 12 a 13 (st_arr 13 8000 12 a 12 (ih_I (st_arr 14 2001 12 a 6 (st_arr 13 2001 12 a 5 (st_arr 13 2001 12 a 4 (st_arr 13 2001 12 a 3 (st_arr 13 2000 12 a 1 h))))) 12 a 9 (-1))))))))))))))))))))))
  refine ai_WP_steps mc_206 (sh_CM d) 3 (And.intro ⟨by decide, Nat.le_of_ble_eq_true rfl, Nat.le_of_ble_eq_true rfl, Nat.le_of_ble_eq_true rfl⟩ ?_)
  refine ai_WP_steps mc_206 (sh_CM d) 1 ?_
  show ai_WP cd_206 (ai_Ex sh_T d) Q 26 79667 222 [oR 12 a] [] (st_arr 13 5 12 a 43 (st_arr 13 5 12 a 42 (st_arr 13 6 12 a 39 (st_arr 13 6 12 a 38 (st_arr 14 61 12 a 36 (st_arr 14 61 12 a 35 (st_arr 13 401 12 a 32 (st_arr 13 4001 12 a 31 (st_arr 13 56014 12 a 30 (st_arr 13 12 12 a 29 (st_arr 13 30 12 a 26 (st_arr 13 5 12 a 25 (st_arr 13 500 12 a 24 (st_arr 13 4 12 a 23 (st_arr 13 500 12 a 21 (st_arr 13 12 12 a 18 (st_arr 13 12 12 a 17 (st_arr 14 12 12 a 16 (st_arr 16 4 12 a 14 (st_arr 14 12 12 a 13 (st_arr 13 8000 12 a 12 (ih_I (st_arr 14 2001 12 a 6 (st_arr 13 2001 12 a 5 (st_arr 13 2001 12 a 4 (st_arr 13 2001 12 a 3 (st_arr 13 2000 12 a 1 h))))) 12 a 9 (-1)))))))))))))))))))))))
  exact ai_WP_steps mc_206 (sh_CM d) 1 H
