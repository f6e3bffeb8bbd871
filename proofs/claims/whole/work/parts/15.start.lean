/-! THE LAW'S START: from the machine's entry to the head of the law's loop -/
theorem ai_Wd_steps {T : Nat → ai_Mt} {M : ai_Mt} {code : Nat → Option ai_Op} (hs : ∀ pc op, code pc = some op → ai_SM T M pc op) {Γ : ai_X} {d : Nat} {C : ai_C} (hCM : ai_CM C) {Q : ai_Q} (hC : ai_Cx Γ M) (hRo : ai_Ro Γ d) (hCl : ai_Cl T Γ d C) (hR : ai_RO Γ M Q) (n : Nat) : ∀ {u w pc : Nat} {lo : ai_L} {st : ai_S} {h : ai_H}, ai_steps code C Q (ai_Wd Γ M) n u w pc lo st h → ai_Wd Γ M u w pc lo st h := by
  have hm : ai_MC code := fun pc op e => (hs pc op e).2
  have one : ∀ {u w pc : Nat} {lo : ai_L} {st : ai_S} {h : ai_H}, ai_step code C Q (ai_Wd Γ M) u w pc lo st h → ai_Wd Γ M u w pc lo st h := by
    intro u w pc lo st h y
    unfold ai_step at y
    cases hc : code pc with
    | none => rw [hc] at y; exact y.elim
    | some op =>
      rw [hc] at y
      exact (hs pc op hc).1 Γ d C Q (ai_Wd Γ M) hC hRo hCl hR (fun _ _ _ _ _ _ z => z) _ _ _ _ _ y
  induction n with
  | zero => intro u w pc lo st h x; exact x
  | succ n ih =>
    intro u w pc lo st h x
    exact one (ai_step_mono hm hCM (fun _ _ x => x) (fun _ _ _ _ _ _ x => ih x) x)
/-- the heap at the law's entry: the script, the texts -/
def ini0 (L : Nat) (xs : Nat → Int32) : ai_H := (fun c i j => match c with | 17 => xs j | 19 => (ai_sbyt.getD i []).getD j 0 | _ => 0, fun _ _ _ => 0, fun _ _ _ => 0, fun c => match c with | 17 => 1 | 18 => 2 | 19 => 2 | 20 => 1 | _ => 0, fun c i => match c with | 17 => L | 19 => ai_slen.getD i 0 | _ => 0)
def hXi (L : Nat) (xs : Nat → Int32) : ai_H := ini_CB (ai_new (ini0 L xs) 11 0) ((ini0 L xs).2.2.2.1 11)
def hLi (L : Nat) (xs : Nat → Int32) : ai_H := ini_M (ai_new (hXi L xs) 12 0) ((hXi L xs).2.2.2.1 12)
set_option maxRecDepth 1000000 in
theorem hXi_12 (L : Nat) (xs : Nat → Int32) : (hXi L xs).2.2.2.1 12 = 0 := rfl
/-- the shallow heap with which the law's loop begins -/
def sh_0 (L : Nat) (xs : Nat → Int32) : sh_H := ((hLi L xs).1, (hLi L xs).2.1, 0, 1, L)
set_option maxRecDepth 1000000 in
theorem hL_c0 (L : Nat) (xs : Nat → Int32) : (hLi L xs).2.2.2.1 0 = 1 := rfl
set_option maxRecDepth 1000000 in
theorem hL_c1 (L : Nat) (xs : Nat → Int32) : (hLi L xs).2.2.2.1 1 = 1 := rfl
set_option maxRecDepth 1000000 in
theorem hL_c2 (L : Nat) (xs : Nat → Int32) : (hLi L xs).2.2.2.1 2 = 2 := rfl
set_option maxRecDepth 1000000 in
theorem hL_c3 (L : Nat) (xs : Nat → Int32) : (hLi L xs).2.2.2.1 3 = 1 := rfl
set_option maxRecDepth 1000000 in
theorem hL_c4 (L : Nat) (xs : Nat → Int32) : (hLi L xs).2.2.2.1 4 = 4 := rfl
set_option maxRecDepth 1000000 in
theorem hL_c5 (L : Nat) (xs : Nat → Int32) : (hLi L xs).2.2.2.1 5 = 1 := rfl
set_option maxRecDepth 1000000 in
theorem hL_c6 (L : Nat) (xs : Nat → Int32) : (hLi L xs).2.2.2.1 6 = 33 := rfl
set_option maxRecDepth 1000000 in
theorem hL_c7 (L : Nat) (xs : Nat → Int32) : (hLi L xs).2.2.2.1 7 = 3 := rfl
set_option maxRecDepth 1000000 in
theorem hL_c8 (L : Nat) (xs : Nat → Int32) : (hLi L xs).2.2.2.1 8 = 1 := rfl
set_option maxRecDepth 1000000 in
theorem hL_c9 (L : Nat) (xs : Nat → Int32) : (hLi L xs).2.2.2.1 9 = 2 := rfl
set_option maxRecDepth 1000000 in
theorem hL_c10 (L : Nat) (xs : Nat → Int32) : (hLi L xs).2.2.2.1 10 = 1 := rfl
set_option maxRecDepth 1000000 in
theorem hL_c11 (L : Nat) (xs : Nat → Int32) : (hLi L xs).2.2.2.1 11 = 1 := rfl
set_option maxRecDepth 1000000 in
theorem hL_c12 (L : Nat) (xs : Nat → Int32) : (hLi L xs).2.2.2.1 12 = 1 := rfl
set_option maxRecDepth 1000000 in
theorem hL_c13 (L : Nat) (xs : Nat → Int32) : (hLi L xs).2.2.2.1 13 = 62 := rfl
set_option maxRecDepth 1000000 in
theorem hL_c14 (L : Nat) (xs : Nat → Int32) : (hLi L xs).2.2.2.1 14 = 10 := rfl
set_option maxRecDepth 1000000 in
theorem hL_c15 (L : Nat) (xs : Nat → Int32) : (hLi L xs).2.2.2.1 15 = 1 := rfl
set_option maxRecDepth 1000000 in
theorem hL_c16 (L : Nat) (xs : Nat → Int32) : (hLi L xs).2.2.2.1 16 = 1 := rfl
set_option maxRecDepth 1000000 in
theorem hL_c17 (L : Nat) (xs : Nat → Int32) : (hLi L xs).2.2.2.1 17 = sh_cnt 17 := rfl
set_option maxRecDepth 1000000 in
theorem hL_c18 (L : Nat) (xs : Nat → Int32) : (hLi L xs).2.2.2.1 18 = sh_cnt 18 := rfl
set_option maxRecDepth 1000000 in
theorem hL_c19 (L : Nat) (xs : Nat → Int32) : (hLi L xs).2.2.2.1 19 = sh_cnt 19 := rfl
set_option maxRecDepth 1000000 in
theorem hL_c20 (L : Nat) (xs : Nat → Int32) : (hLi L xs).2.2.2.1 20 = sh_cnt 20 := rfl
set_option maxRecDepth 1000000 in
theorem hL_c99 (L : Nat) (xs : Nat → Int32) : (hLi L xs).2.2.2.1 99 = sh_cnt 99 := rfl
set_option maxRecDepth 1000000 in
theorem hL_l13 (L : Nat) (xs : Nat → Int32) : ∀ i, i < 62 → (hLi L xs).2.2.2.2 13 i = sh_len L 13 i := fun i hi => by match i, hi with | 0, _ => exact rfl | 1, _ => exact rfl | 2, _ => exact rfl | 3, _ => exact rfl | 4, _ => exact rfl | 5, _ => exact rfl | 6, _ => exact rfl | 7, _ => exact rfl | 8, _ => exact rfl | 9, _ => exact rfl | 10, _ => exact rfl | 11, _ => exact rfl | 12, _ => exact rfl | 13, _ => exact rfl | 14, _ => exact rfl | 15, _ => exact rfl | 16, _ => exact rfl | 17, _ => exact rfl | 18, _ => exact rfl | 19, _ => exact rfl | 20, _ => exact rfl | 21, _ => exact rfl | 22, _ => exact rfl | 23, _ => exact rfl | 24, _ => exact rfl | 25, _ => exact rfl | 26, _ => exact rfl | 27, _ => exact rfl | 28, _ => exact rfl | 29, _ => exact rfl | 30, _ => exact rfl | 31, _ => exact rfl | 32, _ => exact rfl | 33, _ => exact rfl | 34, _ => exact rfl | 35, _ => exact rfl | 36, _ => exact rfl | 37, _ => exact rfl | 38, _ => exact rfl | 39, _ => exact rfl | 40, _ => exact rfl | 41, _ => exact rfl | 42, _ => exact rfl | 43, _ => exact rfl | 44, _ => exact rfl | 45, _ => exact rfl | 46, _ => exact rfl | 47, _ => exact rfl | 48, _ => exact rfl | 49, _ => exact rfl | 50, _ => exact rfl | 51, _ => exact rfl | 52, _ => exact rfl | 53, _ => exact rfl | 54, _ => exact rfl | 55, _ => exact rfl | 56, _ => exact rfl | 57, _ => exact rfl | 58, _ => exact rfl | 59, _ => exact rfl | 60, _ => exact rfl | 61, _ => exact rfl | q + 62, h => exact absurd h (by omega)
set_option maxRecDepth 1000000 in
theorem hL_l14 (L : Nat) (xs : Nat → Int32) : ∀ i, i < 10 → (hLi L xs).2.2.2.2 14 i = sh_len L 14 i := fun i hi => by match i, hi with | 0, _ => exact rfl | 1, _ => exact rfl | 2, _ => exact rfl | 3, _ => exact rfl | 4, _ => exact rfl | 5, _ => exact rfl | 6, _ => exact rfl | 7, _ => exact rfl | 8, _ => exact rfl | 9, _ => exact rfl | q + 10, h => exact absurd h (by omega)
set_option maxRecDepth 1000000 in
theorem hL_l15 (L : Nat) (xs : Nat → Int32) : ∀ i, i < 1 → (hLi L xs).2.2.2.2 15 i = sh_len L 15 i := fun i hi => by match i, hi with | 0, _ => exact rfl | q + 1, h => exact absurd h (by omega)
set_option maxRecDepth 1000000 in
theorem hL_l16 (L : Nat) (xs : Nat → Int32) : ∀ i, i < 1 → (hLi L xs).2.2.2.2 16 i = sh_len L 16 i := fun i hi => by match i, hi with | 0, _ => exact rfl | q + 1, h => exact absurd h (by omega)
set_option maxRecDepth 1000000 in
theorem hL_r0_0 (L : Nat) (xs : Nat → Int32) : ∀ j, j < 3 → (hLi L xs).2.2.1 0 0 j = sh_R 0 1 0 0 j := fun j hj => by match j, hj with | 0, _ => exact rfl | 1, _ => exact rfl | 2, _ => exact rfl | q + 3, h => exact absurd h (by omega)
set_option maxRecDepth 1000000 in
theorem hL_r0 (L : Nat) (xs : Nat → Int32) : ∀ i, i < 1 → ∀ j, j < 3 → (hLi L xs).2.2.1 0 i j = sh_R 0 1 0 i j := fun i hi => by match i, hi with | 0, _ => exact hL_r0_0 L xs | q + 1, h => exact absurd h (by omega)
set_option maxRecDepth 1000000 in
theorem hL_r1_0 (L : Nat) (xs : Nat → Int32) : ∀ j, j < 4 → (hLi L xs).2.2.1 1 0 j = sh_R 0 1 1 0 j := fun j hj => by match j, hj with | 0, _ => exact rfl | 1, _ => exact rfl | 2, _ => exact rfl | 3, _ => exact rfl | q + 4, h => exact absurd h (by omega)
set_option maxRecDepth 1000000 in
theorem hL_r1 (L : Nat) (xs : Nat → Int32) : ∀ i, i < 1 → ∀ j, j < 4 → (hLi L xs).2.2.1 1 i j = sh_R 0 1 1 i j := fun i hi => by match i, hi with | 0, _ => exact hL_r1_0 L xs | q + 1, h => exact absurd h (by omega)
set_option maxRecDepth 1000000 in
theorem hL_r2_0 (L : Nat) (xs : Nat → Int32) : ∀ j, j < 5 → (hLi L xs).2.2.1 2 0 j = sh_R 0 1 2 0 j := fun j hj => by match j, hj with | 0, _ => exact rfl | 1, _ => exact rfl | 2, _ => exact rfl | 3, _ => exact rfl | 4, _ => exact rfl | q + 5, h => exact absurd h (by omega)
set_option maxRecDepth 1000000 in
theorem hL_r2_1 (L : Nat) (xs : Nat → Int32) : ∀ j, j < 5 → (hLi L xs).2.2.1 2 1 j = sh_R 0 1 2 1 j := fun j hj => by match j, hj with | 0, _ => exact rfl | 1, _ => exact rfl | 2, _ => exact rfl | 3, _ => exact rfl | 4, _ => exact rfl | q + 5, h => exact absurd h (by omega)
set_option maxRecDepth 1000000 in
theorem hL_r2 (L : Nat) (xs : Nat → Int32) : ∀ i, i < 2 → ∀ j, j < 5 → (hLi L xs).2.2.1 2 i j = sh_R 0 1 2 i j := fun i hi => by match i, hi with | 0, _ => exact hL_r2_0 L xs | 1, _ => exact hL_r2_1 L xs | q + 2, h => exact absurd h (by omega)
set_option maxRecDepth 1000000 in
theorem hL_r3_0 (L : Nat) (xs : Nat → Int32) : ∀ j, j < 8 → (hLi L xs).2.2.1 3 0 j = sh_R 0 1 3 0 j := fun j hj => by match j, hj with | 0, _ => exact rfl | 1, _ => exact rfl | 2, _ => exact rfl | 3, _ => exact rfl | 4, _ => exact rfl | 5, _ => exact rfl | 6, _ => exact rfl | 7, _ => exact rfl | q + 8, h => exact absurd h (by omega)
set_option maxRecDepth 1000000 in
theorem hL_r3 (L : Nat) (xs : Nat → Int32) : ∀ i, i < 1 → ∀ j, j < 8 → (hLi L xs).2.2.1 3 i j = sh_R 0 1 3 i j := fun i hi => by match i, hi with | 0, _ => exact hL_r3_0 L xs | q + 1, h => exact absurd h (by omega)
set_option maxRecDepth 1000000 in
theorem hL_r4_0 (L : Nat) (xs : Nat → Int32) : ∀ j, j < 1 → (hLi L xs).2.2.1 4 0 j = sh_R 0 1 4 0 j := fun j hj => by match j, hj with | 0, _ => exact rfl | q + 1, h => exact absurd h (by omega)
set_option maxRecDepth 1000000 in
theorem hL_r4_1 (L : Nat) (xs : Nat → Int32) : ∀ j, j < 1 → (hLi L xs).2.2.1 4 1 j = sh_R 0 1 4 1 j := fun j hj => by match j, hj with | 0, _ => exact rfl | q + 1, h => exact absurd h (by omega)
set_option maxRecDepth 1000000 in
theorem hL_r4_2 (L : Nat) (xs : Nat → Int32) : ∀ j, j < 1 → (hLi L xs).2.2.1 4 2 j = sh_R 0 1 4 2 j := fun j hj => by match j, hj with | 0, _ => exact rfl | q + 1, h => exact absurd h (by omega)
set_option maxRecDepth 1000000 in
theorem hL_r4_3 (L : Nat) (xs : Nat → Int32) : ∀ j, j < 1 → (hLi L xs).2.2.1 4 3 j = sh_R 0 1 4 3 j := fun j hj => by match j, hj with | 0, _ => exact rfl | q + 1, h => exact absurd h (by omega)
set_option maxRecDepth 1000000 in
theorem hL_r4 (L : Nat) (xs : Nat → Int32) : ∀ i, i < 4 → ∀ j, j < 1 → (hLi L xs).2.2.1 4 i j = sh_R 0 1 4 i j := fun i hi => by match i, hi with | 0, _ => exact hL_r4_0 L xs | 1, _ => exact hL_r4_1 L xs | 2, _ => exact hL_r4_2 L xs | 3, _ => exact hL_r4_3 L xs | q + 4, h => exact absurd h (by omega)
set_option maxRecDepth 1000000 in
theorem hL_r5_0 (L : Nat) (xs : Nat → Int32) : ∀ j, j < 8 → (hLi L xs).2.2.1 5 0 j = sh_R 0 1 5 0 j := fun j hj => by match j, hj with | 0, _ => exact rfl | 1, _ => exact rfl | 2, _ => exact rfl | 3, _ => exact rfl | 4, _ => exact rfl | 5, _ => exact rfl | 6, _ => exact rfl | 7, _ => exact rfl | q + 8, h => exact absurd h (by omega)
set_option maxRecDepth 1000000 in
theorem hL_r5 (L : Nat) (xs : Nat → Int32) : ∀ i, i < 1 → ∀ j, j < 8 → (hLi L xs).2.2.1 5 i j = sh_R 0 1 5 i j := fun i hi => by match i, hi with | 0, _ => exact hL_r5_0 L xs | q + 1, h => exact absurd h (by omega)
set_option maxRecDepth 1000000 in
theorem hL_r6_0 (L : Nat) (xs : Nat → Int32) : ∀ j, j < 4 → (hLi L xs).2.2.1 6 0 j = sh_R 0 1 6 0 j := fun j hj => by match j, hj with | 0, _ => exact rfl | 1, _ => exact rfl | 2, _ => exact rfl | 3, _ => exact rfl | q + 4, h => exact absurd h (by omega)
set_option maxRecDepth 1000000 in
theorem hL_r6_1 (L : Nat) (xs : Nat → Int32) : ∀ j, j < 4 → (hLi L xs).2.2.1 6 1 j = sh_R 0 1 6 1 j := fun j hj => by match j, hj with | 0, _ => exact rfl | 1, _ => exact rfl | 2, _ => exact rfl | 3, _ => exact rfl | q + 4, h => exact absurd h (by omega)
set_option maxRecDepth 1000000 in
theorem hL_r6_2 (L : Nat) (xs : Nat → Int32) : ∀ j, j < 4 → (hLi L xs).2.2.1 6 2 j = sh_R 0 1 6 2 j := fun j hj => by match j, hj with | 0, _ => exact rfl | 1, _ => exact rfl | 2, _ => exact rfl | 3, _ => exact rfl | q + 4, h => exact absurd h (by omega)
set_option maxRecDepth 1000000 in
theorem hL_r6_3 (L : Nat) (xs : Nat → Int32) : ∀ j, j < 4 → (hLi L xs).2.2.1 6 3 j = sh_R 0 1 6 3 j := fun j hj => by match j, hj with | 0, _ => exact rfl | 1, _ => exact rfl | 2, _ => exact rfl | 3, _ => exact rfl | q + 4, h => exact absurd h (by omega)
set_option maxRecDepth 1000000 in
theorem hL_r6_4 (L : Nat) (xs : Nat → Int32) : ∀ j, j < 4 → (hLi L xs).2.2.1 6 4 j = sh_R 0 1 6 4 j := fun j hj => by match j, hj with | 0, _ => exact rfl | 1, _ => exact rfl | 2, _ => exact rfl | 3, _ => exact rfl | q + 4, h => exact absurd h (by omega)
set_option maxRecDepth 1000000 in
theorem hL_r6_5 (L : Nat) (xs : Nat → Int32) : ∀ j, j < 4 → (hLi L xs).2.2.1 6 5 j = sh_R 0 1 6 5 j := fun j hj => by match j, hj with | 0, _ => exact rfl | 1, _ => exact rfl | 2, _ => exact rfl | 3, _ => exact rfl | q + 4, h => exact absurd h (by omega)
set_option maxRecDepth 1000000 in
theorem hL_r6_6 (L : Nat) (xs : Nat → Int32) : ∀ j, j < 4 → (hLi L xs).2.2.1 6 6 j = sh_R 0 1 6 6 j := fun j hj => by match j, hj with | 0, _ => exact rfl | 1, _ => exact rfl | 2, _ => exact rfl | 3, _ => exact rfl | q + 4, h => exact absurd h (by omega)
set_option maxRecDepth 1000000 in
theorem hL_r6_7 (L : Nat) (xs : Nat → Int32) : ∀ j, j < 4 → (hLi L xs).2.2.1 6 7 j = sh_R 0 1 6 7 j := fun j hj => by match j, hj with | 0, _ => exact rfl | 1, _ => exact rfl | 2, _ => exact rfl | 3, _ => exact rfl | q + 4, h => exact absurd h (by omega)
set_option maxRecDepth 1000000 in
theorem hL_r6_8 (L : Nat) (xs : Nat → Int32) : ∀ j, j < 4 → (hLi L xs).2.2.1 6 8 j = sh_R 0 1 6 8 j := fun j hj => by match j, hj with | 0, _ => exact rfl | 1, _ => exact rfl | 2, _ => exact rfl | 3, _ => exact rfl | q + 4, h => exact absurd h (by omega)
set_option maxRecDepth 1000000 in
theorem hL_r6_9 (L : Nat) (xs : Nat → Int32) : ∀ j, j < 4 → (hLi L xs).2.2.1 6 9 j = sh_R 0 1 6 9 j := fun j hj => by match j, hj with | 0, _ => exact rfl | 1, _ => exact rfl | 2, _ => exact rfl | 3, _ => exact rfl | q + 4, h => exact absurd h (by omega)
set_option maxRecDepth 1000000 in
theorem hL_r6_10 (L : Nat) (xs : Nat → Int32) : ∀ j, j < 4 → (hLi L xs).2.2.1 6 10 j = sh_R 0 1 6 10 j := fun j hj => by match j, hj with | 0, _ => exact rfl | 1, _ => exact rfl | 2, _ => exact rfl | 3, _ => exact rfl | q + 4, h => exact absurd h (by omega)
set_option maxRecDepth 1000000 in
theorem hL_r6_11 (L : Nat) (xs : Nat → Int32) : ∀ j, j < 4 → (hLi L xs).2.2.1 6 11 j = sh_R 0 1 6 11 j := fun j hj => by match j, hj with | 0, _ => exact rfl | 1, _ => exact rfl | 2, _ => exact rfl | 3, _ => exact rfl | q + 4, h => exact absurd h (by omega)
set_option maxRecDepth 1000000 in
theorem hL_r6_12 (L : Nat) (xs : Nat → Int32) : ∀ j, j < 4 → (hLi L xs).2.2.1 6 12 j = sh_R 0 1 6 12 j := fun j hj => by match j, hj with | 0, _ => exact rfl | 1, _ => exact rfl | 2, _ => exact rfl | 3, _ => exact rfl | q + 4, h => exact absurd h (by omega)
set_option maxRecDepth 1000000 in
theorem hL_r6_13 (L : Nat) (xs : Nat → Int32) : ∀ j, j < 4 → (hLi L xs).2.2.1 6 13 j = sh_R 0 1 6 13 j := fun j hj => by match j, hj with | 0, _ => exact rfl | 1, _ => exact rfl | 2, _ => exact rfl | 3, _ => exact rfl | q + 4, h => exact absurd h (by omega)
set_option maxRecDepth 1000000 in
theorem hL_r6_14 (L : Nat) (xs : Nat → Int32) : ∀ j, j < 4 → (hLi L xs).2.2.1 6 14 j = sh_R 0 1 6 14 j := fun j hj => by match j, hj with | 0, _ => exact rfl | 1, _ => exact rfl | 2, _ => exact rfl | 3, _ => exact rfl | q + 4, h => exact absurd h (by omega)
set_option maxRecDepth 1000000 in
theorem hL_r6_15 (L : Nat) (xs : Nat → Int32) : ∀ j, j < 4 → (hLi L xs).2.2.1 6 15 j = sh_R 0 1 6 15 j := fun j hj => by match j, hj with | 0, _ => exact rfl | 1, _ => exact rfl | 2, _ => exact rfl | 3, _ => exact rfl | q + 4, h => exact absurd h (by omega)
set_option maxRecDepth 1000000 in
theorem hL_r6_16 (L : Nat) (xs : Nat → Int32) : ∀ j, j < 4 → (hLi L xs).2.2.1 6 16 j = sh_R 0 1 6 16 j := fun j hj => by match j, hj with | 0, _ => exact rfl | 1, _ => exact rfl | 2, _ => exact rfl | 3, _ => exact rfl | q + 4, h => exact absurd h (by omega)
set_option maxRecDepth 1000000 in
theorem hL_r6_17 (L : Nat) (xs : Nat → Int32) : ∀ j, j < 4 → (hLi L xs).2.2.1 6 17 j = sh_R 0 1 6 17 j := fun j hj => by match j, hj with | 0, _ => exact rfl | 1, _ => exact rfl | 2, _ => exact rfl | 3, _ => exact rfl | q + 4, h => exact absurd h (by omega)
set_option maxRecDepth 1000000 in
theorem hL_r6_18 (L : Nat) (xs : Nat → Int32) : ∀ j, j < 4 → (hLi L xs).2.2.1 6 18 j = sh_R 0 1 6 18 j := fun j hj => by match j, hj with | 0, _ => exact rfl | 1, _ => exact rfl | 2, _ => exact rfl | 3, _ => exact rfl | q + 4, h => exact absurd h (by omega)
set_option maxRecDepth 1000000 in
theorem hL_r6_19 (L : Nat) (xs : Nat → Int32) : ∀ j, j < 4 → (hLi L xs).2.2.1 6 19 j = sh_R 0 1 6 19 j := fun j hj => by match j, hj with | 0, _ => exact rfl | 1, _ => exact rfl | 2, _ => exact rfl | 3, _ => exact rfl | q + 4, h => exact absurd h (by omega)
set_option maxRecDepth 1000000 in
theorem hL_r6_20 (L : Nat) (xs : Nat → Int32) : ∀ j, j < 4 → (hLi L xs).2.2.1 6 20 j = sh_R 0 1 6 20 j := fun j hj => by match j, hj with | 0, _ => exact rfl | 1, _ => exact rfl | 2, _ => exact rfl | 3, _ => exact rfl | q + 4, h => exact absurd h (by omega)
set_option maxRecDepth 1000000 in
theorem hL_r6_21 (L : Nat) (xs : Nat → Int32) : ∀ j, j < 4 → (hLi L xs).2.2.1 6 21 j = sh_R 0 1 6 21 j := fun j hj => by match j, hj with | 0, _ => exact rfl | 1, _ => exact rfl | 2, _ => exact rfl | 3, _ => exact rfl | q + 4, h => exact absurd h (by omega)
set_option maxRecDepth 1000000 in
theorem hL_r6_22 (L : Nat) (xs : Nat → Int32) : ∀ j, j < 4 → (hLi L xs).2.2.1 6 22 j = sh_R 0 1 6 22 j := fun j hj => by match j, hj with | 0, _ => exact rfl | 1, _ => exact rfl | 2, _ => exact rfl | 3, _ => exact rfl | q + 4, h => exact absurd h (by omega)
set_option maxRecDepth 1000000 in
theorem hL_r6_23 (L : Nat) (xs : Nat → Int32) : ∀ j, j < 4 → (hLi L xs).2.2.1 6 23 j = sh_R 0 1 6 23 j := fun j hj => by match j, hj with | 0, _ => exact rfl | 1, _ => exact rfl | 2, _ => exact rfl | 3, _ => exact rfl | q + 4, h => exact absurd h (by omega)
set_option maxRecDepth 1000000 in
theorem hL_r6_24 (L : Nat) (xs : Nat → Int32) : ∀ j, j < 4 → (hLi L xs).2.2.1 6 24 j = sh_R 0 1 6 24 j := fun j hj => by match j, hj with | 0, _ => exact rfl | 1, _ => exact rfl | 2, _ => exact rfl | 3, _ => exact rfl | q + 4, h => exact absurd h (by omega)
set_option maxRecDepth 1000000 in
theorem hL_r6_25 (L : Nat) (xs : Nat → Int32) : ∀ j, j < 4 → (hLi L xs).2.2.1 6 25 j = sh_R 0 1 6 25 j := fun j hj => by match j, hj with | 0, _ => exact rfl | 1, _ => exact rfl | 2, _ => exact rfl | 3, _ => exact rfl | q + 4, h => exact absurd h (by omega)
set_option maxRecDepth 1000000 in
theorem hL_r6_26 (L : Nat) (xs : Nat → Int32) : ∀ j, j < 4 → (hLi L xs).2.2.1 6 26 j = sh_R 0 1 6 26 j := fun j hj => by match j, hj with | 0, _ => exact rfl | 1, _ => exact rfl | 2, _ => exact rfl | 3, _ => exact rfl | q + 4, h => exact absurd h (by omega)
set_option maxRecDepth 1000000 in
theorem hL_r6_27 (L : Nat) (xs : Nat → Int32) : ∀ j, j < 4 → (hLi L xs).2.2.1 6 27 j = sh_R 0 1 6 27 j := fun j hj => by match j, hj with | 0, _ => exact rfl | 1, _ => exact rfl | 2, _ => exact rfl | 3, _ => exact rfl | q + 4, h => exact absurd h (by omega)
set_option maxRecDepth 1000000 in
theorem hL_r6_28 (L : Nat) (xs : Nat → Int32) : ∀ j, j < 4 → (hLi L xs).2.2.1 6 28 j = sh_R 0 1 6 28 j := fun j hj => by match j, hj with | 0, _ => exact rfl | 1, _ => exact rfl | 2, _ => exact rfl | 3, _ => exact rfl | q + 4, h => exact absurd h (by omega)
set_option maxRecDepth 1000000 in
theorem hL_r6_29 (L : Nat) (xs : Nat → Int32) : ∀ j, j < 4 → (hLi L xs).2.2.1 6 29 j = sh_R 0 1 6 29 j := fun j hj => by match j, hj with | 0, _ => exact rfl | 1, _ => exact rfl | 2, _ => exact rfl | 3, _ => exact rfl | q + 4, h => exact absurd h (by omega)
set_option maxRecDepth 1000000 in
theorem hL_r6_30 (L : Nat) (xs : Nat → Int32) : ∀ j, j < 4 → (hLi L xs).2.2.1 6 30 j = sh_R 0 1 6 30 j := fun j hj => by match j, hj with | 0, _ => exact rfl | 1, _ => exact rfl | 2, _ => exact rfl | 3, _ => exact rfl | q + 4, h => exact absurd h (by omega)
set_option maxRecDepth 1000000 in
theorem hL_r6_31 (L : Nat) (xs : Nat → Int32) : ∀ j, j < 4 → (hLi L xs).2.2.1 6 31 j = sh_R 0 1 6 31 j := fun j hj => by match j, hj with | 0, _ => exact rfl | 1, _ => exact rfl | 2, _ => exact rfl | 3, _ => exact rfl | q + 4, h => exact absurd h (by omega)
set_option maxRecDepth 1000000 in
theorem hL_r6_32 (L : Nat) (xs : Nat → Int32) : ∀ j, j < 4 → (hLi L xs).2.2.1 6 32 j = sh_R 0 1 6 32 j := fun j hj => by match j, hj with | 0, _ => exact rfl | 1, _ => exact rfl | 2, _ => exact rfl | 3, _ => exact rfl | q + 4, h => exact absurd h (by omega)
set_option maxRecDepth 1000000 in
theorem hL_r6 (L : Nat) (xs : Nat → Int32) : ∀ i, i < 33 → ∀ j, j < 4 → (hLi L xs).2.2.1 6 i j = sh_R 0 1 6 i j := fun i hi => by match i, hi with | 0, _ => exact hL_r6_0 L xs | 1, _ => exact hL_r6_1 L xs | 2, _ => exact hL_r6_2 L xs | 3, _ => exact hL_r6_3 L xs | 4, _ => exact hL_r6_4 L xs | 5, _ => exact hL_r6_5 L xs | 6, _ => exact hL_r6_6 L xs | 7, _ => exact hL_r6_7 L xs | 8, _ => exact hL_r6_8 L xs | 9, _ => exact hL_r6_9 L xs | 10, _ => exact hL_r6_10 L xs | 11, _ => exact hL_r6_11 L xs | 12, _ => exact hL_r6_12 L xs | 13, _ => exact hL_r6_13 L xs | 14, _ => exact hL_r6_14 L xs | 15, _ => exact hL_r6_15 L xs | 16, _ => exact hL_r6_16 L xs | 17, _ => exact hL_r6_17 L xs | 18, _ => exact hL_r6_18 L xs | 19, _ => exact hL_r6_19 L xs | 20, _ => exact hL_r6_20 L xs | 21, _ => exact hL_r6_21 L xs | 22, _ => exact hL_r6_22 L xs | 23, _ => exact hL_r6_23 L xs | 24, _ => exact hL_r6_24 L xs | 25, _ => exact hL_r6_25 L xs | 26, _ => exact hL_r6_26 L xs | 27, _ => exact hL_r6_27 L xs | 28, _ => exact hL_r6_28 L xs | 29, _ => exact hL_r6_29 L xs | 30, _ => exact hL_r6_30 L xs | 31, _ => exact hL_r6_31 L xs | 32, _ => exact hL_r6_32 L xs | q + 33, h => exact absurd h (by omega)
set_option maxRecDepth 1000000 in
theorem hL_r7_0 (L : Nat) (xs : Nat → Int32) : ∀ j, j < 9 → (hLi L xs).2.2.1 7 0 j = sh_R 0 1 7 0 j := fun j hj => by match j, hj with | 0, _ => exact rfl | 1, _ => exact rfl | 2, _ => exact rfl | 3, _ => exact rfl | 4, _ => exact rfl | 5, _ => exact rfl | 6, _ => exact rfl | 7, _ => exact rfl | 8, _ => exact rfl | q + 9, h => exact absurd h (by omega)
set_option maxRecDepth 1000000 in
theorem hL_r7_1 (L : Nat) (xs : Nat → Int32) : ∀ j, j < 9 → (hLi L xs).2.2.1 7 1 j = sh_R 0 1 7 1 j := fun j hj => by match j, hj with | 0, _ => exact rfl | 1, _ => exact rfl | 2, _ => exact rfl | 3, _ => exact rfl | 4, _ => exact rfl | 5, _ => exact rfl | 6, _ => exact rfl | 7, _ => exact rfl | 8, _ => exact rfl | q + 9, h => exact absurd h (by omega)
set_option maxRecDepth 1000000 in
theorem hL_r7_2 (L : Nat) (xs : Nat → Int32) : ∀ j, j < 9 → (hLi L xs).2.2.1 7 2 j = sh_R 0 1 7 2 j := fun j hj => by match j, hj with | 0, _ => exact rfl | 1, _ => exact rfl | 2, _ => exact rfl | 3, _ => exact rfl | 4, _ => exact rfl | 5, _ => exact rfl | 6, _ => exact rfl | 7, _ => exact rfl | 8, _ => exact rfl | q + 9, h => exact absurd h (by omega)
set_option maxRecDepth 1000000 in
theorem hL_r7 (L : Nat) (xs : Nat → Int32) : ∀ i, i < 3 → ∀ j, j < 9 → (hLi L xs).2.2.1 7 i j = sh_R 0 1 7 i j := fun i hi => by match i, hi with | 0, _ => exact hL_r7_0 L xs | 1, _ => exact hL_r7_1 L xs | 2, _ => exact hL_r7_2 L xs | q + 3, h => exact absurd h (by omega)
set_option maxRecDepth 1000000 in
theorem hL_r8_0 (L : Nat) (xs : Nat → Int32) : ∀ j, j < 3 → (hLi L xs).2.2.1 8 0 j = sh_R 0 1 8 0 j := fun j hj => by match j, hj with | 0, _ => exact rfl | 1, _ => exact rfl | 2, _ => exact rfl | q + 3, h => exact absurd h (by omega)
set_option maxRecDepth 1000000 in
theorem hL_r8 (L : Nat) (xs : Nat → Int32) : ∀ i, i < 1 → ∀ j, j < 3 → (hLi L xs).2.2.1 8 i j = sh_R 0 1 8 i j := fun i hi => by match i, hi with | 0, _ => exact hL_r8_0 L xs | q + 1, h => exact absurd h (by omega)
set_option maxRecDepth 1000000 in
theorem hL_r9_0 (L : Nat) (xs : Nat → Int32) : ∀ j, j < 8 → (hLi L xs).2.2.1 9 0 j = sh_R 0 1 9 0 j := fun j hj => by match j, hj with | 0, _ => exact rfl | 1, _ => exact rfl | 2, _ => exact rfl | 3, _ => exact rfl | 4, _ => exact rfl | 5, _ => exact rfl | 6, _ => exact rfl | 7, _ => exact rfl | q + 8, h => exact absurd h (by omega)
set_option maxRecDepth 1000000 in
theorem hL_r9_1 (L : Nat) (xs : Nat → Int32) : ∀ j, j < 8 → (hLi L xs).2.2.1 9 1 j = sh_R 0 1 9 1 j := fun j hj => by match j, hj with | 0, _ => exact rfl | 1, _ => exact rfl | 2, _ => exact rfl | 3, _ => exact rfl | 4, _ => exact rfl | 5, _ => exact rfl | 6, _ => exact rfl | 7, _ => exact rfl | q + 8, h => exact absurd h (by omega)
set_option maxRecDepth 1000000 in
theorem hL_r9 (L : Nat) (xs : Nat → Int32) : ∀ i, i < 2 → ∀ j, j < 8 → (hLi L xs).2.2.1 9 i j = sh_R 0 1 9 i j := fun i hi => by match i, hi with | 0, _ => exact hL_r9_0 L xs | 1, _ => exact hL_r9_1 L xs | q + 2, h => exact absurd h (by omega)
set_option maxRecDepth 1000000 in
theorem hL_r10_0 (L : Nat) (xs : Nat → Int32) : ∀ j, j < 7 → (hLi L xs).2.2.1 10 0 j = sh_R 0 1 10 0 j := fun j hj => by match j, hj with | 0, _ => exact rfl | 1, _ => exact rfl | 2, _ => exact rfl | 3, _ => exact rfl | 4, _ => exact rfl | 5, _ => exact rfl | 6, _ => exact rfl | q + 7, h => exact absurd h (by omega)
set_option maxRecDepth 1000000 in
theorem hL_r10 (L : Nat) (xs : Nat → Int32) : ∀ i, i < 1 → ∀ j, j < 7 → (hLi L xs).2.2.1 10 i j = sh_R 0 1 10 i j := fun i hi => by match i, hi with | 0, _ => exact hL_r10_0 L xs | q + 1, h => exact absurd h (by omega)
set_option maxRecDepth 1000000 in
theorem hL_r11_0 (L : Nat) (xs : Nat → Int32) : ∀ j, j < 13 → (hLi L xs).2.2.1 11 0 j = sh_R 0 1 11 0 j := fun j hj => by match j, hj with | 0, _ => exact rfl | 1, _ => exact rfl | 2, _ => exact rfl | 3, _ => exact rfl | 4, _ => exact rfl | 5, _ => exact rfl | 6, _ => exact rfl | 7, _ => exact rfl | 8, _ => exact rfl | 9, _ => exact rfl | 10, _ => exact rfl | 11, _ => exact rfl | 12, _ => exact rfl | q + 13, h => exact absurd h (by omega)
set_option maxRecDepth 1000000 in
theorem hL_r11 (L : Nat) (xs : Nat → Int32) : ∀ i, i < 1 → ∀ j, j < 13 → (hLi L xs).2.2.1 11 i j = sh_R 0 1 11 i j := fun i hi => by match i, hi with | 0, _ => exact hL_r11_0 L xs | q + 1, h => exact absurd h (by omega)
set_option maxRecDepth 1000000 in
theorem hL_r12_0 (L : Nat) (xs : Nat → Int32) : ∀ j, j < 44 → (hLi L xs).2.2.1 12 0 j = sh_R 0 1 12 0 j := fun j hj => by match j, hj with | 0, _ => exact rfl | 1, _ => exact rfl | 2, _ => exact rfl | 3, _ => exact rfl | 4, _ => exact rfl | 5, _ => exact rfl | 6, _ => exact rfl | 7, _ => exact rfl | 8, _ => exact rfl | 9, _ => exact rfl | 10, _ => exact rfl | 11, _ => exact rfl | 12, _ => exact rfl | 13, _ => exact rfl | 14, _ => exact rfl | 15, _ => exact rfl | 16, _ => exact rfl | 17, _ => exact rfl | 18, _ => exact rfl | 19, _ => exact rfl | 20, _ => exact rfl | 21, _ => exact rfl | 22, _ => exact rfl | 23, _ => exact rfl | 24, _ => exact rfl | 25, _ => exact rfl | 26, _ => exact rfl | 27, _ => exact rfl | 28, _ => exact rfl | 29, _ => exact rfl | 30, _ => exact rfl | 31, _ => exact rfl | 32, _ => exact rfl | 33, _ => exact rfl | 34, _ => exact rfl | 35, _ => exact rfl | 36, _ => exact rfl | 37, _ => exact rfl | 38, _ => exact rfl | 39, _ => exact rfl | 40, _ => exact rfl | 41, _ => exact rfl | 42, _ => exact rfl | 43, _ => exact rfl | q + 44, h => exact absurd h (by omega)
set_option maxRecDepth 1000000 in
theorem hL_r12 (L : Nat) (xs : Nat → Int32) : ∀ i, i < 1 → ∀ j, j < 44 → (hLi L xs).2.2.1 12 i j = sh_R 0 1 12 i j := fun i hi => by match i, hi with | 0, _ => exact hL_r12_0 L xs | q + 1, h => exact absurd h (by omega)
