/-! THE START IS ALIKE -/
set_option maxRecDepth 1000000 in
theorem h0_z20 (L : Nat) (xs : Nat → Int32) (q : Nat) : (sh_0 L xs).1 13 20 q = 0 := rfl
set_option maxRecDepth 1000000 in
theorem h0_z23 (L : Nat) (xs : Nat → Int32) (q : Nat) : (sh_0 L xs).1 13 23 q = 0 := rfl
set_option maxRecDepth 1000000 in
theorem h0_z46 (L : Nat) (xs : Nat → Int32) (q : Nat) : (sh_0 L xs).1 13 46 q = 0 := rfl
set_option maxRecDepth 1000000 in
theorem h0_m0 (L : Nat) (xs : Nat → Int32) : (sh_0 L xs).1 6 0 0 = 6 ∧ (sh_0 L xs).1 6 0 1 = 3 := ⟨rfl, rfl⟩
set_option maxRecDepth 1000000 in
theorem h0_m1 (L : Nat) (xs : Nat → Int32) : (sh_0 L xs).1 6 1 0 = 4 ∧ (sh_0 L xs).1 6 1 1 = 2 := ⟨rfl, rfl⟩
set_option maxRecDepth 1000000 in
theorem h0_m2 (L : Nat) (xs : Nat → Int32) : (sh_0 L xs).1 6 2 0 = 12 ∧ (sh_0 L xs).1 6 2 1 = 5 := ⟨rfl, rfl⟩
set_option maxRecDepth 1000000 in
theorem h0_m3 (L : Nat) (xs : Nat → Int32) : (sh_0 L xs).1 6 3 0 = 12 ∧ (sh_0 L xs).1 6 3 1 = 5 := ⟨rfl, rfl⟩
set_option maxRecDepth 1000000 in
theorem h0_m4 (L : Nat) (xs : Nat → Int32) : (sh_0 L xs).1 6 4 0 = 12 ∧ (sh_0 L xs).1 6 4 1 = 5 := ⟨rfl, rfl⟩
set_option maxRecDepth 1000000 in
theorem h0_m5 (L : Nat) (xs : Nat → Int32) : (sh_0 L xs).1 6 5 0 = 12 ∧ (sh_0 L xs).1 6 5 1 = 5 := ⟨rfl, rfl⟩
set_option maxRecDepth 1000000 in
theorem h0_m6 (L : Nat) (xs : Nat → Int32) : (sh_0 L xs).1 6 6 0 = 12 ∧ (sh_0 L xs).1 6 6 1 = 5 := ⟨rfl, rfl⟩
set_option maxRecDepth 1000000 in
theorem h0_m7 (L : Nat) (xs : Nat → Int32) : (sh_0 L xs).1 6 7 0 = 6 ∧ (sh_0 L xs).1 6 7 1 = 3 := ⟨rfl, rfl⟩
set_option maxRecDepth 1000000 in
theorem h0_m8 (L : Nat) (xs : Nat → Int32) : (sh_0 L xs).1 6 8 0 = 4 ∧ (sh_0 L xs).1 6 8 1 = 2 := ⟨rfl, rfl⟩
set_option maxRecDepth 1000000 in
theorem h0_m9 (L : Nat) (xs : Nat → Int32) : (sh_0 L xs).1 6 9 0 = 12 ∧ (sh_0 L xs).1 6 9 1 = 5 := ⟨rfl, rfl⟩
set_option maxRecDepth 1000000 in
theorem h0_m10 (L : Nat) (xs : Nat → Int32) : (sh_0 L xs).1 6 10 0 = 12 ∧ (sh_0 L xs).1 6 10 1 = 5 := ⟨rfl, rfl⟩
set_option maxRecDepth 1000000 in
theorem h0_m11 (L : Nat) (xs : Nat → Int32) : (sh_0 L xs).1 6 11 0 = 12 ∧ (sh_0 L xs).1 6 11 1 = 5 := ⟨rfl, rfl⟩
set_option maxRecDepth 1000000 in
theorem h0_m12 (L : Nat) (xs : Nat → Int32) : (sh_0 L xs).1 6 12 0 = 12 ∧ (sh_0 L xs).1 6 12 1 = 5 := ⟨rfl, rfl⟩
set_option maxRecDepth 1000000 in
theorem h0_m13 (L : Nat) (xs : Nat → Int32) : (sh_0 L xs).1 6 13 0 = 12 ∧ (sh_0 L xs).1 6 13 1 = 5 := ⟨rfl, rfl⟩
set_option maxRecDepth 1000000 in
theorem h0_m14 (L : Nat) (xs : Nat → Int32) : (sh_0 L xs).1 6 14 0 = 30 ∧ (sh_0 L xs).1 6 14 1 = 4 := ⟨rfl, rfl⟩
set_option maxRecDepth 1000000 in
theorem h0_m15 (L : Nat) (xs : Nat → Int32) : (sh_0 L xs).1 6 15 0 = 40 ∧ (sh_0 L xs).1 6 15 1 = 6 := ⟨rfl, rfl⟩
set_option maxRecDepth 1000000 in
theorem h0_m16 (L : Nat) (xs : Nat → Int32) : (sh_0 L xs).1 6 16 0 = 60 ∧ (sh_0 L xs).1 6 16 1 = 5 := ⟨rfl, rfl⟩
set_option maxRecDepth 1000000 in
theorem h0_m17 (L : Nat) (xs : Nat → Int32) : (sh_0 L xs).1 6 17 0 = 4 ∧ (sh_0 L xs).1 6 17 1 = 6 := ⟨rfl, rfl⟩
set_option maxRecDepth 1000000 in
theorem h0_m18 (L : Nat) (xs : Nat → Int32) : (sh_0 L xs).1 6 18 0 = 30 ∧ (sh_0 L xs).1 6 18 1 = 4 := ⟨rfl, rfl⟩
set_option maxRecDepth 1000000 in
theorem h0_m19 (L : Nat) (xs : Nat → Int32) : (sh_0 L xs).1 6 19 0 = 40 ∧ (sh_0 L xs).1 6 19 1 = 6 := ⟨rfl, rfl⟩
set_option maxRecDepth 1000000 in
theorem h0_m20 (L : Nat) (xs : Nat → Int32) : (sh_0 L xs).1 6 20 0 = 60 ∧ (sh_0 L xs).1 6 20 1 = 5 := ⟨rfl, rfl⟩
set_option maxRecDepth 1000000 in
theorem h0_m21 (L : Nat) (xs : Nat → Int32) : (sh_0 L xs).1 6 21 0 = 4 ∧ (sh_0 L xs).1 6 21 1 = 6 := ⟨rfl, rfl⟩
set_option maxRecDepth 1000000 in
theorem h0_m22 (L : Nat) (xs : Nat → Int32) : (sh_0 L xs).1 6 22 0 = 30 ∧ (sh_0 L xs).1 6 22 1 = 4 := ⟨rfl, rfl⟩
set_option maxRecDepth 1000000 in
theorem h0_m23 (L : Nat) (xs : Nat → Int32) : (sh_0 L xs).1 6 23 0 = 40 ∧ (sh_0 L xs).1 6 23 1 = 6 := ⟨rfl, rfl⟩
set_option maxRecDepth 1000000 in
theorem h0_m24 (L : Nat) (xs : Nat → Int32) : (sh_0 L xs).1 6 24 0 = 60 ∧ (sh_0 L xs).1 6 24 1 = 5 := ⟨rfl, rfl⟩
set_option maxRecDepth 1000000 in
theorem h0_m25 (L : Nat) (xs : Nat → Int32) : (sh_0 L xs).1 6 25 0 = 4 ∧ (sh_0 L xs).1 6 25 1 = 6 := ⟨rfl, rfl⟩
set_option maxRecDepth 1000000 in
theorem h0_m26 (L : Nat) (xs : Nat → Int32) : (sh_0 L xs).1 6 26 0 = 12 ∧ (sh_0 L xs).1 6 26 1 = 1 := ⟨rfl, rfl⟩
set_option maxRecDepth 1000000 in
theorem h0_m27 (L : Nat) (xs : Nat → Int32) : (sh_0 L xs).1 6 27 0 = 30 ∧ (sh_0 L xs).1 6 27 1 = 4 := ⟨rfl, rfl⟩
set_option maxRecDepth 1000000 in
theorem h0_m28 (L : Nat) (xs : Nat → Int32) : (sh_0 L xs).1 6 28 0 = 6 ∧ (sh_0 L xs).1 6 28 1 = 3 := ⟨rfl, rfl⟩
set_option maxRecDepth 1000000 in
theorem h0_m29 (L : Nat) (xs : Nat → Int32) : (sh_0 L xs).1 6 29 0 = 5 ∧ (sh_0 L xs).1 6 29 1 = 6 := ⟨rfl, rfl⟩
set_option maxRecDepth 1000000 in
theorem h0_m30 (L : Nat) (xs : Nat → Int32) : (sh_0 L xs).1 6 30 0 = 5 ∧ (sh_0 L xs).1 6 30 1 = 6 := ⟨rfl, rfl⟩
set_option maxRecDepth 1000000 in
theorem h0_m31 (L : Nat) (xs : Nat → Int32) : (sh_0 L xs).1 6 31 0 = 5 ∧ (sh_0 L xs).1 6 31 1 = 2 := ⟨rfl, rfl⟩
set_option maxRecDepth 1000000 in
theorem h0_m32 (L : Nat) (xs : Nat → Int32) : (sh_0 L xs).1 6 32 0 = 60 ∧ (sh_0 L xs).1 6 32 1 = 1 := ⟨rfl, rfl⟩
set_option maxRecDepth 1000000 in
theorem h0_str (L : Nat) (xs : Nat → Int32) : rStr (sh_0 L xs) := fun _ _ => rfl
theorem h0_RC (L : Nat) (xs : Nat → Int32) : RC (sh_0 L xs) := fun r hr => by match r, hr with | 0, _ => exact h0_m0 L xs | 1, _ => exact h0_m1 L xs | 2, _ => exact h0_m2 L xs | 3, _ => exact h0_m3 L xs | 4, _ => exact h0_m4 L xs | 5, _ => exact h0_m5 L xs | 6, _ => exact h0_m6 L xs | 7, _ => exact h0_m7 L xs | 8, _ => exact h0_m8 L xs | 9, _ => exact h0_m9 L xs | 10, _ => exact h0_m10 L xs | 11, _ => exact h0_m11 L xs | 12, _ => exact h0_m12 L xs | 13, _ => exact h0_m13 L xs | 14, _ => exact h0_m14 L xs | 15, _ => exact h0_m15 L xs | 16, _ => exact h0_m16 L xs | 17, _ => exact h0_m17 L xs | 18, _ => exact h0_m18 L xs | 19, _ => exact h0_m19 L xs | 20, _ => exact h0_m20 L xs | 21, _ => exact h0_m21 L xs | 22, _ => exact h0_m22 L xs | 23, _ => exact h0_m23 L xs | 24, _ => exact h0_m24 L xs | 25, _ => exact h0_m25 L xs | 26, _ => exact h0_m26 L xs | 27, _ => exact h0_m27 L xs | 28, _ => exact h0_m28 L xs | 29, _ => exact h0_m29 L xs | 30, _ => exact h0_m30 L xs | 31, _ => exact h0_m31 L xs | 32, _ => exact h0_m32 L xs | q + 33, h => exact absurd h (by omega)
set_option maxRecDepth 1000000 in
theorem h0_s0 (L : Nat) (xs : Nat → Int32) : (sh_0 L xs).1 6 0 3 = 0 := rfl
set_option maxRecDepth 1000000 in
theorem h0_s1 (L : Nat) (xs : Nat → Int32) : (sh_0 L xs).1 6 1 3 = 0 := rfl
set_option maxRecDepth 1000000 in
theorem h0_s2 (L : Nat) (xs : Nat → Int32) : (sh_0 L xs).1 6 2 3 = 0 := rfl
set_option maxRecDepth 1000000 in
theorem h0_s3 (L : Nat) (xs : Nat → Int32) : (sh_0 L xs).1 6 3 3 = 0 := rfl
set_option maxRecDepth 1000000 in
theorem h0_s4 (L : Nat) (xs : Nat → Int32) : (sh_0 L xs).1 6 4 3 = 0 := rfl
set_option maxRecDepth 1000000 in
theorem h0_s5 (L : Nat) (xs : Nat → Int32) : (sh_0 L xs).1 6 5 3 = 0 := rfl
set_option maxRecDepth 1000000 in
theorem h0_s6 (L : Nat) (xs : Nat → Int32) : (sh_0 L xs).1 6 6 3 = 0 := rfl
set_option maxRecDepth 1000000 in
theorem h0_s14 (L : Nat) (xs : Nat → Int32) : (sh_0 L xs).1 6 14 3 = 30 := rfl
set_option maxRecDepth 1000000 in
theorem h0_s15 (L : Nat) (xs : Nat → Int32) : (sh_0 L xs).1 6 15 3 = 0 := rfl
set_option maxRecDepth 1000000 in
theorem h0_s16 (L : Nat) (xs : Nat → Int32) : (sh_0 L xs).1 6 16 3 = 0 := rfl
set_option maxRecDepth 1000000 in
theorem h0_s17 (L : Nat) (xs : Nat → Int32) : (sh_0 L xs).1 6 17 3 = 4 := rfl
set_option maxRecDepth 1000000 in
theorem h0_b (L : Nat) (xs : Nat → Int32) : (sh_0 L xs).1 11 0 1 = 0 := rfl
set_option maxRecDepth 1000000 in
theorem h0_f (L : Nat) (xs : Nat → Int32) : (sh_0 L xs).1 11 0 2 = -1 := rfl
set_option maxRecDepth 1000000 in
theorem h0_t (L : Nat) (xs : Nat → Int32) : (sh_0 L xs).1 12 0 0 = 0 := rfl
set_option maxRecDepth 1000000 in
theorem h0_g (L : Nat) (xs : Nat → Int32) : (sh_0 L xs).1 12 0 9 = -1 := rfl
set_option maxRecDepth 1000000 in
theorem h0_c (L : Nat) (xs : Nat → Int32) : (sh_0 L xs).1 2 0 1 = 0 := rfl
set_option maxRecDepth 1000000 in
theorem h0_y (L : Nat) (xs : Nat → Int32) : (sh_0 L xs).1 7 0 4 = 0 := rfl
set_option maxRecDepth 1000000 in
theorem h0_j5 (L : Nat) (xs : Nat → Int32) : (sh_0 L xs).2.1 7 0 5 = 0 := rfl
set_option maxRecDepth 1000000 in
theorem h0_j6 (L : Nat) (xs : Nat → Int32) : (sh_0 L xs).2.1 7 0 6 = 0 := rfl
set_option maxRecDepth 1000000 in
theorem h0_j7 (L : Nat) (xs : Nat → Int32) : (sh_0 L xs).2.1 7 0 7 = 0 := rfl
set_option maxRecDepth 1000000 in
theorem h0_h1 (L : Nat) (xs : Nat → Int32) : (sh_0 L xs).1 7 1 8 = 0 := rfl
set_option maxRecDepth 1000000 in
theorem h0_h2 (L : Nat) (xs : Nat → Int32) : (sh_0 L xs).1 7 2 8 = 0 := rfl
set_option maxRecDepth 1000000 in
theorem h0_l (L : Nat) (xs : Nat → Int32) (q : Nat) : (sh_0 L xs).2.1 14 6 q = 0 := rfl
set_option maxRecDepth 1000000 in
theorem h0_e (L : Nat) (xs : Nat → Int32) (q : Nat) : (sh_0 L xs).1 16 0 q = 0 := rfl
set_option maxRecDepth 1000000 in
theorem h0_x (L : Nat) (xs : Nat → Int32) (q : Nat) : (sh_0 L xs).1 17 0 q = xs q := rfl
theorem sumN_0 (n : Nat) : sumN (fun _ => 0) n = 0 := by
  induction n with
  | zero => rfl
  | succ n ih => exact ih
theorem St_0 (L : Nat) (xs : Nat → Int32) : St 0 (sh_0 L xs) (sh_0 L xs) := by
  have z := h0_z46 L xs
  have hs : ∀ j, j < 7 → (sh_0 L xs).1 6 (7 * 0 + j) 3 = nI 0 := fun j hj => by
    match j, hj with | 0, _ => exact h0_s0 L xs | 1, _ => exact h0_s1 L xs | 2, _ => exact h0_s2 L xs | 3, _ => exact h0_s3 L xs | 4, _ => exact h0_s4 L xs | 5, _ => exact h0_s5 L xs | 6, _ => exact h0_s6 L xs | q + 7, h => exact absurd h (by omega)
  have hf : ∀ o k, tf (sh_0 L xs) o k = 0 := fun o k => by
    unfold tf
    split
    · exact z _
    · rfl
  have hg : ∀ o k, sf (sh_0 L xs) o k = 0 := fun o k => by
    unfold sf
    split
    · exact z _
    · rfl
  refine ⟨h0_RC L xs, Or.inl ⟨rfl, rfl, h0_str L xs⟩, ⟨0, by omega, h0_b L xs, h0_t L xs, fun i hi => absurd hi (by omega)⟩, (h0_f L xs).trans (h0_g L xs).symm, ⟨fun j hj => ⟨0, by omega, hs j hj, z _, fun r hr => absurd hr (by omega)⟩, ⟨0, by omega, h0_c L xs, z _, fun i hi => absurd hi (by omega)⟩, fun n hn e r hr => absurd hr (by have e := (nI_eq (by omega) (by omega)).mp ((hs 5 (by omega)).symm.trans e); omega)⟩, ⟨⟨h0_s14 L xs, fun q _ => (h0_z20 L xs q).trans (z _).symm⟩, ⟨h0_s17 L xs, fun q _ => (h0_z23 L xs q).trans (z _).symm⟩, ⟨0, by omega, h0_s15 L xs, z _, fun i hi => absurd hi (by omega)⟩, ⟨0, by omega, h0_s16 L xs, z _, fun i hi => absurd hi (by omega)⟩, (h0_y L xs).trans (z _).symm, (h0_j5 L xs).trans (h0_l L xs _).symm, (h0_j6 L xs).trans (h0_l L xs _).symm, (h0_j7 L xs).trans (h0_l L xs _).symm⟩, ⟨⟨0, by omega, hf 0 0, fun r hr => absurd hr (by omega)⟩, ⟨0, by omega, hf 0 1, fun r hr => absurd hr (by omega)⟩, ⟨0, by omega, hf 0 2, fun r hr => absurd hr (by omega)⟩, ⟨0, by omega, hf 0 3, fun r hr => absurd hr (by omega)⟩, ⟨0, by omega, hf 0 4, fun r hr => absurd hr (by omega)⟩, ⟨0, by omega, hf 0 5, fun r hr => absurd hr (by omega)⟩, ⟨0, by omega, hf 0 6, fun r hr => absurd hr (by omega)⟩⟩, ⟨⟨fun _ => 0, fun q _ => hg 0 _, by rw [sumN_0]; omega⟩, ⟨0, by omega, by omega, hg 0 9⟩, ⟨0, by omega, hg 0 7, fun i hi => absurd hi (by omega)⟩, ⟨0, by omega, hg 0 8, fun i hi => absurd hi (by omega)⟩⟩, ⟨(h0_h1 L xs).trans (h0_e L xs _).symm, fun q => absurd (h0_e L xs _) q⟩, ⟨(h0_h2 L xs).trans (h0_e L xs _).symm, fun q => absurd (h0_e L xs _) q⟩⟩
