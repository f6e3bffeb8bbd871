/-! PAIR: read: the start -/
theorem C_names {l m : Nat} (hm : sh_l14 l = m) (m6 : m ≤ 6) (H : sh_H) : ∃ H', f_Reader_clearNames NF l H = some H' ∧ (∀ x, x < m → H'.2.1 14 l x = 0) ∧ (∀ c i x, ¬ (c = 14 ∧ i = l) → H'.2.1 c i x = H.2.1 c i x) ∧ H'.1 = H.1 ∧ H'.2.2 = H.2.2 := by
  have lp : ∀ (q i u : Nat) (H : sh_H), i + q = m → q < u → (∀ x, x < i → H.2.1 14 l x = 0) → ∃ H', f_Reader_clearNames_l2 NF u l (nI i) H = some H' ∧ (∀ x, x < m → H'.2.1 14 l x = 0) ∧ (∀ c i x, ¬ (c = 14 ∧ i = l) → H'.2.1 c i x = H.2.1 c i x) ∧ H'.1 = H.1 ∧ H'.2.2 = H.2.2 := by
    intro q
    induction q with
    | zero =>
      intro i u H e1 e2 h
      obtain ⟨u, rfl⟩ : ∃ m, u = m + 1 := ⟨u - 1, by omega⟩
      refine ⟨H, ?_, fun x hx => h x (by omega), fun _ _ _ _ => rfl, rfl, rfl⟩
      show f_Reader_clearNames_c2 NF (f_Reader_clearNames_l2 NF u) l (nI i) H = _
      unfold f_Reader_clearNames_c2
      rw [hm, q_len, if_neg (nI_nlt (by omega) (by omega))]
    | succ q ih =>
      intro i u H e1 e2 h
      obtain ⟨u, rfl⟩ : ∃ m, u = m + 1 := ⟨u - 1, by omega⟩
      obtain ⟨H', k1, k2, k3, k4, k5⟩ := ih (i + 1) u (sh_pJ H 14 l i 0) (by omega) (by omega) (fun x hx => by
        by_cases e : x = i
        · rw [e, pJ_at]
        · rw [pJ_ne (by omega)]; exact h x (by omega))
      refine ⟨H', ?_, k2, fun c j x n => (k3 c j x n).trans (pJ_ne (by omega)), k4, k5⟩
      have cut : ∀ R, R = f_Reader_clearNames_c2 NF (f_Reader_clearNames_l2 NF u) l (nI i) H → f_Reader_clearNames_l2 NF (u + 1) l (nI i) H = R := fun R e => e.symm
      rw [cut _ rfl]
      unfold f_Reader_clearNames_c2
      rw [hm, q_len, if_pos (nI_lt (by omega) (by omega)), if_pos (q_in (by omega) (by omega)), sh_let, q_cl (by omega), nI_1, k1]
  exact lp m 0 NF H (by omega) (NF_gt (by omega)) (fun x hx => by omega)
theorem C_text (sp : Nat) (H : sh_H) : ∃ H', f_Text_clear sp H = some H' ∧ (∀ j, j < 7 → H'.1 6 (7 * sp + j) 3 = 0) ∧ H'.1 2 sp 1 = 0 ∧ (∀ c i x, ¬ (c = 6 ∧ 7 * sp ≤ i ∧ i < 7 * sp + 7 ∧ x = 3) → ¬ (c = 2 ∧ i = sp ∧ x = 1) → H'.1 c i x = H.1 c i x) ∧ H'.2 = H.2 := by
  unfold f_Text_clear f_Rows_clear f_Formulas_clear
  simp only [sh_let, Option.bind_some]
  refine ⟨_, rfl, fun j hj => ?_, pI_at .., fun c i x n1 n2 => ?_, rfl⟩
  · rcases (show j = 0 ∨ j = 1 ∨ j = 2 ∨ j = 3 ∨ j = 4 ∨ j = 5 ∨ j = 6 by omega) with rfl | rfl | rfl | rfl | rfl | rfl | rfl
    all_goals simp only [pI_1]
    all_goals simp
  · rw [pI_ne (by omega), pI_ne (by omega), pI_ne (by omega), pI_ne (by omega), pI_ne (by omega), pI_ne (by omega), pI_ne (by omega), pI_ne (by omega)]
theorem M_zero (K : sh_H → Option (Int32 × sh_H)) (G : sh_H) : ∃ G', f_M_read_l21 NF K NF 0 G = K G' ∧ (∀ x, x < 2000 → G'.1 13 46 (2000 + x) = 0) ∧ (∀ c i x, ¬ (c = 13 ∧ i = 46 ∧ 2000 ≤ x ∧ x < 4000) → G'.1 c i x = G.1 c i x) ∧ G'.2 = G.2 := by
  have lp : ∀ (q i u : Nat) (G : sh_H), i + q = 2000 → q < u → (∀ x, x < i → G.1 13 46 (2000 + x) = 0) → ∃ G', f_M_read_l21 NF K u (nI i) G = K G' ∧ (∀ x, x < 2000 → G'.1 13 46 (2000 + x) = 0) ∧ (∀ c i x, ¬ (c = 13 ∧ i = 46 ∧ 2000 ≤ x ∧ x < 4000) → G'.1 c i x = G.1 c i x) ∧ G'.2 = G.2 := by
    intro q
    induction q with
    | zero =>
      intro i u G e1 e2 h
      obtain ⟨u, rfl⟩ : ∃ m, u = m + 1 := ⟨u - 1, by omega⟩
      refine ⟨G, ?_, fun x hx => h x (by omega), fun _ _ _ _ => rfl, rfl⟩
      show f_M_read_c21 NF K (f_M_read_l21 NF K u) (nI i) G = _
      unfold f_M_read_c21
      rw [if_neg (show ¬ nI i < (2000 : Int32) from nI_nlt (b := 2000) (by omega) (by omega))]
    | succ q ih =>
      intro i u G e1 e2 h
      obtain ⟨u, rfl⟩ : ∃ m, u = m + 1 := ⟨u - 1, by omega⟩
      obtain ⟨G', k1, k2, k3, k4⟩ := ih (i + 1) u (sh_pI G 13 46 (2000 + i) 0) (by omega) (by omega) (fun x hx => by
        by_cases e : x = i
        · rw [e, pI_at]
        · rw [pI_ne (by omega)]; exact h x (by omega))
      refine ⟨G', ?_, k2, fun c j x n => (k3 c j x n).trans (pI_ne (by omega)), k4⟩
      have cut : ∀ R, R = f_M_read_c21 NF K (f_M_read_l21 NF K u) (nI i) G → f_M_read_l21 NF K (u + 1) (nI i) G = R := fun R e => e.symm
      rw [cut _ rfl]
      unfold f_M_read_c21
      rw [if_pos (show nI i < (2000 : Int32) from nI_lt (b := 2000) (by omega) (by omega)), M_tell2 (by omega), Option.bind_some, nI_1, k1]
  exact lp 2000 0 NF G (by omega) (NF_gt (by omega)) (fun x hx => by omega)
theorem M_zero2 (K : sh_H → Option (Int32 × sh_H)) (G : sh_H) : ∃ G', f_M_read_l42 NF K NF 0 G = K G' ∧ (∀ x, x < 3 → G'.2.1 14 6 (3 + x) = 0) ∧ (∀ c i x, ¬ (c = 14 ∧ i = 6 ∧ 3 ≤ x ∧ x < 6) → G'.2.1 c i x = G.2.1 c i x) ∧ G'.1 = G.1 ∧ G'.2.2 = G.2.2 := by
  have lp : ∀ (q i u : Nat) (G : sh_H), i + q = 3 → q < u → (∀ x, x < i → G.2.1 14 6 (3 + x) = 0) → ∃ G', f_M_read_l42 NF K u (nI i) G = K G' ∧ (∀ x, x < 3 → G'.2.1 14 6 (3 + x) = 0) ∧ (∀ c i x, ¬ (c = 14 ∧ i = 6 ∧ 3 ≤ x ∧ x < 6) → G'.2.1 c i x = G.2.1 c i x) ∧ G'.1 = G.1 ∧ G'.2.2 = G.2.2 := by
    intro q
    induction q with
    | zero =>
      intro i u G e1 e2 h
      obtain ⟨u, rfl⟩ : ∃ m, u = m + 1 := ⟨u - 1, by omega⟩
      refine ⟨G, ?_, fun x hx => h x (by omega), fun _ _ _ _ => rfl, rfl, rfl⟩
      show f_M_read_c42 NF K (f_M_read_l42 NF K u) (nI i) G = _
      unfold f_M_read_c42
      rw [if_neg (show ¬ nI i < (3 : Int32) from nI_nlt (b := 3) (by omega) (by omega))]
    | succ q ih =>
      intro i u G e1 e2 h
      obtain ⟨u, rfl⟩ : ∃ m, u = m + 1 := ⟨u - 1, by omega⟩
      obtain ⟨G', k1, k2, k3, k4, k5⟩ := ih (i + 1) u (sh_pJ G 14 6 (3 + i) 0) (by omega) (by omega) (fun x hx => by
        by_cases e : x = i
        · rw [e, pJ_at]
        · rw [pJ_ne (by omega)]; exact h x (by omega))
      refine ⟨G', ?_, k2, fun c j x n => (k3 c j x n).trans (pJ_ne (by omega)), k4, k5⟩
      have cut : ∀ R, R = f_M_read_c42 NF K (f_M_read_l42 NF K u) (nI i) G → f_M_read_l42 NF K (u + 1) (nI i) G = R := fun R e => e.symm
      rw [cut _ rfl]
      unfold f_M_read_c42
      rw [if_pos (show nI i < (3 : Int32) from nI_lt (b := 3) (by omega) (by omega)), show (3 : Int32) + nI i = nI (3 + i) from nI_add 3 i, if_pos (q_in (by omega) (by omega)), sh_let, q_cl (by omega), nI_1, k1]
  exact lp 3 0 NF G (by omega) (NF_gt (by omega)) (fun x hx => by omega)
/-- what reading may change: the class, the model -/
def zC (sp : Nat) (H' H : sh_H) : Prop := (∀ c i x, c ≠ 5 → c ≠ 10 → ¬ (c = 6 ∧ 7 * sp ≤ i ∧ i < 7 * sp + 7 ∧ x = 3) → ¬ (c = 13 ∧ 9 * sp ≤ i ∧ i < 9 * sp + 8) → ¬ (c = 13 ∧ (i = 18 ∨ i = 19)) → ¬ (c = 2 ∧ i = sp ∧ x = 1) → H'.1 c i x = H.1 c i x) ∧ (∀ c i x, c ≠ 10 → ¬ (c = 14 ∧ i < 3) → H'.2.1 c i x = H.2.1 c i x) ∧ H'.2.2 = H.2.2
def zM (G' G : sh_H) : Prop := (∀ c i x, c ≠ 12 → ¬ (c = 13 ∧ 43 ≤ i ∧ i ≤ 49 ∧ i ≠ 46) → ¬ (c = 13 ∧ i = 46 ∧ 2000 ≤ x ∧ x < 4000) → G'.1 c i x = G.1 c i x) ∧ (∀ c i x, ¬ (c = 14 ∧ (i = 5 ∨ i = 7)) → ¬ (c = 14 ∧ i = 6 ∧ 3 ≤ x ∧ x < 6) → G'.2.1 c i x = G.2.1 c i x) ∧ G'.2.2 = G.2.2
theorem NR_zero {B : Nat → Nat} {n : Nat} {H G : sh_H} (h1 : ∀ r, r < 6 → H.2.1 14 1 r = 0) (h2 : ∀ r, r < 4 → H.2.1 14 2 r = 0) : NR B n 0 0 H G := by
  refine ⟨fun _ => 0, fun _ => 0, fun _ => 0, fun k hk => absurd hk (Nat.not_lt_zero k), fun t r ht hr => ?_, fun k k' hk => absurd hk (Nat.not_lt_zero k), fun r _ hr => h1 r hr, fun r _ hr => h2 r hr⟩
  unfold NN at hr
  split at hr <;> omega
theorem C_exam {n sp : Nat} {H H1 H2 H3 H4 : sh_H} (a1 : f_Reader_clearNames NF 1 H = some H1) (b1 : f_Reader_clearNames NF 2 H1 = some H2) (c1 : f_Text_clear sp H2 = some H3) (d1 : f_Tokens_scan NF (nI n) H3 = some H4) : f_Reader_examine NF (nI n) sp H = f_Reader_examine_l45 NF (f_Reader_examine_b84 NF) NF sp 0 (sh_pI (sh_pI (sh_pI H4 5 0 3 (0 : Int32)) 5 0 4 (0 : Int32)) 5 0 6 (0 : Int32)) := by
  unfold f_Reader_examine
  rw [a1, Option.bind_some, b1, Option.bind_some, c1, Option.bind_some, d1, Option.bind_some, sh_let, sh_let, sh_let]
def rdE (v7 : Int32) (h8 : sh_H) : Option (Int32 × sh_H) := (if v7 = 0 then f_M_read_b92 NF h8 else (if (h8.1 12 0 10) = 0 then f_M_read_b92 NF h8 else (sh_let (sh_pI h8 12 0 8 (h8.1 12 0 10)) (fun h9 => (sh_let (sh_pI h9 12 0 9 (h9.1 12 0 11)) (fun h10 => f_M_read_b92 NF h10))))))
theorem M_b62 (G3 : sh_H) : f_M_read_b62 NF G3 = sh_b2 (f_M_parses_l10 NF (f_M_parses_b41 NF) NF (sh_pI (sh_pI G3 12 0 7 (0 : Int32)) 12 0 15 (0 : Int32))) rdE := by
  unfold f_M_read_b62 f_M_parses
  rw [sh_let, sh_let]
  rfl
theorem M_exam {G G1 G2 G3 : sh_H} (d2 : f_M_scanAll NF G = some G1) (g1 : f_M_read_l21 NF (f_M_read_b40 NF) NF 0 (sh_pI (sh_pI (sh_pI G1 12 0 8 (0 : Int32)) 12 0 9 (-1 : Int32)) 12 0 10 (0 : Int32)) = f_M_read_b40 NF G2) (k1 : f_M_read_l42 NF (f_M_read_b62 NF) NF 0 G2 = f_M_read_b62 NF G3) : f_M_read NF G = sh_b2 (f_M_parses_l10 NF (f_M_parses_b41 NF) NF (sh_pI (sh_pI G3 12 0 7 (0 : Int32)) 12 0 15 (0 : Int32))) rdE := by
  unfold f_M_read
  rw [d2, Option.bind_some, sh_let, sh_let, sh_let, g1]
  unfold f_M_read_b40
  rw [k1, M_b62]
theorem R_start {B : Nat → Nat} {n sp : Nat} {H G : sh_H} (hp : sp < 2) (hC : RC H) (hs : rStr H) (t : TPm B n G) (hc : ∀ i, i < n → H.1 15 0 i = (nI (B i)).toInt8.toInt32) : ∃ sz H1 G1, f_Reader_examine NF (nI n) sp H = f_Reader_examine_l45 NF (f_Reader_examine_b84 NF) NF sp 0 H1 ∧ f_M_read NF G = sh_b2 (f_M_parses_l10 NF (f_M_parses_b41 NF) NF G1) rdE ∧ PS B n sz 0 0 0 H1 G1 ∧ CX B n 0 0 sp (fun _ => 0) 0 (fun _ => 0) (fun _ => 0) H1 G1 ∧ zC sp H1 H ∧ zM G1 G ∧ G1.1 12 0 8 = 0 ∧ G1.1 12 0 9 = -1 ∧ (∀ x, x < 2000 → G1.1 13 46 (2000 + x) = 0) ∧ (∀ x, x < 3 → G1.2.1 14 6 (3 + x) = 0) := by
  obtain ⟨H1, a1, a2, a3, a4, a5⟩ := C_names l14_n.1 (by omega) H
  obtain ⟨H2, b1, b2, b3, b4, b5⟩ := C_names l14_n.2 (by omega) H1
  obtain ⟨H3, c1, c2, c3, c4, c5⟩ := C_text sp H2
  have e3 : ∀ c i x, ¬ (c = 6 ∧ 7 * sp ≤ i ∧ i < 7 * sp + 7 ∧ x = 3) → ¬ (c = 2 ∧ i = sp ∧ x = 1) → H3.1 c i x = H.1 c i x := fun c i x n1 n2 => (c4 c i x n1 n2).trans (by rw [b4, a4])
  obtain ⟨sz, H4, G1, d1, d2, d3, d4, d5, d6, d7⟩ := scan_both (H := H3) t.1 t.2.1 (fun i hi => (e3 _ _ _ (by omega) (by omega)).trans (hc i hi)) (fun i j => (e3 _ _ _ (by omega) (by omega)).trans (hs i j)) t
  obtain ⟨G2, g1, g2, g3, g4⟩ := M_zero (f_M_read_b40 NF) (sh_pI (sh_pI (sh_pI G1 12 0 8 (0 : Int32)) 12 0 9 (-1 : Int32)) 12 0 10 (0 : Int32))
  obtain ⟨G3, k1, k2, k3, k4, k5⟩ := M_zero2 (f_M_read_b62 NF) G2
  refine ⟨sz, sh_pI (sh_pI (sh_pI H4 5 0 3 (0 : Int32)) 5 0 4 (0 : Int32)) 5 0 6 (0 : Int32), sh_pI (sh_pI G3 12 0 7 (0 : Int32)) 12 0 15 (0 : Int32), ?_, ?_, ?_, ?_, ?_, ?_, ?_, ?_, ?_, ?_⟩
  · exact C_exam a1 b1 c1 d1
  · exact M_exam d2 g1 k1
  · refine PS_mk (TK_to (fun c i j h => (pI_ne (by omega)).trans ((pI_ne (by omega)).trans (pI_ne (by omega)))) (fun j => rfl) (fun i j h1 h2 => (pI_ne (by omega)).trans ((pI_ne (by omega)).trans ?_)) (fun j => ?_) d3) d3.2.1 ?_ ?_ ?_ ⟨pI_at .., by omega, fun z => absurd rfl z⟩ ⟨?_, by omega, fun z => absurd rfl z, ?_, ?_⟩ (fun z => absurd rfl z)
    · rw [k4, g3 _ _ _ (by omega), pI_ne (by omega), pI_ne (by omega), pI_ne (by omega)]
    · show G3.2.1 14 5 j = _
      rw [k3 _ _ _ (by omega), g4]; rfl
    · rw [pI_ne (by omega), pI_ne (by omega), pI_at]; rfl
    · rw [pI_ne (by omega), pI_at]
    · rw [pI_ne (by omega), pI_at]; rfl
    · rw [pI_ne (by omega), pI_ne (by omega), k4, g3 _ _ _ (by omega), pI_at]; rfl
    · rw [pI_ne (by omega), pI_ne (by omega), k4, g3 _ _ _ (by omega), pI_ne (by omega), pI_ne (by omega), pI_at]
    · rw [pI_ne (by omega), pI_ne (by omega), k4, g3 _ _ _ (by omega), pI_ne (by omega), pI_at]
  · have s1 : ∀ c i x, c ≠ 5 → c ≠ 10 → ¬ (c = 13 ∧ (i = 18 ∨ i = 19)) → (sh_pI (sh_pI (sh_pI H4 5 0 3 (0 : Int32)) 5 0 4 (0 : Int32)) 5 0 6 (0 : Int32)).1 c i x = H3.1 c i x := fun c i x n1 n2 n3 => (pI_ne (by omega)).trans ((pI_ne (by omega)).trans ((pI_ne (by omega)).trans (d4 c i x n2 n3)))
    have s2 : ∀ c i x, c ≠ 12 → (sh_pI (sh_pI G3 12 0 7 (0 : Int32)) 12 0 15 (0 : Int32)).1 c i x = G2.1 c i x := fun c i x n1 => (pI_ne (by omega)).trans ((pI_ne (by omega)).trans (by rw [k4]))
    refine ⟨RC_of hC (fun r i h1 h2 => (s1 _ _ _ (by omega) (by omega) (by omega)).trans (e3 _ _ _ (by omega) (by omega))), fun j hj => ⟨Nat.zero_le _, (s1 _ _ _ (by omega) (by omega) (by omega)).trans (c2 j hj), (s2 _ _ _ (by omega)).trans (g2 j (by omega))⟩, ⟨(s1 _ _ _ (by omega) (by omega) (by omega)).trans c3, fun k hk => by omega⟩, ⟨(s2 _ _ _ (by omega)).trans (g2 10 (by omega)), fun k hk => by omega⟩, fun k hk => by omega, Nat.le_refl _, ⟨pI_at .., fun _ => NR_zero (fun r hr => ?_) (fun r hr => ?_)⟩, fun _ j hj r hr => absurd hr (Nat.not_lt_zero r)⟩
    · show H4.2.1 14 1 r = 0
      rw [d5 _ _ _ (by omega) (by omega), c5, b3 _ _ _ (by omega), a2 r hr]
    · show H4.2.1 14 2 r = 0
      rw [d5 _ _ _ (by omega) (by omega), c5, b2 r hr]
  · refine ⟨fun c i x n1 n2 n3 n4 n5 n6 => (pI_ne (by omega)).trans ((pI_ne (by omega)).trans ((pI_ne (by omega)).trans ((d4 c i x n2 n5).trans (e3 c i x n3 n6)))), fun c i x n1 n2 => (d5 c i x n1 (by omega)).trans ?_, ?_⟩
    · rw [c5, b3 _ _ _ (by omega), a3 _ _ _ (by omega)]
    · show H4.2.2 = H.2.2
      rw [d6, c5, b5, a5]
  · refine ⟨fun c i x n1 n2 n3 => (pI_ne (by omega)).trans ((pI_ne (by omega)).trans ?_), fun c i x n1 n2 => (k3 c i x n2).trans ?_, ?_⟩
    · rw [k4, g3 c i x n3, pI_ne (by omega), pI_ne (by omega), pI_ne (by omega), d7.1 c i x (by omega) (by omega)]
    · rw [g4]
      exact d7.2.1 c i x (by omega)
    · show G3.2.2 = G.2.2
      rw [k5, g4]
      exact d7.2.2
  · rw [pI_ne (by omega), pI_ne (by omega), k4, g3 _ _ _ (by omega), pI_ne (by omega), pI_ne (by omega), pI_at]
  · rw [pI_ne (by omega), pI_ne (by omega), k4, g3 _ _ _ (by omega), pI_ne (by omega), pI_at]
  · intro x hx
    rw [pI_ne (by omega), pI_ne (by omega), k4, g2 x hx]
  · exact k2
