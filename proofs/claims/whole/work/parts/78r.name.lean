/-! PAIR: read: names -/
def ixr (c : Nat → Int64) (v : Int64) : Nat → Nat → Int32
  | 0, _ => -1
  | q + 1, i => if c i = v ∧ ¬ v = 0 then nI i else ixr c v q (i + 1)
theorem l14_n : sh_l14 1 = 6 ∧ sh_l14 2 = 4 := by decide
theorem C_indexOf {l : Nat} (hl : sh_l14 l ≤ 6) (v : Int64) (H : sh_H) : f_Reader_indexOf NF l v H = some (ixr (H.2.1 14 l) v (sh_l14 l) 0) := by
  have lp : ∀ (q i u : Nat), i + q = sh_l14 l → q < u → f_Reader_indexOf_l2 NF u l v (nI i) H = some (ixr (H.2.1 14 l) v q i) := by
    intro q
    induction q with
    | zero =>
      intro i u e1 e2
      obtain ⟨u, rfl⟩ : ∃ m, u = m + 1 := ⟨u - 1, by omega⟩
      show f_Reader_indexOf_c2 NF (f_Reader_indexOf_l2 NF u) l v (nI i) H = _
      unfold f_Reader_indexOf_c2
      rw [q_len, if_neg (nI_nlt (by omega) (by omega))]
      rfl
    | succ q ih =>
      intro i u e1 e2
      obtain ⟨u, rfl⟩ : ∃ m, u = m + 1 := ⟨u - 1, by omega⟩
      show f_Reader_indexOf_c2 NF (f_Reader_indexOf_l2 NF u) l v (nI i) H = _
      unfold f_Reader_indexOf_c2 f_Reader_indexOf_b24 ixr
      rw [q_len, if_pos (nI_lt (by omega) (by omega)), if_pos (q_in (by omega) (by omega)), q_cl (by omega), nI_1, ih (i + 1) u (by omega) (by omega)]
      by_cases c : H.2.1 14 l i = v
      · rw [if_pos ((lg_cmp_eq _ _).mpr c)]
        by_cases d : v = 0
        · rw [if_pos ((lg_cmp_eq _ _).mpr d), if_neg (fun z => z.2 d)]
        · rw [if_neg (fun z => d ((lg_cmp_eq _ _).mp z)), if_pos ⟨c, d⟩]
      · rw [if_neg (fun z => c ((lg_cmp_eq _ _).mp z)), if_neg (fun z => c z.1)]
  exact lp (sh_l14 l) 0 NF (by omega) (NF_gt (by omega))
theorem ixr_hit {c : Nat → Int64} {v : Int64} (hv : ¬ v = 0) {r : Nat} (hr : c r = v) : ∀ {q i : Nat}, i ≤ r → r < i + q → (∀ j, i ≤ j → j < r → ¬ c j = v) → ixr c v q i = nI r := by
  intro q
  induction q with
  | zero => intro i h1 h2; omega
  | succ q ih =>
    intro i h1 h2 h3
    unfold ixr
    by_cases e : i = r
    · rw [e, if_pos ⟨hr, hv⟩]
    · rw [if_neg (fun z => h3 i (Nat.le_refl _) (by omega) z.1)]
      exact ih (by omega) (by omega) (fun j h4 h5 => h3 j (by omega) h5)
theorem ixr_miss {c : Nat → Int64} {v : Int64} : ∀ {q i : Nat}, (∀ j, i ≤ j → j < i + q → ¬ c j = v) → ixr c v q i = -1 := by
  intro q
  induction q with
  | zero => intro i _; rfl
  | succ q ih =>
    intro i h3
    unfold ixr
    rw [if_neg (fun z => h3 i (Nat.le_refl _) (by omega) z.1)]
    exact ih (fun j h4 h5 => h3 j (by omega) (by omega))
def NN (t N0 N1 : Nat) : Nat := if t = 0 then N0 else N1
/-- the names told so far, in both -/
def NR (B : Nat → Nat) (n N0 N1 : Nat) (H G : sh_H) : Prop := ∃ x s m : Nat → Nat, (∀ k, k < N0 + N1 → tT B n (x k) = 20 ∧ s k < 2 ∧ m k < NN (s k) N0 N1 ∧ G.2.1 14 7 k = lN (tY B n (x k)) ∧ G.1 13 47 k = nI (s k) ∧ G.1 13 48 k = nI (m k) ∧ H.2.1 14 (1 + s k) (m k) = lN (tX B n (x k))) ∧ (∀ t r, t < 2 → r < NN t N0 N1 → ∃ k, k < N0 + N1 ∧ s k = t ∧ m k = r) ∧ (∀ k k', k < N0 + N1 → k' < N0 + N1 → tX B n (x k) = tX B n (x k') → k = k') ∧ (∀ r, N0 ≤ r → r < 6 → H.2.1 14 1 r = 0) ∧ (∀ r, N1 ≤ r → r < 4 → H.2.1 14 2 r = 0)
theorem NR_to {B : Nat → Nat} {n N0 N1 : Nat} {H G H' G' : sh_H} (e1 : ∀ i j, i = 1 ∨ i = 2 → H'.2.1 14 i j = H.2.1 14 i j) (e2 : ∀ j, G'.2.1 14 7 j = G.2.1 14 7 j) (e3 : ∀ i j, i = 47 ∨ i = 48 → G'.1 13 i j = G.1 13 i j) (h : NR B n N0 N1 H G) : NR B n N0 N1 H' G' := by
  obtain ⟨x, s, m, h1, h2, h3, h4, h5⟩ := h
  refine ⟨x, s, m, fun k hk => ?_, h2, h3, fun r a b => (e1 1 r (Or.inl rfl)).trans (h4 r a b), fun r a b => (e1 2 r (Or.inr rfl)).trans (h5 r a b)⟩
  obtain ⟨a1, a2, a3, a4, a5, a6, a7⟩ := h1 k hk
  exact ⟨a1, a2, a3, (e2 k).trans a4, (e3 47 k (Or.inl rfl)).trans a5, (e3 48 k (Or.inr rfl)).trans a6, (e1 _ _ (by omega)).trans a7⟩
/-- where the model's names match -/
def mtc (G : sh_H) (t a j : Nat) : Prop := G.2.1 14 7 j = G.2.1 14 5 a ∧ G.1 13 47 j = nI t
theorem NR_find {B : Nat → Nat} {n N0 N1 a t : Nat} {H G : sh_H} (h : NR B n N0 N1 H G) (n6 : N0 ≤ 6) (n4 : N1 ≤ 4) (ha : tT B n a = 20) (ht : t < 2) (hy : G.2.1 14 5 a = lN (tY B n a)) : (∃ r k, r < NN t N0 N1 ∧ k < N0 + N1 ∧ ixr (H.2.1 14 (1 + t)) (lN (tX B n a)) (sh_l14 (1 + t)) 0 = nI r ∧ (∀ j, j < N0 + N1 → (mtc G t a j ↔ j = k)) ∧ G.1 13 48 k = nI r) ∨ (ixr (H.2.1 14 (1 + t)) (lN (tX B n a)) (sh_l14 (1 + t)) 0 = -1 ∧ ∀ j, j < N0 + N1 → ¬ mtc G t a j) := by
  obtain ⟨x, s, m, h1, h2, h3, h4, h5⟩ := h
  obtain ⟨x0, x1, x2⟩ := tX_in ha
  have v0 : ¬ lN (tX B n a) = 0 := by
    rw [show (0 : Int64) = lN 0 from rfl, pk_lEQ (by omega) (by omega)]
    omega
  have mt : ∀ j, j < N0 + N1 → (mtc G t a j ↔ tX B n (x j) = tX B n a ∧ s j = t) := by
    intro j hj
    obtain ⟨a1, a2, a3, a4, a5, a6, a7⟩ := h1 j hj
    obtain ⟨y0, y1, y2⟩ := tX_in a1
    unfold mtc
    rw [a4, a5, hy, pk_lEQ (by omega) (by omega), nI_eq (by omega) (by omega), tX_iff a1 ha]
  have cell : ∀ i, i < sh_l14 (1 + t) → H.2.1 14 (1 + t) i = lN (tX B n a) → ∃ k, k < N0 + N1 ∧ s k = t ∧ m k = i ∧ tX B n (x k) = tX B n a := by
    intro i hi e
    by_cases c : i < NN t N0 N1
    · obtain ⟨k, k1, k2, k3⟩ := h2 t i ht c
      obtain ⟨a1, a2, a3, a4, a5, a6, a7⟩ := h1 k k1
      obtain ⟨y0, y1, y2⟩ := tX_in a1
      rw [k2, k3, e, pk_lEQ (by omega) (by omega)] at a7
      exact ⟨k, k1, k2, k3, a7.symm⟩
    · exfalso
      apply v0
      rw [← e]
      unfold NN at c
      rcases (show t = 0 ∨ t = 1 by omega) with rfl | rfl
      · rw [if_pos rfl] at c
        exact h4 i (by omega) (by rw [l14_n.1] at hi; exact hi)
      · rw [if_neg (by omega)] at c
        exact h5 i (by omega) (by rw [l14_n.2] at hi; exact hi)
  have len : NN t N0 N1 ≤ sh_l14 (1 + t) := by
    unfold NN
    rcases (show t = 0 ∨ t = 1 by omega) with rfl | rfl
    · rw [if_pos rfl, l14_n.1]; exact n6
    · rw [if_neg (by omega), l14_n.2]; exact n4
  by_cases c : ∃ k, k < N0 + N1 ∧ s k = t ∧ tX B n (x k) = tX B n a
  · obtain ⟨k, k1, k2, k3⟩ := c
    obtain ⟨a1, a2, a3, a4, a5, a6, a7⟩ := h1 k k1
    rw [k2] at a3 a7
    rw [k3] at a7
    refine Or.inl ⟨m k, k, a3, k1, ixr_hit v0 a7 (Nat.zero_le _) (by omega) (fun j _ hj e => ?_), fun j hj => ?_, a6⟩
    · obtain ⟨k', b1, b2, b3, b4⟩ := cell j (by omega) e
      have := h3 k' k b1 k1 (b4.trans k3.symm)
      rw [this] at b3
      omega
    · rw [mt j hj]
      constructor
      · intro z; exact h3 j k hj k1 (z.1.trans k3.symm)
      · intro z; rw [z]; exact ⟨k3, k2⟩
  · refine Or.inr ⟨ixr_miss (fun j _ hj e => ?_), fun j hj z => ?_⟩
    · obtain ⟨k', b1, b2, b3, b4⟩ := cell j (by omega) e
      exact c ⟨k', b1, b2, b4⟩
    · have := (mt j hj).mp z
      exact c ⟨j, hj, this.2, this.1⟩
/-- the model's loop -/
def tnv (G : sh_H) (t a : Nat) : Nat → Int32 → Int32
  | 0, w => w
  | q + 1, w => tnv G t a q (if G.2.1 14 7 q = G.2.1 14 5 a ∧ G.1 13 47 q = nI t then G.1 13 48 q else w)
theorem tnv_pI {G : sh_H} {t a j : Nat} {v : Int32} : ∀ {q : Nat} {w : Int32}, tnv (sh_pI G 12 0 j v) t a q w = tnv G t a q w := by
  intro q
  induction q with
  | zero => intro w; rfl
  | succ q ih =>
    intro w
    show tnv (sh_pI G 12 0 j v) t a q _ = tnv G t a q _
    rw [ih, pI_2, pI_ne (by omega), pI_ne (by omega)]
theorem tnv_miss {G : sh_H} {t a : Nat} : ∀ {q : Nat} {w : Int32}, (∀ j, j < q → ¬ mtc G t a j) → tnv G t a q w = w := by
  intro q
  induction q with
  | zero => intro w _; rfl
  | succ q ih =>
    intro w h
    show tnv G t a q _ = w
    rw [if_neg (show ¬ (G.2.1 14 7 q = G.2.1 14 5 a ∧ G.1 13 47 q = nI t) from h q (by omega))]
    exact ih (fun j hj => h j (by omega))
theorem tnv_hit {G : sh_H} {t a k : Nat} : ∀ {q : Nat} {w : Int32}, k < q → (∀ j, j < q → (mtc G t a j ↔ j = k)) → tnv G t a q w = G.1 13 48 k := by
  intro q
  induction q with
  | zero => intro w h; omega
  | succ q ih =>
    intro w hk h
    show tnv G t a q _ = _
    by_cases c : q = k
    · rw [if_pos (show G.2.1 14 7 q = G.2.1 14 5 a ∧ G.1 13 47 q = nI t from (h q (by omega)).mpr c), c]
      rw [c] at h
      exact tnv_miss (fun j hj z => by have := (h j (by omega)).mp z; omega)
    · exact ih (by omega) (fun j hj => h j (by omega))
theorem M_tn {t a : Nat} (ha : a < 2001) (K : Int32 → sh_H → Option (Int32 × sh_H)) : ∀ (q u : Nat) (G : sh_H) (w : Int32), q ≤ 12 → q < u → G.1 12 0 19 = w → f_M_takesName_l27 NF K u (nI t) (nI a) (nI q - 1) G = K (nI a) (sh_pI G 12 0 19 (tnv G t a q w)) := by
  intro q
  induction q with
  | zero =>
    intro u G w hq hu hw
    obtain ⟨u, rfl⟩ : ∃ m, u = m + 1 := ⟨u - 1, by omega⟩
    show f_M_takesName_c27 NF K (f_M_takesName_l27 NF K u) (nI t) (nI a) (nI 0 - 1) G = _
    unfold f_M_takesName_c27
    rw [if_pos (show nI 0 - 1 < 0 by decide), pI_id (show G.1 12 0 19 = tnv G t a 0 w from hw)]
  | succ q ih =>
    intro u G w hq hu hw
    obtain ⟨u, rfl⟩ : ∃ m, u = m + 1 := ⟨u - 1, by omega⟩
    have iq : ai_in (nI q) 12 := q_in (by omega) (by omega)
    have ia : ai_in (nI a) 2001 := q_in ha (by omega)
    have st : f_M_takesName_l27 NF K (u + 1) (nI t) (nI a) (nI (q + 1) - 1) G = f_M_takesName_l27 NF K u (nI t) (nI a) (nI q - 1) (sh_pI G 12 0 19 (if G.2.1 14 7 q = G.2.1 14 5 a ∧ G.1 13 47 q = nI t then G.1 13 48 q else w)) := by
      show f_M_takesName_c27 NF K (f_M_takesName_l27 NF K u) (nI t) (nI a) (nI (q + 1) - 1) G = _
      unfold f_M_takesName_c27 f_M_takesName_b67
      rw [nI_pred, if_neg (nI_pos (by omega)), if_pos iq, if_pos ia, if_pos iq, if_pos iq, q_cl (by omega), q_cl (by omega), show nI q + -1 = nI q - 1 from (Int32.sub_eq_add_neg _ _).symm]
      by_cases c : G.2.1 14 7 q = G.2.1 14 5 a
      · rw [if_pos ((lg_cmp_eq _ _).mpr c)]
        by_cases d : G.1 13 47 q = nI t
        · rw [if_pos d, if_pos ⟨c, d⟩, sh_let]
        · rw [if_neg d, if_neg (fun z => d z.2), pI_id hw]
      · rw [if_neg (fun z => c ((lg_cmp_eq _ _).mp z)), if_neg (fun z => c z.1), pI_id hw]
    rw [st, ih u _ _ (by omega) (by omega) (pI_at _ _ _ _ _), tnv_pI, pI_pI]
    rfl
