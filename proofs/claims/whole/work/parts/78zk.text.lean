/-! PAIR: read: the new text -/
def gT (G : sh_H) (k : Nat) : Int32 := if kT k then G.1 13 46 (2000 + k) else 0
theorem gT_at {G : sh_H} {k : Nat} (h : kT k) : gT G k = G.1 13 46 (2000 + k) := if_pos h
theorem T_text {B : Nat → Nat} {n a sp : Nat} {N : Nat → Nat} {z : Nat} {A V : Nat → Nat} {H G hc hm : sh_H} (hp : sp < 2) (a4 : a ≤ 400) (cx : CX B n a 0 sp N z A V H G) (e1 : ∀ c i x, lT sp c i → hc.1 c i x = H.1 c i x) (e2 : ∀ k, k < 2000 → mS hm k = G.1 13 46 (2000 + k)) : rText hc hm sp 0 := by
  obtain ⟨x1, x2, x3, x4, x5, x6, x7, x8⟩ := cx
  have x8 := x8 rfl
  refine ⟨fun j hj => ⟨N j, ?_, ?_, ?_, fun r hr c hc5 h9 => ?_⟩, ⟨z, by omega, ?_, ?_, fun i hi => ?_⟩, fun m hm e r hr => ?_⟩
  · rw [(rc_tx sp hp j hj).2.1]; exact (x2 j hj).1
  · exact (e1 6 _ _ (Or.inl ⟨rfl, by omega, by omega⟩)).trans (x2 j hj).2.1
  · rw [Nat.zero_add]; exact (e2 j (by omega)).trans (x2 j hj).2.2
  · obtain ⟨r1, -, r3⟩ := rc_tx sp hp j hj
    have q := tb_in j hj r (by have := (x2 j hj).1; omega) c hc5 h9
    have v := (x8 j hj r hr).1.1 c hc5 h9
    show hc.1 13 (sh_rc (7 * sp + j)) (r * sh_w (7 * sp + j) + c) = mS hm (0 + tb_b j + tb_s j * r + tb_c j c)
    rw [r1, r3, e1 13 _ _ (Or.inr (Or.inr ⟨rfl, by omega, by omega⟩)), Nat.zero_add, e2 _ (by omega)]
    exact v.trans (congrArg (G.1 13 46) (show 2000 + tb_b j + tb_s j * r + tb_c j c = 2000 + (tb_b j + tb_s j * r + tb_c j c) by omega))
  · exact (e1 2 _ _ (Or.inr (Or.inl ⟨rfl, rfl⟩))).trans x3.1
  · exact (e2 10 (by omega)).trans x4.1
  · obtain ⟨c1, c2, c3, c4⟩ := x5 i hi
    obtain ⟨d1, d2⟩ := x4.2 i hi
    refine ⟨A i, V i, c1, c2, c3, ?_, ?_, (e1 13 _ _ (Or.inr (Or.inr ⟨rfl, by omega, by omega⟩))).trans (x3.2 i hi)⟩
    · rw [show 0 + 1000 + i = 1000 + i by omega, e2 _ (by omega), show 2000 + (1000 + i) = 3000 + i by omega]; exact d1
    · rw [show 0 + 1500 + i = 1500 + i by omega, e2 _ (by omega), show 2000 + (1500 + i) = 3500 + i by omega]; exact d2
  · have n5 := (x2 5 (by omega)).1
    have n5' : N 5 ≤ 12 := n5
    rw [e1 6 _ _ (Or.inl ⟨rfl, by omega, by omega⟩), (x2 5 (by omega)).2.1] at e
    have : N 5 = m := (nI_eq (by omega) (by omega)).mp e
    have v := (x8 5 (by omega) r (by omega)).1.2 rfl
    exact (e1 13 _ _ (Or.inr (Or.inr ⟨rfl, by omega, by omega⟩))).trans v
theorem g_rg {G : sh_H} {k k' a b : Nat} (h : kT k) (e : k' = 2000 + k) (x : rgv (G.1 13 46 k') a b) : rg (gT G) k a b := by
  obtain ⟨v, h1, h2, h3⟩ := x
  exact ⟨v, h1, h2, by rw [gT_at h, ← e]; exact h3⟩
theorem g_pl {G : sh_H} {k k' a N1 : Nat} (h : kT k) (e : k' = 2000 + k) (hN : N1 ≤ 4) (h1 : G.1 13 46 2001 = nI N1) (x : rgv (G.1 13 46 k') a N1) : pl (gT G) a k := by
  obtain ⟨v, h2, h3, h4⟩ := x
  exact ⟨v, N1, h2, h3, hN, by rw [gT_at h, ← e]; exact h4, by rw [gT_at (Or.inl (by omega))]; exact h1⟩
theorem g_kd {G : sh_H} {k k' N0 : Nat} (h : kT k) (e : k' = 2000 + k) (hN : N0 ≤ 6) (h0 : G.1 13 46 2000 = nI N0) (x : 0 < N0 ∧ rgv (G.1 13 46 k') 0 (N0 - 1)) : kd (gT G) k := by
  obtain ⟨hp, v, h2, h3, h4⟩ := x
  exact ⟨v, N0, by omega, hN, by rw [gT_at h, ← e]; exact h4, by rw [gT_at (Or.inl (by omega))]; exact h0⟩
theorem g_FE {G : sh_H} {k k' k'' z : Nat} {A V : Nat → Nat} (h : kT k) (h2 : kT (k + 1)) (e : k' = 2000 + k) (e2 : k'' = 2000 + (k + 1)) (hz : z ≤ 400) (cm : CM z A V G) (cv : CV z A V) (x : fvv A z (G.1 13 46 k') (G.1 13 46 k'')) : FE (gT G) k := by
  obtain ⟨b, f, h3, h4, h5, h6, d, d1, d2, d3⟩ := x
  refine ⟨b, f, z, h3, h4, hz, by rw [gT_at (Or.inr (Or.inl rfl))]; exact cm.1, by rw [gT_at h, ← e]; exact h5, by rw [gT_at h2, ← e2]; exact h6, d, d1, d2, fun i i1 i2 => ?_⟩
  obtain ⟨c1, c2, c3, c4⟩ := cv i (by omega)
  obtain ⟨m1, m2⟩ := cm.2 i (by omega)
  have k1 : gT G (1000 + i) = nI (A i) := by rw [gT_at (Or.inr (Or.inr (Or.inr ⟨by omega, by omega⟩))), show 2000 + (1000 + i) = 3000 + i by omega]; exact m1
  have k2 : gT G (1500 + i) = nI (V i) := by rw [gT_at (Or.inr (Or.inr (Or.inr ⟨by omega, by omega⟩))), show 2000 + (1500 + i) = 3500 + i by omega]; exact m2
  rcases d3 i i1 i2 with ⟨q1, q2, q3⟩ | ⟨q1, q2, q3, q4⟩
  · exact Or.inl ⟨A i, V i, q1, c2, c3, k1, k2, q2, q3⟩
  · exact Or.inr ⟨A i, q1, q2, k1, q3, q4⟩
theorem T_IT {B : Nat → Nat} {n a sp : Nat} {N : Nat → Nat} {z : Nat} {A V : Nat → Nat} {H G : sh_H} (a4 : a ≤ 400) (cx : CX B n a 0 sp N z A V H G) : IT (gT G) := by
  obtain ⟨x1, x2, x3, x4, x5, x6, x7, x8⟩ := cx
  have x8 := x8 rfl
  have hz : z ≤ 400 := by omega
  have n0 : N 0 ≤ 6 := (x2 0 (by omega)).1
  have n1 : N 1 ≤ 4 := (x2 1 (by omega)).1
  have n2 : N 2 ≤ 12 := (x2 2 (by omega)).1
  have n3 : N 3 ≤ 12 := (x2 3 (by omega)).1
  have n4 : N 4 ≤ 12 := (x2 4 (by omega)).1
  have n5 : N 5 ≤ 12 := (x2 5 (by omega)).1
  have n6 : N 6 ≤ 12 := (x2 6 (by omega)).1
  have z0 : G.1 13 46 2000 = nI (N 0) := (x2 0 (by omega)).2.2
  have z1 : G.1 13 46 2001 = nI (N 1) := (x2 1 (by omega)).2.2
  have cnt : ∀ j, j < 7 → gT G j = nI (N j) := fun j hj => (gT_at (Or.inl hj)).trans (x2 j hj).2.2
  have kt : ∀ k, 20 ≤ k → k < 310 → kT k := fun k h1 h2 => Or.inr (Or.inr (Or.inl ⟨h1, h2⟩))
  have tb : ∀ j b s, tb_b j = b → tb_s j = s → ∀ r c, 2000 + tb_b j + tb_s j * r + c = 2000 + (b + s * r + c) := fun j b s e1 e2 r c => by rw [e1, e2]; omega
  refine ⟨⟨N 0, n0, cnt 0 (by omega), fun r hr => ?_⟩, ⟨N 1, n1, cnt 1 (by omega), fun r hr => ?_⟩, ⟨N 2, n2, cnt 2 (by omega), fun r hr => ?_⟩, ⟨N 3, n3, cnt 3 (by omega), fun r hr => ?_⟩, ⟨N 4, n4, cnt 4 (by omega), fun r hr => ?_⟩, ⟨N 5, n5, cnt 5 (by omega), fun r hr => ?_⟩, ⟨N 6, n6, cnt 6 (by omega), fun r hr => ?_⟩⟩
  · obtain ⟨l1, l2, l3⟩ := (x8 0 (by omega) r hr).2
    have t := tb 0 20 3 rfl rfl r
    exact ⟨g_rg (kt _ (by omega) (by omega)) (t 0) l1, g_rg (kt _ (by omega) (by omega)) ((t 1).trans (by omega)) l2, g_rg (kt _ (by omega) (by omega)) ((t 2).trans (by omega)) l3⟩
  · obtain ⟨l1, l2⟩ := (x8 1 (by omega) r hr).2
    have t := tb 1 40 2 rfl rfl r
    exact ⟨g_rg (kt _ (by omega) (by omega)) (t 0) l1, g_rg (kt _ (by omega) (by omega)) ((t 1).trans (by omega)) l2⟩
  · obtain ⟨l1, l2, l3⟩ := (x8 2 (by omega) r hr).2
    have t := tb 2 50 4 rfl rfl r
    exact ⟨g_pl (kt _ (by omega) (by omega)) (t 0) n1 z1 l1, g_kd (kt _ (by omega) (by omega)) (t 1) n0 z0 l2, g_FE (kt _ (by omega) (by omega)) (kt _ (by omega) (by omega)) (t 2) (t 3) hz x4 x5 l3⟩
  · obtain ⟨l1, l2, l3⟩ := (x8 3 (by omega) r hr).2
    have t := tb 3 100 4 rfl rfl r
    exact ⟨g_pl (kt _ (by omega) (by omega)) (t 0) n1 z1 l1, g_kd (kt _ (by omega) (by omega)) (t 1) n0 z0 l2, g_FE (kt _ (by omega) (by omega)) (kt _ (by omega) (by omega)) (t 2) (t 3) hz x4 x5 l3⟩
  · obtain ⟨l1, l2, l3, l4⟩ := (x8 4 (by omega) r hr).2
    have t := tb 4 150 5 rfl rfl r
    exact ⟨g_pl (kt _ (by omega) (by omega)) (t 0) n1 z1 l1, g_pl (kt _ (by omega) (by omega)) ((t 1).trans (by omega)) n1 z1 l2, g_kd (kt _ (by omega) (by omega)) ((t 2).trans (by omega)) n0 z0 l3, g_FE (kt _ (by omega) (by omega)) (kt _ (by omega) (by omega)) ((t 3).trans (by omega)) ((t 4).trans (by omega)) hz x4 x5 l4⟩
  · obtain ⟨l1, l2⟩ := (x8 5 (by omega) r hr).2
    have t := tb 5 210 3 rfl rfl r
    exact ⟨g_kd (kt _ (by omega) (by omega)) (t 0) n0 z0 l1, g_FE (kt _ (by omega) (by omega)) (kt _ (by omega) (by omega)) ((t 1).trans (by omega)) ((t 2).trans (by omega)) hz x4 x5 l2⟩
  · obtain ⟨l1, l2, l3, l4, l5⟩ := (x8 6 (by omega) r hr).2
    have t := tb 6 250 5 rfl rfl r
    exact ⟨g_pl (kt _ (by omega) (by omega)) (t 0) n1 z1 l1, g_rg (kt _ (by omega) (by omega)) ((t 1).trans (by omega)) l2, g_rg (kt _ (by omega) (by omega)) ((t 2).trans (by omega)) l3, g_rg (kt _ (by omega) (by omega)) ((t 3).trans (by omega)) l4, g_rg (kt _ (by omega) (by omega)) ((t 4).trans (by omega)) l5⟩
theorem T_tf {G hm : sh_H} (e2 : ∀ k, k < 2000 → mS hm k = G.1 13 46 (2000 + k)) : tf hm 0 = gT G := by
  funext k
  unfold tf gT
  by_cases h : kT k
  · rw [if_pos h, if_pos h, Nat.zero_add]; exact e2 k (by unfold kT at h; omega)
  · rw [if_neg h, if_neg h]
