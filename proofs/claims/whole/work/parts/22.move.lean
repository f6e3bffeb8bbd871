/-! WHAT THE PARTS OF THE RELATION DEPEND ON -/
theorem rc_tx : ∀ t, t < 2 → ∀ j, j < 7 → sh_rc (7 * t + j) = 9 * t + j ∧ sh_m (7 * t + j) = sh_m j ∧ sh_w (7 * t + j) = sh_w j := by decide +kernel
theorem tb_in : ∀ j, j < 7 → ∀ r, r < sh_m j → ∀ c, c < 5 → tb_c j c < 9 → 20 ≤ tb_b j + tb_s j * r + tb_c j c ∧ tb_b j + tb_s j * r + tb_c j c < 310 := by decide +kernel
def lT (t c i : Nat) : Prop := (c = 6 ∧ 7 * t ≤ i ∧ i < 7 * t + 7) ∨ (c = 2 ∧ i = t) ∨ (c = 13 ∧ 9 * t ≤ i ∧ i < 9 * t + 8)
abbrev kT (k : Nat) : Prop := k < 7 ∨ k = 10 ∨ (20 ≤ k ∧ k < 310) ∨ (1000 ≤ k ∧ k < 2000)
abbrev kS (k : Nat) : Prop := (7 ≤ k ∧ k < 10) ∨ (310 ≤ k ∧ k < 1000)
theorem rText_to {hc hm hc' hm' : sh_H} {t o o' : Nat} (ht : t < 2) (e1 : ∀ c i j, lT t c i → (c = 2 → j = 1) → hc'.1 c i j = hc.1 c i j) (e2 : ∀ k, kT k → mS hm' (o' + k) = mS hm (o + k)) (h : rText hc hm t o) : rText hc' hm' t o' := by
  obtain ⟨h1, ⟨n, hn, a1, a2, a3⟩, hw0⟩ := h
  refine ⟨fun j hj => ?_, ⟨n, hn, ?_, ?_, fun i hi => ?_⟩, fun n hn e r hr => ?_⟩
  · obtain ⟨n, hn, b1, b2, b3⟩ := h1 j hj
    obtain ⟨r1, r2, -⟩ := rc_tx t ht j hj
    refine ⟨n, hn, ?_, ?_, fun r hr c hc5 h9 => ?_⟩
    · rw [e1 _ _ _ (Or.inl ⟨rfl, by omega, by omega⟩) (fun q => by omega)]; exact b1
    · rw [e2 _ (Or.inl hj)]; exact b2
    · have q := tb_in j hj r (by rw [r2] at hn; omega) c hc5 h9
      have b := b3 r hr c hc5 h9
      show hc'.1 13 _ _ = _
      rw [e1 13 _ _ (Or.inr (Or.inr ⟨rfl, by rw [r1]; omega, by rw [r1]; omega⟩)) (fun q => by omega)]
      rw [show o' + tb_b j + tb_s j * r + tb_c j c = o' + (tb_b j + tb_s j * r + tb_c j c) by omega, e2 _ (Or.inr (Or.inr (Or.inl q)))]
      rw [show o + tb_b j + tb_s j * r + tb_c j c = o + (tb_b j + tb_s j * r + tb_c j c) by omega] at b
      exact b
  · rw [e1 _ _ _ (Or.inr (Or.inl ⟨rfl, rfl⟩)) (fun _ => rfl)]; exact a1
  · rw [e2 _ (Or.inr (Or.inl rfl))]; exact a2
  · obtain ⟨a, v, c1, c2, c3, c4, c5, c6⟩ := a3 i hi
    refine ⟨a, v, c1, c2, c3, ?_, ?_, ?_⟩
    · rw [Nat.add_assoc] at c4 ⊢
      rw [e2 _ (Or.inr (Or.inr (Or.inr (by omega))))]; exact c4
    · rw [Nat.add_assoc] at c5 ⊢
      rw [e2 _ (Or.inr (Or.inr (Or.inr (by omega))))]; exact c5
    · rw [e1 _ _ _ (Or.inr (Or.inr ⟨rfl, by omega, by omega⟩)) (fun q => by omega)]; exact c6
  · rw [e1 6 _ _ (Or.inl ⟨rfl, by omega, by omega⟩) (fun q => by omega)] at e
    rw [e1 13 _ _ (Or.inr (Or.inr ⟨rfl, by omega, by omega⟩)) (fun q => by omega)]
    exact hw0 n hn e r hr
theorem rSt_to {hc hm hc' hm' : sh_H} {s s' o o' b b' : Nat} (eS : ∀ d, d < 4 → hc'.1 6 (14 + 4 * s' + d) 3 = hc.1 6 (14 + 4 * s + d) 3) (eC : ∀ d, d < 4 → ∀ j, j < sh_m (14 + d) * sh_w (14 + d) → hc'.1 13 (20 + 4 * s' + d) j = hc.1 13 (20 + 4 * s + d) j) (eT : hc'.1 7 s' 4 = hc.1 7 s 4) (eJ : ∀ j, 5 ≤ j → j < 8 → hc'.2.1 7 s' j = hc.2.1 7 s j) (eM : ∀ k, kS k → mS hm' (o' + k) = mS hm (o + k)) (eL : ∀ k, k < 3 → hm'.2.1 14 6 (b' + k) = hm.2.1 14 6 (b + k)) (h : rSt hc hm s o b) : rSt hc' hm' s' o' b' := by
  obtain ⟨⟨p1, p2⟩, ⟨l1, l2⟩, ⟨n, n1, n2, n3, n4⟩, ⟨m, m1, m2, m3, m4⟩, t1, t2, t3, t4⟩ := h
  have s0 := eS 0 (by omega)
  have s1 := eS 1 (by omega)
  have s2 := eS 2 (by omega)
  have s3 := eS 3 (by omega)
  have c0 : ∀ j, j < 120 → _ := fun j hj => eC 0 (by omega) j hj
  have c1 : ∀ j, j < 240 → _ := fun j hj => eC 1 (by omega) j hj
  have c2 : ∀ j, j < 300 → _ := fun j hj => eC 2 (by omega) j hj
  have c3 : ∀ j, j < 24 → _ := fun j hj => eC 3 (by omega) j hj
  rw [show 14 + 4 * s' + 1 = 15 + 4 * s' by omega, show 14 + 4 * s + 1 = 15 + 4 * s by omega] at s1
  rw [show 14 + 4 * s' + 2 = 16 + 4 * s' by omega, show 14 + 4 * s + 2 = 16 + 4 * s by omega] at s2
  rw [show 14 + 4 * s' + 3 = 17 + 4 * s' by omega, show 14 + 4 * s + 3 = 17 + 4 * s by omega] at s3
  rw [show 20 + 4 * s' + 1 = 21 + 4 * s' by omega, show 20 + 4 * s + 1 = 21 + 4 * s by omega] at c1
  rw [show 20 + 4 * s' + 2 = 22 + 4 * s' by omega, show 20 + 4 * s + 2 = 22 + 4 * s by omega] at c2
  rw [show 20 + 4 * s' + 3 = 23 + 4 * s' by omega, show 20 + 4 * s + 3 = 23 + 4 * s by omega] at c3
  refine ⟨⟨s0.trans p1, fun q hq => ?_⟩, ⟨s3.trans l1, fun q hq => ?_⟩, ⟨n, n1, s1.trans n2, ?_, fun i hi c hc6 => ?_⟩, ⟨m, m1, s2.trans m2, ?_, fun i hi => ?_⟩, ?_, ?_, ?_, ?_⟩
  · rw [Nat.add_assoc, eM _ (Or.inr (by omega)), ← Nat.add_assoc, ← p2 q hq]; exact c0 q (by omega)
  · rw [Nat.add_assoc, eM _ (Or.inr (by omega)), ← Nat.add_assoc, ← l2 q hq]; exact c3 q (by omega)
  · rw [eM _ (Or.inl (by omega))]; exact n3
  · have hs : sn_c c < 6 := (by decide +kernel : ∀ c, c < 6 → sn_c c < 6) c hc6
    have e := n4 i hi c hc6
    rw [show o + 310 + 6 * i + sn_c c = o + (310 + 6 * i + sn_c c) by omega] at e
    rw [show o' + 310 + 6 * i + sn_c c = o' + (310 + 6 * i + sn_c c) by omega, eM _ (Or.inr (by omega)), ← e]
    exact c1 _ (by omega)
  · rw [eM _ (Or.inl (by omega))]; exact m3
  · obtain ⟨a, a1, a2, a3, a4, a5, a6⟩ := m4 i hi
    have f0 : mS hm' (o' + 550 + 4 * i) = mS hm (o + 550 + 4 * i) := by rw [show o' + 550 + 4 * i = o' + (550 + 4 * i) by omega, eM _ (Or.inr (by omega)), ← Nat.add_assoc]
    have f1 : mS hm' (o' + 551 + 4 * i) = mS hm (o + 551 + 4 * i) := by rw [show o' + 551 + 4 * i = o' + (551 + 4 * i) by omega, eM _ (Or.inr (by omega)), ← Nat.add_assoc]
    have f2 : mS hm' (o' + 552 + 4 * i) = mS hm (o + 552 + 4 * i) := by rw [show o' + 552 + 4 * i = o' + (552 + 4 * i) by omega, eM _ (Or.inr (by omega)), ← Nat.add_assoc]
    have f3 : mS hm' (o' + 553 + 4 * i) = mS hm (o + 553 + 4 * i) := by rw [show o' + 553 + 4 * i = o' + (553 + 4 * i) by omega, eM _ (Or.inr (by omega)), ← Nat.add_assoc]
    refine ⟨a, a1, by rw [f0]; exact a2, by rw [c2 _ (by omega)]; exact a3, fun h => ?_, fun h => ?_, fun h => ?_⟩
    · rw [c2 _ (by omega), c2 _ (by omega), c2 _ (by omega), f1, f2, f3]; exact a4 h
    · rw [c2 _ (by omega), c2 _ (by omega), c2 _ (by omega), f1, f2, f3]; exact a5 h
    · rw [c2 _ (by omega), f1]; exact a6 h
  · rw [eM _ (Or.inl (by omega))]; exact eT.trans t1
  · rw [eJ 5 (by omega) (by omega)]; exact t2.trans (eL 0 (by omega)).symm
  · rw [eJ 6 (by omega) (by omega)]; exact t3.trans (eL 1 (by omega)).symm
  · rw [eJ 7 (by omega) (by omega)]; exact t4.trans (eL 2 (by omega)).symm
