/-! PAIR: read -/
theorem sumN_zz : ∀ n, sumN (fun _ => 0) n = 0 := by
  intro n
  induction n with
  | zero => rfl
  | succ n ih => show sumN (fun _ => 0) n + 0 = 0; rw [ih]
theorem IS_zero {c : Nat} {f : Nat → Int32} (h : ∀ k, kS k → f k = 0) : IS c f := by
  refine ⟨⟨fun _ => 0, fun q hq => h _ (Or.inr (by omega)), by rw [sumN_zz]; exact Nat.zero_le _⟩, ⟨0, Nat.le_refl _, by omega, h 9 (Or.inl (by omega))⟩, ⟨0, by omega, h 7 (Or.inl (by omega)), fun i hi => absurd hi (Nat.not_lt_zero i)⟩, ⟨0, by omega, h 8 (Or.inl (by omega)), fun i hi => absurd hi (Nat.not_lt_zero i)⟩⟩
theorem St_good {B : Nat → Nat} {n a sp c : Nat} {N : Nat → Nat} {z : Nat} {A V : Nat → Nat} {H G hc hm K L : sh_H} (hp : sp < 2) (a4 : a ≤ 400) (cx : CX B n a 0 sp N z A V H G) (h : St c hc hm) (hs : hc.2.2.2.1 = sp) (k1 : RC K) (k2 : K.2.2.1 = sp) (k3 : K.2.2.2.1 = hc.2.2.1) (k4 : K.1 11 0 1 = 0) (k5 : K.1 11 0 2 = -1) (k6 : ∀ c i j, lT sp c i → K.1 c i j = H.1 c i j) (k7 : ∀ i j, K.1 19 i j = hc.1 19 i j) (k8 : ∃ h' h, SC 0 h' h ∧ (∀ c i j, (c = 6 ∧ 14 ≤ i ∧ i < 18) ∨ (c = 13 ∧ 20 ≤ i ∧ i < 24) ∨ (c = 7 ∧ i = 0) → K.1 c i j = h'.1 c i j) ∧ ∀ j, K.2.1 7 0 j = h'.2.1 7 0 j) (k9 : K.1 7 1 8 = 0) (k10 : K.1 7 2 8 = 0) (m1 : ∀ k, k < 2000 → mS L k = G.1 13 46 (2000 + k)) (m2 : ∀ k, k < 3 → L.2.1 14 6 k = 0) (m3 : L.1 12 0 0 = 0) (m4 : L.1 12 0 9 = -1) (m5 : L.1 16 0 2 = 0) (m6 : L.1 16 0 3 = 0) (m7 : ∀ k, kS k → G.1 13 46 (2000 + k) = 0) : St (c + 1) K L := by
  obtain ⟨h1, h2, -⟩ := h
  obtain ⟨s', s0, ⟨w1, w2, w3, w4, w5, w6, w7, w8, w9, w10, w11, -⟩, v1, v2⟩ := k8
  have mz : ∀ k, kS k → mS L k = 0 := fun k hk => (m1 k (by unfold kS at hk; omega)).trans (m7 k hk)
  have kS8 : ∀ k, 310 ≤ k → k < 1000 → kS k := fun k a b => Or.inr ⟨a, b⟩
  refine ⟨k1, ?_, ⟨0, by omega, k4, m3, fun i hi => absurd hi (Nat.not_lt_zero i)⟩, k5.trans m4.symm, ?_, ⟨⟨?_, fun q hq => ?_⟩, ⟨?_, fun q hq => ?_⟩, ⟨0, by omega, ?_, ?_, fun i hi => absurd hi (Nat.not_lt_zero i)⟩, ⟨0, by omega, ?_, ?_, fun i hi => absurd hi (Nat.not_lt_zero i)⟩, ?_, ?_, ?_, ?_⟩, ?_, ?_, ⟨k9.trans m5.symm, fun q => absurd m5 q⟩, ⟨k10.trans m6.symm, fun q => absurd m6 q⟩⟩
  · have st : rStr K := fun i j => (k7 i j).trans (h2.str i j)
    rcases h2 with ⟨a, b, -⟩ | ⟨a, b, -⟩
    · exact Or.inr ⟨by rw [k2, ← hs, b], by rw [k3, a], st⟩
    · exact Or.inl ⟨by rw [k2, ← hs, b], by rw [k3, a], st⟩
  · rw [k2]
    exact T_text hp a4 cx k6 m1
  · exact (v1 6 14 3 (by omega)).trans w1
  · rw [mz _ (kS8 _ (by omega) (by omega))]
    exact (v1 13 20 q (by omega)).trans (w2 q hq)
  · exact (v1 6 17 3 (by omega)).trans w5
  · rw [mz _ (kS8 _ (by omega) (by omega))]
    exact (v1 13 23 q (by omega)).trans (w6 q hq)
  · exact (v1 6 15 3 (by omega)).trans w3
  · exact mz 7 (Or.inl (by omega))
  · exact (v1 6 16 3 (by omega)).trans w4
  · exact mz 8 (Or.inl (by omega))
  · rw [show (0 : Nat) + 9 = 9 from rfl, mz 9 (Or.inl (by omega))]
    exact (v1 7 0 4 (by omega)).trans w7
  · exact (v2 5).trans (w8.trans (m2 0 (by omega)).symm)
  · exact (v2 6).trans (w9.trans (m2 1 (by omega)).symm)
  · exact (v2 7).trans (w10.trans (m2 2 (by omega)).symm)
  · rw [T_tf m1]
    exact T_IT a4 cx
  · refine IS_zero (fun k hk => ?_)
    unfold sf
    rw [if_pos (Or.inr hk), Nat.zero_add]
    exact mz k hk
theorem M_later0 {G : sh_H} {lf : Nat} (h10 : G.1 12 0 10 = nI lf) (hl : lf ≠ 0) (h5 : lf ≤ 5) : rdE 1 G = some (nI lf, sh_pI (sh_pI (sh_pI G 12 0 8 (nI lf)) 12 0 9 (G.1 12 0 11)) 12 0 0 0) := by
  have e : rdE 1 G = rdE 0 (sh_pI (sh_pI G 12 0 8 (nI lf)) 12 0 9 (G.1 12 0 11)) := by
    unfold rdE
    rw [if_neg q_10, if_pos rfl, h10, if_neg (nI_ne0 (by omega) (by omega)), sh_let, sh_let, pI_ne (by omega)]
  rw [e]
  exact M_bad hl h5 rfl ((pI_ne (by omega)).trans (pI_at ..))
theorem C_b84l {H : sh_H} (h4 : H.1 5 0 4 = 0) : ∃ H', f_Reader_examine_b84 NF H = some (H'.1 5 0 4, H') ∧ H'.1 5 0 4 = H.1 5 0 6 ∧ H'.1 5 0 5 = H.1 5 0 7 ∧ (∀ c i j, c ≠ 5 → H'.1 c i j = H.1 c i j) ∧ H'.2 = H.2 := by
  refine ⟨sh_pI (sh_pI H 5 0 4 (H.1 5 0 6)) 5 0 5 (H.1 5 0 7), ?_, (pI_ne (by omega)).trans (pI_at ..), pI_at .., fun c i j n => (pI_ne (by omega)).trans (pI_ne (by omega)), rfl⟩
  unfold f_Reader_examine_b84 f_Reader_examine_b107
  rw [if_pos h4, sh_let, sh_let, show (sh_pI H 5 0 4 (H.1 5 0 6)).1 5 0 7 = H.1 5 0 7 from pI_ne (by omega)]
theorem P_read : Pair (f_CB_read NF) (f_M_read NF) := by
  intro c hc hm _ h
  have h2 := h.2.1
  obtain ⟨p1, p2, p3⟩ := h2.sp
  obtain ⟨n, t1, t2, t3, t4⟩ := h.2.2.1
  have hB : ∀ i, i < n → (hm.1 13 42 i).toNatClampNeg < 256 ∧ hm.1 13 42 i = nI (hm.1 13 42 i).toNatClampNeg ∧ hc.1 15 0 i = (nI (hm.1 13 42 i).toNatClampNeg).toInt8.toInt32 := by
    intro i hi
    obtain ⟨v, v1, v2, v3⟩ := t4 i hi
    rw [v2, q_cl (by omega)]
    exact ⟨v1, rfl, v3⟩
  obtain ⟨sz, H1, G1, e1, e2, p, cx, z1, z2, g8, g9, gz, gl⟩ := R_start (B := fun i => (hm.1 13 42 i).toNatClampNeg) (n := n) (sp := hc.2.2.2.1) (H := hc) (G := hm) p2 h.1 h2.str ⟨t1, fun i hi => (hB i hi).1, t3, fun i hi => (hB i hi).2.1⟩ (fun i hi => (hB i hi).2.2)
  have lo := R_loop p2 (f_Reader_examine_b84 NF) NF NF 0 0 0 0 (fun _ => 0) 0 (fun _ => 0) (fun _ => 0) H1 G1 (Nat.le_of_lt (NF_gt (n := 500) (by omega))) (Nat.le_of_lt (NF_gt (n := 500) (by omega))) (Nat.le_refl _) p cx
  rw [show nI 0 = 0 from rfl] at lo
  rw [CB_read_eq, t2, e1, e2]
  rcases lo with ⟨H, G, a, lf, lt, N, z, A, V, x1, x2, q, cy, y1, y2⟩ | ⟨F, T, H, G, x1, x2, tf⟩
  · have a4 := q.a4
    have zc := y1.z.tr z1
    have zm := y2.z.tr z2
    have q9 := q.2.2.2.2.2.2.2.2.2
    rw [x1, x2, sh_b2_some]
    by_cases hl : lf = 0
    · subst hl
      obtain ⟨K, k0, k1, k2, k3, k4, k5, k6, k7, km, k8, k9, k10⟩ := C_good (sp := hc.2.2.2.1) cy.1 q.2.2.2.1 q.2.2.2.2.2.1 zc (by rw [zc.2.2]) p2
      obtain ⟨L, m0, m1, m2, m3, m4, m5, m6, m7, m8⟩ := M_good q9.1 q.2.2.2.2.2.2.2.1
      have zL : ∀ c i j, ¬ (c = 13 ∧ i = 46 ∧ j < 4000) → c ≠ 12 → ¬ (c = 13 ∧ 43 ≤ i ∧ i ≤ 49 ∧ i ≠ 46) → c ≠ 16 → L.1 c i j = hm.1 c i j := fun c i j n1 n2 n3 n4 => (m3 c i j (by omega) (by omega) n4).trans (zm.1 c i j n2 n3 (by omega))
      rw [k0]
      refine ⟨0, K, L, rfl, m0, St_good p2 a4 cy h rfl k1 k2 k3 k4 k5 k6 k7 k8 k9 k10 m1 (fun k hk => ?_) m6 ((m3 12 0 9 (by omega) (by omega) (by omega)).trans q9.2) m7 m8 (fun k hk => ?_), km, ⟨fun c i u j => ?_, fun c i u j => ?_, ?_, ?_⟩, ⟨fun j => ?_, ?_⟩⟩
      · rw [m2 k hk, y2.2.1 _ _ _ (by omega)]
        exact gl k hk
      · unfold kS at hk
        rw [y2.1 _ _ _ (by omega) (by omega) (by omega)]
        exact gz k (by omega)
      · have := lcC_of.mp u
        exact zL c i j (by omega) (by omega) (by omega) (by omega)
      · have := lcC_of.mp u
        exact (m4 c i j (by omega)).trans (zm.2.1 c i j (by omega) (by omega))
      · rw [m5, zm.2.2]
      · rw [m5, zm.2.2]
      · exact zL 17 0 j (by omega) (by omega) (by omega) (by omega)
      · rw [m5, zm.2.2]
    · have l5 : lf ≤ 5 := q.2.2.2.2.2.2.1
      obtain ⟨H', b1, b2, b3, b4, b5⟩ := C_b84l q.2.2.2.1
      obtain ⟨w1, w2, w3⟩ := q.2.2.2.2.2.2.2.2.1 hl
      have tk : TK (fun i => (hm.1 13 42 i).toNatClampNeg) n sz H' G := TK_to (fun c i j u => b4 c i j (by omega)) (fun j => by rw [b5]) (fun i j _ _ => rfl) (fun j => rfl) q.1
      have zc' : zC hc.2.2.2.1 H' hc := ⟨fun c i j n1 n2 n3 n4 n5 n6 => (b4 c i j n1).trans (zc.1 c i j n1 n2 n3 n4 n5 n6), fun c i j n1 n2 => by rw [b5]; exact zc.2.1 c i j n1 n2, by rw [b5]; exact zc.2.2⟩
      have zm' : zM (sh_pI (sh_pI G 12 0 8 (nI lf)) 12 0 9 (G.1 12 0 11)) hm := ⟨fun c i j n1 n2 n3 => (pI_ne (by omega)).trans ((pI_ne (by omega)).trans (zm.1 c i j n1 n2 n3)), zm.2.1, zm.2.2⟩
      rw [b1, C_bad tk (show lt < sz by have := q.2.1; omega) hl l5 (b2.trans q.2.2.2.2.2.1) (b3.trans w1), M_later0 q.2.2.2.2.2.2.2.1 hl l5]
      exact ⟨nI lf, _, _, rfl, rfl, St_bad h zc' zm' _ ((pI_at ..).trans w3), mEq_pI rfl (mEq_pI rfl (zc'.m p2)), cEq_pI rfl zm'.c, xEq_pI (by omega) zm'.x⟩
  · obtain ⟨t5, ⟨d1, d2, -⟩, ⟨f1, f2⟩, y2⟩ := tf
    have zc := d2.z.tr z1
    have zm := y2.z.tr z2
    have tk : TK (fun i => (hm.1 13 42 i).toNatClampNeg) n sz H G1 := TK_to (fun c i j u => d2.1 c i j (by omega) (by omega) (by omega) (by omega)) (fun j => d2.2.1 14 0 j (by omega)) (fun i j _ _ => rfl) (fun j => rfl) p.1
    have F0 : F ≠ 0 := by have := d1.1; omega
    have F5 : F ≤ 5 := by have := d1.1; omega
    rw [x1, x2, sh_b2_some, C_b84 d1, C_bad tk t5 F0 F5 d1.2.1 d1.2.2, M_bad F0 F5 rfl f1]
    exact ⟨nI F, _, _, rfl, rfl, St_bad h zc zm _ f2, mEq_pI rfl (mEq_pI rfl (zc.m p2)), cEq_pI rfl zm.c, xEq_pI (by omega) zm.x⟩
