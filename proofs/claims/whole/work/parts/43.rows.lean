/-! ROWS AS A WHOLE: the heap h with s rows F in the rows r; the model's state as a whole -/
def hR (h : sh_H) (r s : Nat) (F : Nat → Int32) : sh_H := (fun c i j => if c = 13 ∧ i = sh_rc r then F j else if c = 6 ∧ i = r ∧ j = 3 then nI s else h.1 c i j, h.2)
def hS (h : sh_H) (G : Nat → Int32) : sh_H := (fun c i j => if c = 13 ∧ i = 46 then G j else h.1 c i j, h.2)
theorem hR_1 (h : sh_H) (r s : Nat) (F : Nat → Int32) (c i j : Nat) : (hR h r s F).1 c i j = if c = 13 ∧ i = sh_rc r then F j else if c = 6 ∧ i = r ∧ j = 3 then nI s else h.1 c i j := rfl
theorem hS_1 (h : sh_H) (G : Nat → Int32) (c i j : Nat) : (hS h G).1 c i j = if c = 13 ∧ i = 46 then G j else h.1 c i j := rfl
theorem hR_ne {h : sh_H} {r s : Nat} {F : Nat → Int32} {c i j : Nat} (a : ¬ (c = 13 ∧ i = sh_rc r)) (b : ¬ (c = 6 ∧ i = r ∧ j = 3)) : (hR h r s F).1 c i j = h.1 c i j := by rw [hR_1, if_neg a, if_neg b]
theorem hR_at (h : sh_H) (r s : Nat) (F : Nat → Int32) (j : Nat) : (hR h r s F).1 13 (sh_rc r) j = F j := if_pos ⟨rfl, rfl⟩
theorem hR_sz (h : sh_H) (r s : Nat) (F : Nat → Int32) : (hR h r s F).1 6 r 3 = nI s := by rw [hR_1, if_neg (by omega), if_pos ⟨rfl, rfl, rfl⟩]
theorem hS_ne {h : sh_H} {G : Nat → Int32} {c i j : Nat} (a : ¬ (c = 13 ∧ i = 46)) : (hS h G).1 c i j = h.1 c i j := if_neg a
theorem hS_at (h : sh_H) (G : Nat → Int32) (k : Nat) : mS (hS h G) k = G k := rfl
theorem hR_id {h : sh_H} {r s : Nat} (hs : h.1 6 r 3 = nI s) : hR h r s (fun j => h.1 13 (sh_rc r) j) = h := by
  refine Prod.ext ?_ rfl
  funext c i j
  rw [hR_1]
  split
  · rename_i q; rw [q.1, q.2]
  · split
    · rename_i q; rw [q.1, q.2.1, q.2.2, hs]
    · rfl
theorem hS_id (h : sh_H) : hS h (mS h) = h := by
  refine Prod.ext ?_ rfl
  funext c i j
  rw [hS_1]
  split
  · rename_i q; rw [q.1, q.2]
  · rfl
theorem hR_pI {h : sh_H} {r s : Nat} {F : Nat → Int32} {q : Nat} {v : Int32} : sh_pI (hR h r s F) 13 (sh_rc r) q v = hR h r s (up1 F q v) := by
  refine Prod.ext ?_ rfl
  funext c i j
  rw [pI_1, hR_1, hR_1]
  unfold up1
  by_cases a : c = 13 ∧ i = sh_rc r
  · by_cases b : j = q
    · rw [if_pos ⟨a.1, a.2, b⟩, if_pos a, if_pos b]
    · rw [if_neg (fun z => b z.2.2), if_pos a, if_pos a, if_neg b]
  · rw [if_neg (fun z => a ⟨z.1, z.2.1⟩), if_neg a, if_neg a]
theorem hR_pS {h : sh_H} {r s s' : Nat} {F : Nat → Int32} : sh_pI (hR h r s F) 6 r 3 (nI s') = hR h r s' F := by
  refine Prod.ext ?_ rfl
  funext c i j
  rw [pI_1, hR_1, hR_1]
  by_cases a : c = 6 ∧ i = r ∧ j = 3
  · rw [if_pos a, if_neg (by omega), if_pos a]
  · rw [if_neg a, if_neg a, if_neg a]
theorem hS_pI {h : sh_H} {G : Nat → Int32} {q : Nat} {v : Int32} : sh_pI (hS h G) 13 46 q v = hS h (up1 G q v) := by
  refine Prod.ext ?_ rfl
  funext c i j
  rw [pI_1, hS_1, hS_1]
  unfold up1
  by_cases a : c = 13 ∧ i = 46
  · by_cases b : j = q
    · rw [if_pos ⟨a.1, a.2, b⟩, if_pos a, if_pos b]
    · rw [if_neg (fun z => b z.2.2), if_pos a, if_pos a, if_neg b]
  · rw [if_neg (fun z => a ⟨z.1, z.2.1⟩), if_neg a, if_neg a]
theorem hS_0 {h : sh_H} {q : Nat} {v : Int32} : sh_pI h 13 46 q v = hS h (up1 (mS h) q v) := by
  rw [← hS_pI, hS_id]
theorem hR_RC {h : sh_H} {r s : Nat} {F : Nat → Int32} (hc : RC h) : RC (hR h r s F) := fun q hq => by
  rw [hR_ne (by omega) (by omega), hR_ne (by omega) (by omega)]
  exact hc q hq
theorem hR_get {h : sh_H} {r s a b : Nat} {F : Nat → Int32} (hc : RC h) (hr : r < 33) (hs : s ≤ sh_m r) (ha : a < s) (hb : b < sh_w r) : f_Rows_get r (nI a) (nI b) (hR h r s F) = some (F (a * sh_w r + b)) := by
  obtain ⟨e1, e2, e3, e4⟩ := sh_mw r hr
  rw [rows_get (hR_RC hc) hr (hR_sz h r s F) hs (by omega) (by omega), if_pos ⟨ha, hb⟩, hR_at]
theorem hR_put {h : sh_H} {r s a b : Nat} {F : Nat → Int32} {v : Int32} (hc : RC h) (hr : r < 33) (hs : s ≤ sh_m r) (ha : a < s) (hb : b < sh_w r) : f_Rows_put r (nI a) (nI b) v (hR h r s F) = some (hR h r s (up1 F (a * sh_w r + b) v)) := by
  obtain ⟨e1, e2, e3, e4⟩ := sh_mw r hr
  rw [rows_put (hR_RC hc) hr (hR_sz h r s F) hs (by omega) (by omega), if_pos ⟨ha, hb⟩, hR_pI]
/-- a new row, of zeros -/
def zrow (F : Nat → Int32) (b n : Nat) : Nat → Int32 := fun j => if b ≤ j ∧ j < b + n then 0 else F j
theorem zrow_0 (F : Nat → Int32) (b : Nat) : zrow F b 0 = F := by
  funext j
  unfold zrow
  rw [if_neg (by omega)]
theorem zrow_s (F : Nat → Int32) (b n : Nat) : up1 (zrow F b n) (b + n) 0 = zrow F b (n + 1) := by
  funext j
  unfold up1 zrow
  by_cases h : j = b + n
  · rw [if_pos h, if_pos (by omega)]
  · rw [if_neg h]
    by_cases h2 : b ≤ j ∧ j < b + n
    · rw [if_pos h2, if_pos (by omega)]
    · rw [if_neg h2, if_neg (by omega)]
theorem rows_add_loop {h : sh_H} {r s : Nat} {F : Nat → Int32} (hc : RC h) (hr : r < 33) (hs : s < sh_m r) : ∀ (k i n : Nat), i + k = sh_w r → k < n → f_Rows_add_l21 NF (f_Rows_add_b47 NF) n r (nI i) (hR h r (s + 1) (zrow F (s * sh_w r) i)) = some (nI s, hR h r (s + 1) (zrow F (s * sh_w r) (sh_w r))) := by
  obtain ⟨e1, e2, e3, e4⟩ := sh_mw r hr
  have w1 : ∀ G, (hR h r (s + 1) G).1 6 r 1 = nI (sh_w r) := fun G => ((hR_RC hc) r hr).2
  intro k
  induction k with
  | zero =>
    intro i n e5 e6
    obtain ⟨n, rfl⟩ : ∃ m, n = m + 1 := ⟨n - 1, by omega⟩
    obtain rfl : i = sh_w r := by omega
    show f_Rows_add_c21 NF (f_Rows_add_b47 NF) (f_Rows_add_l21 NF (f_Rows_add_b47 NF) n) r (nI (sh_w r)) _ = _
    unfold f_Rows_add_c21 f_Rows_add_b47
    rw [w1, if_neg (nI_nlt (by omega) (by omega)), hR_sz, nI_pred]
  | succ k ih =>
    intro i n e5 e6
    obtain ⟨n, rfl⟩ : ∃ m, n = m + 1 := ⟨n - 1, by omega⟩
    show f_Rows_add_c21 NF (f_Rows_add_b47 NF) (f_Rows_add_l21 NF (f_Rows_add_b47 NF) n) r (nI i) _ = _
    unfold f_Rows_add_c21
    rw [w1, if_pos (nI_lt (by omega) (by omega)), hR_sz, nI_pred, hR_put hc hr (by omega) (by omega) (by omega), Option.bind_some, zrow_s, nI_1]
    exact ih (i + 1) n (by omega) (by omega)
theorem rows_add {h : sh_H} {r s : Nat} (hc : RC h) (hr : r < 33) (hz : h.1 6 r 3 = nI s) (hs : s < sh_m r) : f_Rows_add NF r h = some (nI s, hR h r (s + 1) (zrow (fun j => h.1 13 (sh_rc r) j) (s * sh_w r) (sh_w r))) := by
  obtain ⟨e1, e2, e3, e4⟩ := sh_mw r hr
  unfold f_Rows_add f_Rows_isFull
  rw [hz, (hc r hr).1, if_pos (nI_lt (by omega) (by omega)), Option.bind_some, q_nar0, if_pos rfl, nI_1]
  have e : sh_pI h 6 r 3 (nI (s + 1)) = hR h r (s + 1) (zrow (fun j => h.1 13 (sh_rc r) j) (s * sh_w r) 0) := by
    rw [zrow_0, ← hR_pS (s := s), hR_id hz]
  rw [e]
  exact rows_add_loop hc hr hs (sh_w r) 0 NF (by omega) (NF_gt (by omega))
theorem rows_add_full {h : sh_H} {r s : Nat} (hc : RC h) (hr : r < 33) (hz : h.1 6 r 3 = nI s) (hs : s = sh_m r) : f_Rows_add NF r h = some (-1, h) := by
  obtain ⟨e1, e2, e3, e4⟩ := sh_mw r hr
  unfold f_Rows_add f_Rows_isFull
  rw [hz, (hc r hr).1, if_neg (nI_nlt (by omega) (by omega)), Option.bind_some, q_nar1, if_neg q_10]
theorem up1_eq {s : Nat → Int32} {d j : Nat} {v : Int32} (h : j = d) : up1 s d v j = v := if_pos h
theorem up1_ne {s : Nat → Int32} {d j : Nat} {v : Int32} (h : j ≠ d) : up1 s d v j = s j := if_neg h
theorem zrow_ne {F : Nat → Int32} {b n j : Nat} (h : ¬ (b ≤ j ∧ j < b + n)) : zrow F b n j = F j := if_neg h
theorem zrow_in {F : Nat → Int32} {b n j : Nat} (h : b ≤ j ∧ j < b + n) : zrow F b n j = 0 := if_pos h
/-! the sendings and the books anew on both sides -/
theorem kT_no {k : Nat} (h : kT k) : ¬ (k = 7 ∨ k = 8 ∨ (310 ≤ k ∧ k < 1000)) := by unfold kT at h; omega
theorem St_send {c : Nat} {hc hm : sh_H} (h : St c hc hm) {n : Nat} {F G : Nat → Int32} (hG : ∀ k, ¬ (k = 7 ∨ (310 ≤ k ∧ k < 550)) → G k = mS hm k) (hn : n ≤ 40) (h7 : G 7 = nI n) (hF : ∀ i, i < n → ∀ q, q < 6 → F (i * 6 + q) = G (310 + 6 * i + sn_c q)) (hD : ∀ i, i < n → SDi G i) : St c (hR hc 15 n F) (hS hm G) := by
  obtain ⟨⟨p1, p2⟩, r2, r3, r4, r5⟩ := rSt_0 h
  have hs : ∀ k, mS (hS hm G) k = G k := hS_at hm G
  have r15 : sh_rc 15 = 21 := rfl
  refine St_keep (Nat.le_refl c) h (fun c i j q => hR_ne (by rw [r15]; omega) (by omega)) (fun _ _ _ => rfl) rfl rfl (fun c i j q => ?_) (fun _ _ => rfl) ⟨⟨?_, fun q hq => ?_⟩, ⟨?_, fun q hq => ?_⟩, ?_, ?_, ?_⟩ ?_
  · by_cases e : c = 13 ∧ i = 46
    · obtain ⟨rfl, rfl⟩ := e
      show mS (hS hm G) j = mS hm j
      rw [hs]
      exact hG j (by omega)
    · exact hS_ne e
  · rw [hR_ne (by rw [r15]; omega) (by omega)]; exact p1
  · rw [hR_ne (by rw [r15]; omega) (by omega), hs, hG _ (by omega)]; exact p2 q hq
  · rw [hR_ne (by rw [r15]; omega) (by omega)]; exact r2.1
  · rw [hR_ne (by rw [r15]; omega) (by omega), hs, hG _ (by omega)]; exact r2.2 q hq
  · refine ⟨n, hn, hR_sz hc 15 n F, (hs _).trans h7, fun i hi q hq => ?_⟩
    rw [hs, Nat.zero_add]
    exact (hR_at hc 15 n F _).trans (hF i hi q hq)
  · obtain ⟨m, n1, n2, n3, n4⟩ := r4
    refine ⟨m, n1, ?_, by rw [hs, hG _ (by omega)]; exact n3, fun i hi => ?_⟩
    · rw [hR_ne (by rw [r15]; omega) (by omega)]; exact n2
    obtain ⟨b, b1, b2, b3, b4, b5, b6⟩ := n4 i hi
    have hx : ∀ k, (hR hc 15 n F).1 13 (22 + 4 * 0) k = hc.1 13 (22 + 4 * 0) k := fun k => hR_ne (by rw [r15]; omega) (by omega)
    have hk : ∀ k, 550 ≤ k → mS (hS hm G) k = mS hm k := fun k hk => by rw [hs, hG _ (by omega)]
    unfold rBk
    simp only [hx]
    exact ⟨b, b1, by rw [hk _ (by omega)]; exact b2, b3, fun q => by rw [hk _ (by omega), hk _ (by omega), hk _ (by omega)]; exact b4 q, fun q => by rw [hk _ (by omega), hk _ (by omega), hk _ (by omega)]; exact b5 q, fun q => by rw [hk _ (by omega)]; exact b6 q⟩
  · obtain ⟨t1, t2⟩ := r5
    refine ⟨?_, t2⟩
    rw [hs, hG _ (by omega), hR_ne (by rw [r15]; omega) (by omega)]
    exact t1
  · have s0 := St_S h
    have e : ∀ k, kT k ∨ kS k → sf (hS hm G) 0 k = G k := fun k hk => (sf_at hk).trans (hs k)
    refine IS_to e ⟨?_, ?_⟩
    · obtain ⟨⟨g, g1, g2⟩, -⟩ := s0
      exact ⟨g, fun q hq => by rw [hG _ (by omega)]; exact g1 q hq, g2⟩
    · obtain ⟨-, a1, -, m, m1, m2, m3⟩ := s0
      refine ⟨rg_to (hG 9 (by omega)) a1, ⟨n, hn, h7, hD⟩, ⟨m, m1, (hG 8 (by omega)).trans m2, fun i hi => BK_to (fun k h1 h2 => hG k (by omega)) (hG 0 (by omega)) (hG 1 (by omega)) (by omega) (m3 i hi)⟩⟩
def rBkF (F G : Nat → Int32) (i : Nat) : Prop := ∃ a, a < 4 ∧ G (550 + 4 * i) = nI a ∧ F (i * 5 + 2) = nI a ∧ (a < 2 → F (i * 5) = G (551 + 4 * i) ∧ F (i * 5 + 1) = G (552 + 4 * i) ∧ F (i * 5 + 3) = G (553 + 4 * i)) ∧ (a = 2 → F (i * 5) = G (551 + 4 * i) ∧ F (i * 5 + 3) = G (552 + 4 * i) ∧ F (i * 5 + 4) = G (553 + 4 * i)) ∧ (a = 3 → F (i * 5 + 3) = G (551 + 4 * i))
theorem St_book {c : Nat} {hc hm : sh_H} (h : St c hc hm) {n : Nat} {F G : Nat → Int32} (hG : ∀ k, ¬ (k = 8 ∨ (550 ≤ k ∧ k < 800)) → G k = mS hm k) (hn : n ≤ 60) (h8 : G 8 = nI n) (hF : ∀ i, i < n → rBkF F G i) (hD : ∀ i, i < n → BKi G i) : St c (hR hc 16 n F) (hS hm G) := by
  obtain ⟨⟨p1, p2⟩, r2, r3, r4, r5⟩ := rSt_0 h
  have hs : ∀ k, mS (hS hm G) k = G k := hS_at hm G
  have r15 : sh_rc 16 = 22 := rfl
  refine St_keep (Nat.le_refl c) h (fun c i j q => hR_ne (by rw [r15]; omega) (by omega)) (fun _ _ _ => rfl) rfl rfl (fun c i j q => ?_) (fun _ _ => rfl) ⟨⟨?_, fun q hq => ?_⟩, ⟨?_, fun q hq => ?_⟩, ?_, ?_, ?_⟩ ?_
  · by_cases e : c = 13 ∧ i = 46
    · obtain ⟨rfl, rfl⟩ := e
      show mS (hS hm G) j = mS hm j
      rw [hs]
      exact hG j (by omega)
    · exact hS_ne e
  · rw [hR_ne (by rw [r15]; omega) (by omega)]; exact p1
  · rw [hR_ne (by rw [r15]; omega) (by omega), hs, hG _ (by omega)]; exact p2 q hq
  · rw [hR_ne (by rw [r15]; omega) (by omega)]; exact r2.1
  · rw [hR_ne (by rw [r15]; omega) (by omega), hs, hG _ (by omega)]; exact r2.2 q hq
  · obtain ⟨m, n1, n2, n3, n4⟩ := r3
    refine ⟨m, n1, ?_, by rw [hs, hG _ (by omega)]; exact n3, fun i hi q hq => ?_⟩
    · rw [hR_ne (by rw [r15]; omega) (by omega)]; exact n2
    have hsn : sn_c q < 6 := (by decide +kernel : ∀ c, c < 6 → sn_c c < 6) q hq
    rw [hR_ne (by rw [r15]; omega) (by omega), hs, hG _ (by omega)]
    exact n4 i hi q hq
  · refine ⟨n, hn, hR_sz hc 16 n F, (hs _).trans h8, fun i hi => ?_⟩
    have hx : ∀ k, (hR hc 16 n F).1 13 (22 + 4 * 0) k = F k := fun k => hR_at hc 16 n F k
    unfold rBk
    simp only [hx, hs, Nat.zero_add]
    exact hF i hi
  · obtain ⟨t1, t2⟩ := r5
    refine ⟨?_, t2⟩
    rw [hs, hG _ (by omega), hR_ne (by rw [r15]; omega) (by omega)]
    exact t1
  · have s0 := St_S h
    have e : ∀ k, kT k ∨ kS k → sf (hS hm G) 0 k = G k := fun k hk => (sf_at hk).trans (hs k)
    refine IS_to e ⟨?_, ?_⟩
    · obtain ⟨⟨g, g1, g2⟩, -⟩ := s0
      exact ⟨g, fun q hq => by rw [hG _ (by omega)]; exact g1 q hq, g2⟩
    · obtain ⟨-, a1, ⟨m, m1, m2, m3⟩, -⟩ := s0
      refine ⟨rg_to (hG 9 (by omega)) a1, ⟨m, m1, (hG 7 (by omega)).trans m2, fun i hi => SD_to (fun k h1 h2 => hG k (by omega)) (hG 0 (by omega)) (hG 1 (by omega)) (by omega) (m3 i hi)⟩, ⟨n, hn, h8, hD⟩⟩
