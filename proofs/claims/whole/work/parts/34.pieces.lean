/-! PIECES: a cell, all of a kind; PAIR: has -/
theorem pr_rc : ∀ s, s < 3 → sh_pr s = 14 + 4 * s ∧ sh_rc (14 + 4 * s) = 20 + 4 * s ∧ sh_m (14 + 4 * s) = 30 ∧ sh_w (14 + 4 * s) = 4 := by decide +kernel
theorem q_row {p k : Nat} : nI p * (6 : Int32) + nI k = nI (p * 6 + k) := by rw [show (6 : Int32) = nI 6 from rfl, q_mul, nI_add]
theorem pcs_get {hc hm : sh_H} {s o p k w : Nat} (hC : RC hc) (hs : s < 3) (h : rPcs hc hm s o) (hp : p < 5) (hk : k < 6) (hw : w < 4) : f_Pieces_get s (nI p) (nI k) (nI w) hc = some (mS hm (o + 800 + ((6 * p + k) * 4 + w))) := by
  obtain ⟨e1, e2, e3, e4⟩ := pr_rc s hs
  unfold f_Pieces_get f_Pieces_row
  rw [Option.bind_some, q_row, e1, rows_get (s := 30) hC (by omega) h.1 (by rw [e3]; omega) (by omega) (by omega), if_pos ⟨by omega, by rw [e4]; omega⟩, Option.bind_some, e2, e4, show (p * 6 + k) * 4 + w = (6 * p + k) * 4 + w by omega, h.2 _ (by omega)]
theorem M_cell {h : sh_H} {p k w : Nat} : f_M_cell (nI p) (nI k) (nI w) h = some (nI (800 + ((6 * p + k) * 4 + w))) := by
  unfold f_M_cell
  rw [show (6 : Int32) = nI 6 from rfl, show (4 : Int32) = nI 4 from rfl, show (800 : Int32) = nI 800 from rfl, q_mul, nI_add, q_mul, nI_add, nI_add, Nat.add_assoc]
def q_all (h : sh_H) (b : Nat) : Int32 := 0 + mS h b + mS h (b + 1) + mS h (b + 2) + mS h (b + 3)
theorem NF_5 : NF = 999995 + 5 := rfl
theorem pcs_all {hc hm : sh_H} {s o p k : Nat} (hC : RC hc) (hs : s < 3) (h : rPcs hc hm s o) (hp : p < 5) (hk : k < 6) : f_Pieces_all NF s (nI p) (nI k) hc = some (q_all hm (o + 800 + (6 * p + k) * 4)) := by
  have st : ∀ n x w, w < 4 → f_Pieces_all_l5 NF (n + 1) s (nI p) (nI k) x (nI w) hc = f_Pieces_all_l5 NF n s (nI p) (nI k) (x + mS hm (o + 800 + (6 * p + k) * 4 + w)) (nI (w + 1)) hc := by
    intro n x w hw
    show f_Pieces_all_c5 NF (f_Pieces_all_l5 NF n) s (nI p) (nI k) x (nI w) hc = _
    unfold f_Pieces_all_c5
    rw [if_pos (show nI w < (4 : Int32) from nI_lt (b := 4) hw (by omega)), pcs_get hC hs h hp hk hw, Option.bind_some, nI_1, show o + 800 + ((6 * p + k) * 4 + w) = o + 800 + (6 * p + k) * 4 + w by omega]
  unfold f_Pieces_all
  rw [NF_5]
  show f_Pieces_all_l5 NF (999995 + 5) s (nI p) (nI k) 0 (nI 0) hc = _
  rw [st _ _ 0 (by omega), st _ _ 1 (by omega), st _ _ 2 (by omega), st _ _ 3 (by omega)]
  show f_Pieces_all_c5 NF (f_Pieces_all_l5 NF 999995) s (nI p) (nI k) _ (nI 4) hc = _
  unfold f_Pieces_all_c5
  rw [if_neg (show ¬ nI 4 < 4 by decide)]
  rfl
theorem M_all {h : sh_H} {p k : Nat} (hp : p < 5) (hk : k < 6) : f_M_all NF (nI p) (nI k) h = some (q_all h (800 + (6 * p + k) * 4)) := by
  have st : ∀ n x w, w < 4 → f_M_all_l5 NF (n + 1) (nI p) (nI k) x (nI w) h = f_M_all_l5 NF n (nI p) (nI k) (x + mS h (800 + (6 * p + k) * 4 + w)) (nI (w + 1)) h := by
    intro n x w hw
    show f_M_all_c5 NF (f_M_all_l5 NF n) (nI p) (nI k) x (nI w) h = _
    unfold f_M_all_c5
    rw [if_pos (show nI w < (4 : Int32) from nI_lt (b := 4) hw (by omega)), M_cell, Option.bind_some, if_pos (q_in (by omega) (by omega)), q_cl (by omega), nI_1, show 800 + ((6 * p + k) * 4 + w) = 800 + (6 * p + k) * 4 + w by omega]
  unfold f_M_all
  rw [NF_5]
  show f_M_all_l5 NF (999995 + 5) (nI p) (nI k) 0 (nI 0) h = _
  rw [st _ _ 0 (by omega), st _ _ 1 (by omega), st _ _ 2 (by omega), st _ _ 3 (by omega)]
  show f_M_all_c5 NF (f_M_all_l5 NF 999995) (nI p) (nI k) _ (nI 4) h = _
  unfold f_M_all_c5
  rw [if_neg (show ¬ nI 4 < 4 by decide)]
  rfl
def q_plc (p n : Int32) : Int32 := if p < 0 then 0 else if n < p then 0 else 1
theorem Text_isPlace {h : sh_H} {t : Nat} {p : Int32} : f_Text_isPlace t p h = some (q_plc p (h.1 6 (7 * t + 1) 3)) := by
  unfold f_Text_isPlace f_Rows_size q_plc f_Text_isPlace_b19
  rw [Option.bind_some]
  split
  · rfl
  · split <;> rfl
theorem M_isPlace {h : sh_H} {p : Int32} : f_M_isPlace p h = some (q_plc p (mS h 1)) := by
  unfold f_M_isPlace q_plc f_M_isPlace_b18
  split
  · rfl
  · rw [if_pos (show ai_in 1 8000 from q_in (k := 1) (n := 8000) (by omega) (by omega))]
    show (if mS h 1 < p then _ else _) = _
    split <;> rfl
theorem q_plc_in {p : Int32} {n : Nat} (hn : n < 2 ^ 31) (h : ¬ q_plc p (nI n) = 0) : ∃ a, a ≤ n ∧ p = nI a := by
  unfold q_plc at h
  by_cases h1 : p < 0
  · rw [if_pos h1] at h; exact absurd rfl h
  · rw [if_neg h1] at h
    obtain ⟨a, ha, rfl⟩ := nI_of h1
    by_cases h2 : nI n < nI a
    · rw [if_pos h2] at h; exact absurd rfl h
    · rw [nI_ltI hn ha] at h2
      exact ⟨a, by omega, rfl⟩
theorem P_has (a1 a2 a3 : Int32) : PairR (f_CB_has NF a1 a2 a3) (f_M_has NF a1 a2 a3) := by
  intro c hc hm _ h
  obtain ⟨n, h1, h2, h3, -⟩ := St_n h 1 (by omega)
  obtain ⟨m, k1, k2, k3, -⟩ := St_n h 0 (by omega)
  have hn : n ≤ 4 := h1
  have hk : m ≤ 6 := k1
  have hp := h.2.2.2.2.2.1.1
  unfold f_CB_has f_M_has
  rw [Text_isPlace, M_isPlace, Text_isKind, M_isKind, CB_within, M_isIn, h2, h3, k2, k3]
  simp only [Option.bind_some]
  refine pick (fun _ => ⟨-1, rfl, rfl⟩) (fun c1 => ?_)
  refine pick (fun _ => ⟨-1, rfl, rfl⟩) (fun c2 => ?_)
  refine pick (fun _ => ⟨-1, rfl, rfl⟩) (fun c3 => ?_)
  obtain ⟨a, ha, rfl⟩ := q_plc_in (by omega) c1
  obtain ⟨b, hb, rfl⟩ := q_kind_in (by omega) c2
  rw [q_within_0] at c3
  by_cases c4 : a3 < 0
  · have e : a3 = -1 := by
      have c5 : ¬ a3 < -1 := fun q => c3 (Or.inl q)
      apply Int32.toInt_inj.mp
      rw [Int32.lt_iff_toInt_lt] at c4 c5
      have z1 : (0 : Int32).toInt = 0 := rfl
      have z2 : (-1 : Int32).toInt = -1 := rfl
      omega
    rw [if_pos e, if_pos c4, pcs_all h.1 (by omega) hp (by omega) (by omega), M_all (by omega) (by omega)]
    exact ⟨_, rfl, by rw [Nat.zero_add]; rfl⟩
  · have e : ¬ a3 = -1 := fun q => c4 (by rw [q]; decide)
    rw [if_neg e, if_neg c4]
    obtain ⟨w, hw, rfl⟩ := nI_of c4
    have hw4 : w < 4 := by
      have c5 : ¬ nI 3 < nI w := fun q => c3 (Or.inr q)
      rw [nI_ltI (by omega) hw] at c5
      omega
    rw [pcs_get h.1 (by omega) hp (by omega) (by omega) hw4, M_cell]
    simp only [Option.bind_some]
    exact ⟨_, rfl, by rw [mS_q (by omega), Nat.zero_add]⟩
