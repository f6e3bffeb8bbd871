/-! PAIR: read: a tell's row -/
theorem tb_all : ∀ j, j < 7 → 20 ≤ tb_b j ∧ tb_b j + tb_s j * sh_m j ≤ 310 ∧ 2 ≤ tb_s j ∧ tb_s j ≤ 5 ∧ sh_m j ≤ 12 ∧ 2 ≤ sh_w j ∧ sh_w j ≤ 5 := by decide +kernel
theorem tb_row {j s : Nat} (hj : j < 7) (hs : s < sh_m j) : tb_b j + tb_s j * s + tb_s j ≤ 310 := by
  obtain ⟨h1, h2, -⟩ := tb_all j hj
  have : tb_s j * (s + 1) ≤ tb_s j * sh_m j := Nat.mul_le_mul_left _ hs
  rw [Nat.mul_succ] at this
  omega
def tC (sp j s : Nat) (H' H : sh_H) : Prop := (∀ c i x, c ≠ 5 → ¬ (c = 6 ∧ i = 7 * sp + j ∧ x = 3) → ¬ (c = 13 ∧ i = 9 * sp + j ∧ s * sh_w j ≤ x ∧ x < s * sh_w j + sh_w j) → ¬ (c = 2 ∧ i = sp ∧ x = 1) → ¬ (c = 13 ∧ i = 9 * sp + 7) → H'.1 c i x = H.1 c i x) ∧ (∀ c i x, ¬ (c = 14 ∧ (i = 1 ∨ i = 2)) → H'.2.1 c i x = H.2.1 c i x) ∧ H'.2.2 = H.2.2
def tM (j s : Nat) (G' G : sh_H) : Prop := (∀ c i x, ¬ (c = 12 ∧ x ≠ 0 ∧ x ≠ 2) → ¬ (c = 13 ∧ 47 ≤ i ∧ i ≤ 49) → ¬ (c = 13 ∧ i = 46 ∧ (x = 2000 + j ∨ x = 2010 ∨ (2000 + tb_b j + tb_s j * s ≤ x ∧ x < 2000 + tb_b j + tb_s j * s + tb_s j) ∨ (3000 ≤ x ∧ x < 4000))) → G'.1 c i x = G.1 c i x) ∧ (∀ c i x, ¬ (c = 14 ∧ i = 7) → G'.2.1 c i x = G.2.1 c i x) ∧ G'.2.2 = G.2.2
theorem tC.tr {sp j s : Nat} {a b c : sh_H} (x : tC sp j s a b) (y : tC sp j s b c) : tC sp j s a c := ⟨fun c i k n1 n2 n3 n4 n5 => (x.1 c i k n1 n2 n3 n4 n5).trans (y.1 c i k n1 n2 n3 n4 n5), fun c i k n => (x.2.1 c i k n).trans (y.2.1 c i k n), x.2.2.trans y.2.2⟩
theorem tM.tr {j s : Nat} {a b c : sh_H} (x : tM j s a b) (y : tM j s b c) : tM j s a c := ⟨fun c i k n1 n2 n3 => (x.1 c i k n1 n2 n3).trans (y.1 c i k n1 n2 n3), fun c i k n => (x.2.1 c i k n).trans (y.2.1 c i k n), x.2.2.trans y.2.2⟩
theorem fN.t {sp j s : Nat} {H' H : sh_H} (x : fN H' H) : tC sp j s H' H := ⟨fun c i k n1 _ _ _ _ => x.1 c i k n1, x.2.1, x.2.2⟩
theorem gN.t {j s : Nat} {G' G : sh_H} (x : gN G' G) : tM j s G' G := ⟨fun c i k n1 n2 _ => x.1 c i k n1 (by omega), x.2.1, x.2.2⟩
theorem xC.t {sp j s : Nat} {H' H : sh_H} (x : xC sp H' H) : tC sp j s H' H := ⟨fun c i k n1 _ _ n4 n5 => x.1 c i k n1 n4 n5, fun _ _ _ _ => by rw [x.2], by rw [x.2]⟩
theorem xM.t {j s : Nat} {G' G : sh_H} (x : xM G' G) : tM j s G' G := ⟨fun c i k n1 n2 n3 => x.1 c i k (by omega) (by omega) (by omega), fun _ _ _ _ => by rw [x.2], by rw [x.2]⟩
/-- a tell under way: the new row s of table j -/
def TS (sp j s : Nat) (V U : Nat → Int32) (H G H0 G0 : sh_H) : Prop := RC H ∧ H.1 6 (7 * sp + j) 3 = nI (s + 1) ∧ (∀ c, c < sh_w j → H.1 13 (9 * sp + j) (s * sh_w j + c) = V c) ∧ (∀ c, c < tb_s j → G.1 13 46 (2000 + tb_b j + tb_s j * s + c) = U c) ∧ tC sp j s H H0 ∧ tM j s G G0
theorem TS_to {sp j s : Nat} {V U : Nat → Int32} {H G H0 G0 H' G' : sh_H} (hj : j < 7) (hs : s < sh_m j) (a : ∀ c i x, c = 6 ∨ (c = 13 ∧ i = 9 * sp + j) → H'.1 c i x = H.1 c i x) (b : ∀ x, 2020 ≤ x → x < 2310 → G'.1 13 46 x = G.1 13 46 x) (tc : tC sp j s H' H) (tm : tM j s G' G) (t : TS sp j s V U H G H0 G0) : TS sp j s V U H' G' H0 G0 := by
  obtain ⟨t1, t2, t3, t4, t5, t6⟩ := t
  have r := tb_row hj hs
  have r0 := (tb_all j hj).1
  refine ⟨RC_of t1 (fun r i _ _ => a _ _ _ (Or.inl rfl)), (a _ _ _ (Or.inl rfl)).trans t2, fun c hc => (a _ _ _ (Or.inr ⟨rfl, rfl⟩)).trans (t3 c hc), fun c hc => (b _ (by omega) (by omega)).trans (t4 c hc), tc.tr t5, tm.tr t6⟩
theorem TS_N {sp j s : Nat} {V U : Nat → Int32} {H G H0 G0 H' G' : sh_H} (hj : j < 7) (hs : s < sh_m j) (x : fN H' H) (y : gN G' G) (t : TS sp j s V U H G H0 G0) : TS sp j s V U H' G' H0 G0 := TS_to hj hs (fun c i k h => x.1 c i k (by omega)) (fun k h1 h2 => y.1 13 46 k (by omega) (by omega)) x.t y.t t
theorem TS_f {sp j s : Nat} {V U : Nat → Int32} {H G H0 G0 H' G' : sh_H} (hj : j < 7) (hs : s < sh_m j) (x : f5 H' H) (y : f12 G' G) (t : TS sp j s V U H G H0 G0) : TS sp j s V U H' G' H0 G0 := TS_N hj hs x.N y.N t
theorem TS_e {sp j s : Nat} {V U : Nat → Int32} {H G H0 G0 H' G' : sh_H} (hp : sp < 2) (hj : j < 7) (hs : s < sh_m j) (x : xC sp H' H) (y : xM G' G) (t : TS sp j s V U H G H0 G0) : TS sp j s V U H' G' H0 G0 := TS_to hj hs (fun c i k h => x.1 c i k (by omega) (by omega) (by omega)) (fun k h1 h2 => y.1 13 46 k (by omega) (by omega) (by omega)) x.t y.t t
theorem PS_to {B : Nat → Nat} {n sz a lf lt : Nat} {H G H' G' : sh_H} (e1 : ∀ c i j, c = 5 ∨ c = 10 ∨ (c = 13 ∧ (i = 18 ∨ i = 19)) → H'.1 c i j = H.1 c i j) (e2 : ∀ j, H'.2.1 14 0 j = H.2.1 14 0 j) (e3 : ∀ c i j, c = 12 ∨ (c = 13 ∧ 43 ≤ i ∧ i ≤ 45) → G'.1 c i j = G.1 c i j) (e4 : ∀ j, G'.2.1 14 5 j = G.2.1 14 5 j) (p : PS B n sz a lf lt H G) : PS B n sz a lf lt H' G' := PS_mk (TK_to (fun c i j h => e1 c i j (by omega)) e2 (fun i j h1 h2 => e3 13 i j (by omega)) e4 p.1) p.2.1 ((e1 5 0 3 (by omega)).trans p.2.2.1) ((e1 5 0 4 (by omega)).trans p.2.2.2.1) ((e3 12 0 7 (by omega)).trans p.2.2.2.2.1) (CL_to (fun j _ => e1 5 0 j (by omega)) p.cl) (ML2_to (fun j _ => e3 12 0 j (by omega)) p.ml) p.lt
/-- a cell of the row: the class -/
theorem T_put {sp j s c : Nat} {V U : Nat → Int32} {H G H0 G0 : sh_H} (hp : sp < 2) (hj : j < 7) (hs : s < sh_m j) (hc : c < sh_w j) (v : Int32) (t : TS sp j s V U H G H0 G0) : ∃ H', f_Rows_put (7 * sp + j) (nI s) (nI c) v H = some H' ∧ TS sp j s (up1 V c v) U H' G H0 G0 ∧ H' = sh_pI H 13 (9 * sp + j) (s * sh_w j + c) v := by
  obtain ⟨t1, t2, t3, t4, t5, t6⟩ := t
  obtain ⟨r1, r2, r3⟩ := rc_tx sp hp j hj
  have al := tb_all j hj
  refine ⟨_, ?_, ⟨RC_of t1 (fun r i _ _ => pI_ne (by omega)), (pI_ne (by omega)).trans t2, fun d hd => ?_, t4, ⟨fun c' i x n1 n2 n3 n4 n5 => (pI_ne (by omega)).trans (t5.1 c' i x n1 n2 n3 n4 n5), t5.2.1, t5.2.2⟩, t6⟩, rfl⟩
  · rw [rows_put t1 (by omega) t2 (by rw [r2]; omega) (by omega) (by omega), if_pos ⟨by omega, by rw [r3]; exact hc⟩, r1, r3]
  · by_cases e : d = c
    · rw [e, pI_at, up1_eq rfl]
    · rw [pI_ne (by omega), up1_ne e]; exact t3 d hd
/-- a cell of the row: the model -/
theorem T_tell {sp j s c k : Nat} {V U : Nat → Int32} {H G H0 G0 : sh_H} (hj : j < 7) (hs : s < sh_m j) (hc : c < tb_s j) (hk : k = tb_b j + tb_s j * s + c) (v : Int32) (t : TS sp j s V U H G H0 G0) : ∃ G', f_M_tell (nI k) v G = some G' ∧ TS sp j s V (up1 U c v) H G' H0 G0 ∧ G' = sh_pI G 13 46 (2000 + k) v := by
  obtain ⟨t1, t2, t3, t4, t5, t6⟩ := t
  have r := tb_row hj hs
  have al := tb_all j hj
  refine ⟨_, M_tell2 (by omega) v G, ⟨t1, t2, t3, fun d hd => ?_, t5, ⟨fun c' i x n1 n2 n3 => (pI_ne (by omega)).trans (t6.1 c' i x n1 n2 n3), t6.2.1, t6.2.2⟩⟩, rfl⟩
  by_cases e : d = c
  · rw [e, hk, show 2000 + (tb_b j + tb_s j * s + c) = 2000 + tb_b j + tb_s j * s + c by omega, pI_at, up1_eq rfl]
  · rw [pI_ne (by omega), up1_ne e]; exact t4 d hd
/-- the model counts the row -/
theorem T_count {sp j s : Nat} {V U : Nat → Int32} {H G H0 G0 : sh_H} (hj : j < 7) (hs : s < sh_m j) (v : Int32) (t : TS sp j s V U H G H0 G0) : ∃ G', f_M_tell (nI j) v G = some G' ∧ TS sp j s V U H G' H0 G0 ∧ G' = sh_pI G 13 46 (2000 + j) v := by
  obtain ⟨t1, t2, t3, t4, t5, t6⟩ := t
  have r := tb_row hj hs
  have al := tb_all j hj
  exact ⟨_, M_tell2 (by omega) v G, ⟨t1, t2, t3, fun d hd => (pI_ne (by omega)).trans (t4 d hd), t5, ⟨fun c' i x n1 n2 n3 => (pI_ne (by omega)).trans (t6.1 c' i x n1 n2 n3), t6.2.1, t6.2.2⟩⟩, rfl⟩
/-! the dead class in a tell -/
def yC (sp : Nat) (H' H : sh_H) : Prop := (∀ c i x, c ≠ 5 → ¬ (c = 6 ∧ 7 * sp ≤ i ∧ i < 7 * sp + 7 ∧ x = 3) → ¬ (c = 13 ∧ 9 * sp ≤ i ∧ i < 9 * sp + 8) → ¬ (c = 2 ∧ i = sp ∧ x = 1) → H'.1 c i x = H.1 c i x) ∧ (∀ c i x, ¬ (c = 14 ∧ (i = 1 ∨ i = 2)) → H'.2.1 c i x = H.2.1 c i x) ∧ H'.2.2 = H.2.2
def yM (G' G : sh_H) : Prop := (∀ c i x, ¬ (c = 12 ∧ x ≠ 0 ∧ x ≠ 2) → ¬ (c = 13 ∧ 47 ≤ i ∧ i ≤ 49) → ¬ (c = 13 ∧ i = 46 ∧ ((2000 ≤ x ∧ x < 2007) ∨ x = 2010 ∨ (2020 ≤ x ∧ x < 2310) ∨ (3000 ≤ x ∧ x < 4000))) → G'.1 c i x = G.1 c i x) ∧ (∀ c i x, ¬ (c = 14 ∧ i = 7) → G'.2.1 c i x = G.2.1 c i x) ∧ G'.2.2 = G.2.2
theorem yC.rf (sp : Nat) (H : sh_H) : yC sp H H := ⟨fun _ _ _ _ _ _ _ => rfl, fun _ _ _ _ => rfl, rfl⟩
theorem yM.rf (H : sh_H) : yM H H := ⟨fun _ _ _ _ _ _ => rfl, fun _ _ _ _ => rfl, rfl⟩
theorem yC.tr {sp : Nat} {a b c : sh_H} (x : yC sp a b) (y : yC sp b c) : yC sp a c := ⟨fun c i k n1 n2 n3 n4 => (x.1 c i k n1 n2 n3 n4).trans (y.1 c i k n1 n2 n3 n4), fun c i k n => (x.2.1 c i k n).trans (y.2.1 c i k n), x.2.2.trans y.2.2⟩
theorem yM.tr {a b c : sh_H} (x : yM a b) (y : yM b c) : yM a c := ⟨fun c i k n1 n2 n3 => (x.1 c i k n1 n2 n3).trans (y.1 c i k n1 n2 n3), fun c i k n => (x.2.1 c i k n).trans (y.2.1 c i k n), x.2.2.trans y.2.2⟩
theorem tC.r {sp j s : Nat} {H' H : sh_H} (hj : j < 7) (x : tC sp j s H' H) : yC sp H' H := ⟨fun c i k n1 n2 n3 n4 => x.1 c i k n1 (by omega) (by omega) n4 (by omega), x.2.1, x.2.2⟩
theorem tM.r {j s : Nat} {G' G : sh_H} (hj : j < 7) (hs : s < sh_m j) (x : tM j s G' G) : yM G' G := by
  have r := tb_row hj hs
  have r0 := (tb_all j hj).1
  have r1 : 20 ≤ tb_b j + tb_s j * s := Nat.le_trans r0 (Nat.le_add_right _ _)
  exact ⟨fun c i k n1 n2 n3 => x.1 c i k n1 n2 (by omega), x.2.1, x.2.2⟩
def DS (sp F T : Nat) (H H0 : sh_H) : Prop := DE F T H ∧ yC sp H H0 ∧ RC H ∧ ∃ nb, nb ≤ 12 ∧ H.1 6 (7 * sp + 6) 3 = nI nb
theorem DS_f {sp F T : Nat} {H H' H0 : sh_H} (hp : sp < 2) (d : DE F T H') (x : yC sp H' H) (z : ∀ i x, H'.1 6 i x = H.1 6 i x) (h : DS sp F T H H0) : DS sp F T H' H0 := by
  obtain ⟨h1, h2, h3, nb, h4, h5⟩ := h
  exact ⟨d, x.tr h2, RC_of h3 (fun r j _ _ => z r j), nb, h4, (z _ _).trans h5⟩
theorem f5.r {sp : Nat} {H' H : sh_H} (x : f5 H' H) : yC sp H' H := ⟨fun c i k n1 _ _ _ => x.1 c i k n1, fun _ _ _ _ => by rw [x.2], by rw [x.2]⟩
theorem fN.r {sp : Nat} {H' H : sh_H} (x : fN H' H) : yC sp H' H := ⟨fun c i k n1 _ _ _ => x.1 c i k n1, x.2.1, x.2.2⟩
theorem DS_expect {sp F T : Nat} {H H0 : sh_H} (h : DS sp F T H H0) (x : Int32) : f_Reader_expect x H = some H := D_expect h.1 x
theorem DS_later {sp F T : Nat} {H H0 : sh_H} (hp : sp < 2) (h : DS sp F T H H0) (x y : Int32) : ∃ H', f_Reader_failLater x y H = some H' ∧ DS sp F T H' H0 := by
  obtain ⟨H', e, d, f⟩ := D_later h.1 x y
  exact ⟨H', e, DS_f hp d f.r (fun i x => f.1 _ _ _ (by omega)) h⟩
theorem DS_number {sp F T : Nat} {H H0 : sh_H} (hp : sp < 2) (h : DS sp F T H H0) (x y : Int32) : ∃ v H', f_Reader_number x y H = some (v, H') ∧ DS sp F T H' H0 := by
  obtain ⟨v, hv⟩ := val_tot (H.1 5 0 3) H
  obtain ⟨H', e, d⟩ := DS_later hp h 5 (H.1 5 0 3)
  unfold f_Reader_number f_Reader_number_b23 f_Reader_number_b32
  rw [hv, Option.bind_some, e, Option.bind_some, DS_expect d, DS_expect h]
  by_cases c1 : v.toInt32 < x
  · rw [if_pos c1]; exact ⟨_, H', rfl, d⟩
  · by_cases c2 : y < v.toInt32
    · rw [if_neg c1, if_pos c2]; exact ⟨_, H', rfl, d⟩
    · rw [if_neg c1, if_neg c2]; exact ⟨_, H, rfl, h⟩
theorem cell_tot (r : Nat) (x y : Int32) (H : sh_H) : ∃ v, f_Rows_cell r x y H = some v := by
  unfold f_Rows_cell f_Rows_cell_b28 f_Rows_cell_b29
  rw [if_pos (rfl : (0 : Int32) = 0), if_neg q_10]
  repeat' split
  all_goals exact ⟨_, rfl⟩
theorem l13_t : ∀ sp, sp < 2 → ∀ j, j < 7 → sh_l13 (sh_rc (7 * sp + j)) ≤ 100 := by decide +kernel
theorem DS_put {sp F T j : Nat} {H H0 : sh_H} (hp : sp < 2) (hj : j < 7) (h : DS sp F T H H0) (x y v : Int32) : ∃ H', f_Rows_put (7 * sp + j) x y v H = some H' ∧ DS sp F T H' H0 := by
  obtain ⟨c, hc⟩ := cell_tot (7 * sp + j) x y H
  have l := l13_t sp hp j hj
  unfold f_Rows_put
  rw [hc, Option.bind_some]
  by_cases c1 : c < 0
  · rw [if_pos c1]; exact ⟨H, rfl, h⟩
  · rw [if_neg c1, q_len]
    by_cases c2 : c < nI (sh_l13 (sh_rc (7 * sp + j)))
    · obtain ⟨k, hk, rfl⟩ := nI_of c1
      have := (nI_ltI hk (by omega)).mp c2
      rw [if_pos c2, if_pos (q_in this (by omega)), sh_let, (rc_tx sp hp j hj).1]
      exact ⟨_, rfl, DS_f hp ⟨h.1.1, (pI_ne (by omega)).trans h.1.2.1, (pI_ne (by omega)).trans h.1.2.2⟩ ⟨fun c i x n1 n2 n3 n4 => pI_ne (by omega), fun _ _ _ _ => rfl, rfl⟩ (fun i x => pI_ne (by omega)) h⟩
    · rw [if_neg c2]; exact ⟨H, rfl, h⟩
theorem DS_told {sp F T l : Nat} {H H0 : sh_H} (hp : sp < 2) (hl : sh_l14 l ≤ 6) (h : DS sp F T H H0) : ∃ v H', Option.bind (f_Tokens_valueOf (H.1 5 0 3) H) (fun v1 => Option.bind (f_Reader_indexOf NF l v1 H) (fun v2 => f_Reader_nameTold v2 H)) = some (v, H') ∧ DS sp F T H' H0 := by
  obtain ⟨v, hv⟩ := val_tot (H.1 5 0 3) H
  obtain ⟨H', e, d⟩ := DS_later hp h 4 (H.1 5 0 3)
  rw [hv, Option.bind_some, C_indexOf hl, Option.bind_some]
  unfold f_Reader_nameTold f_Reader_nameTold_b14
  rw [e, Option.bind_some, DS_expect d, DS_expect h]
  split
  · exact ⟨_, H', rfl, d⟩
  · exact ⟨_, H, rfl, h⟩
theorem DS_kind {sp F T : Nat} {H H0 : sh_H} (hp : sp < 2) (h : DS sp F T H H0) : ∃ v H', f_Reader_kindTold NF H = some (v, H') ∧ DS sp F T H' H0 := by
  unfold f_Reader_kindTold
  rw [b2_eta', b2_eta]
  exact DS_told hp (by rw [l14_n.1]; omega) h
theorem DS_place {sp F T : Nat} {H H0 : sh_H} (hp : sp < 2) (h : DS sp F T H H0) (x : Int32) : ∃ v H', f_Reader_placeTold NF x H = some (v, H') ∧ DS sp F T H' H0 := by
  have b18 : ∃ v H', f_Reader_placeTold_b18 NF H = some (v, H') ∧ DS sp F T H' H0 := by
    obtain ⟨v, H', e, d⟩ := DS_told (l := 1 + 1) hp (by rw [show 1 + 1 = 2 from rfl, l14_n.2]; omega) h
    rw [C_placeTold0, e, sh_b2_some]
    split
    · exact ⟨_, H', rfl, d⟩
    · exact ⟨_, H', rfl, d⟩
  obtain ⟨v, hv⟩ := up_tot H
  unfold f_Reader_placeTold
  split
  · exact b18
  · rw [hv, Option.bind_some, D_accept h.1]
    split
    · exact ⟨_, H, rfl, h⟩
    · exact b18
theorem DS_new {sp F T l : Nat} {H H0 : sh_H} (hp : sp < 2) (hl : l = 1 ∨ l = 2) (h : DS sp F T H H0) (x : Int32) : ∃ H', f_Reader_newName NF l x H = some H' ∧ DS sp F T H' H0 := by
  have l6 : sh_l14 l ≤ 6 := by
    rcases hl with rfl | rfl
    · rw [l14_n.1]; omega
    · rw [l14_n.2]; omega
  obtain ⟨v, hv⟩ := val_tot (H.1 5 0 3) H
  have b45 : ∀ X, DS sp F T X H0 → ∃ H', f_Reader_newName_b45 NF l x v X = some H' ∧ DS sp F T H' H0 := by
    intro X d
    unfold f_Reader_newName_b45
    rw [DS_expect d, Option.bind_some]
    by_cases c1 : x < 0
    · rw [if_pos c1]; exact ⟨X, rfl, d⟩
    · rw [if_neg c1, q_len]
      by_cases c2 : x < nI (sh_l14 l)
      · obtain ⟨k, hk, rfl⟩ := nI_of c1
        have := (nI_ltI hk (by omega)).mp c2
        rw [if_pos c2, if_pos (q_in this (by omega)), sh_let]
        have d' : DE F T (sh_pJ X 14 l (nI k).toNatClampNeg v) := d.1
        exact ⟨_, rfl, DS_f (H := X) hp d' ⟨fun _ _ _ _ _ _ _ => rfl, fun c i k n => by rw [pJ_2, if_neg (by omega)], rfl⟩ (fun _ _ => rfl) d⟩
      · rw [if_neg c2]; exact ⟨X, rfl, d⟩
  have b36 : ∃ H', f_Reader_newName_b36 NF l x v H = some H' ∧ DS sp F T H' H0 := by
    obtain ⟨H', e, d⟩ := DS_later hp h 3 (H.1 5 0 3)
    unfold f_Reader_newName_b36
    rw [e, Option.bind_some]
    exact b45 H' d
  unfold f_Reader_newName
  rw [hv, Option.bind_some, C_indexOf (l := 1) (by rw [l14_n.1]; omega), Option.bind_some, C_indexOf (l := 2) (by rw [l14_n.2]; omega), Option.bind_some]
  split
  · split
    · exact b45 H h
    · exact b36
  · exact b36
theorem get_tot (r : Nat) (hr : sh_l13 (sh_rc r) ≤ 100) (x y : Int32) (H : sh_H) : ∃ v, f_Rows_get r x y H = some v := by
  obtain ⟨c, hc⟩ := cell_tot r x y H
  unfold f_Rows_get f_Rows_get_b29
  rw [hc, Option.bind_some]
  by_cases c1 : c < 0
  · rw [if_pos c1]; exact ⟨_, rfl⟩
  · rw [if_neg c1, q_len]
    by_cases c2 : c < nI (sh_l13 (sh_rc r))
    · obtain ⟨k, hk, rfl⟩ := nI_of c1
      have := (nI_ltI hk (by omega)).mp c2
      rw [if_pos c2, if_pos (q_in this (by omega))]
      exact ⟨_, rfl⟩
    · rw [if_neg c2]; exact ⟨_, rfl⟩
theorem boatOf_tot {sp nb : Nat} {H : sh_H} (hp : sp < 2) (hb : nb ≤ 12) (hz : H.1 6 (7 * sp + 6) 3 = nI nb) (x y : Int32) : ∃ v, f_Text_boatOf NF sp x y H = some v := by
  have lp : ∀ (q i u : Nat), i + q = nb → q < u → ∃ v, f_Text_boatOf_l2 NF u sp x y (nI i) H = some v := by
    intro q
    induction q with
    | zero =>
      intro i u e1 e2
      obtain ⟨u, rfl⟩ : ∃ m, u = m + 1 := ⟨u - 1, by omega⟩
      refine ⟨-1, ?_⟩
      show f_Text_boatOf_c2 NF (f_Text_boatOf_l2 NF u) sp x y (nI i) H = _
      unfold f_Text_boatOf_c2 f_Rows_size
      rw [hz, Option.bind_some, if_neg (nI_nlt (by omega) (by omega))]
    | succ q ih =>
      intro i u e1 e2
      obtain ⟨u, rfl⟩ : ∃ m, u = m + 1 := ⟨u - 1, by omega⟩
      obtain ⟨v, hv⟩ := ih (i + 1) u (by omega) (by omega)
      obtain ⟨g, hg⟩ := get_tot (7 * sp + 6) (l13_t sp hp 6 (by omega)) (nI i) 0 H
      obtain ⟨k, hk⟩ := get_tot (7 * sp + 6) (l13_t sp hp 6 (by omega)) (nI i) 1 H
      have cut : ∀ R, R = f_Text_boatOf_c2 NF (f_Text_boatOf_l2 NF u) sp x y (nI i) H → f_Text_boatOf_l2 NF (u + 1) sp x y (nI i) H = R := fun R e => e.symm
      rw [cut _ rfl]
      unfold f_Text_boatOf_c2 f_Rows_size f_Text_boatOf_b41
      rw [hz, Option.bind_some, if_pos (nI_lt (by omega) (by omega)), hg, Option.bind_some, hk, Option.bind_some, nI_1, hv]
      split
      · split
        · exact ⟨_, rfl⟩
        · exact ⟨_, rfl⟩
      · exact ⟨_, rfl⟩
  exact lp nb 0 NF (by omega) (NF_gt (by omega))
theorem DS_sum {sp F T : Nat} {H H0 : sh_H} (hp : sp < 2) (h : DS sp F T H H0) : ∃ H', (Reader_rec NF 60).1 sp 0 H = some H' ∧ DS sp F T H' H0 := by
  obtain ⟨H', e, d, x⟩ := D_sum (sp := sp) (d := 56) hp F T 0 H h.1
  exact ⟨H', e, DS_f hp d ⟨fun c i k n1 n2 n3 n4 => x.1 c i k n1 n4 (by omega), fun _ _ _ _ => by rw [x.2], by rw [x.2]⟩ (fun i k => x.1 _ _ _ (by omega) (by omega) (by omega)) h⟩
theorem DS_eq {sp F T j : Nat} {H H0 : sh_H} (hp : sp < 2) (hj : j < 7) (h : DS sp F T H H0) : ∃ H', f_Reader_equation NF (7 * sp + j) sp H = some H' ∧ DS sp F T H' H0 := by
  unfold f_Reader_equation f_Rows_size f_Formulas_size
  rw [Option.bind_some, DS_expect h, Option.bind_some, Option.bind_some]
  obtain ⟨H1, e1, d1⟩ := DS_put hp hj h (H.1 6 (7 * sp + j) 3 - 1) 3 (H.1 2 sp 1)
  rw [e1, Option.bind_some]
  obtain ⟨H2, e2, d2⟩ := DS_sum hp d1
  rw [e2, Option.bind_some, Option.bind_some]
  obtain ⟨H3, e3, d3⟩ := DS_put hp hj d2 (H.1 6 (7 * sp + j) 3 - 1) 4 (H2.1 2 sp 1)
  rw [e3, Option.bind_some, DS_expect d3]
  exact ⟨H3, rfl, d3⟩
