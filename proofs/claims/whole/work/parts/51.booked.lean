/-! THE MODEL'S BOOKS; PAIRS: balance, richest -/
def van (f : Nat → Int32) (r : Nat) : Nat → Nat → Bool
  | 0, _ => false
  | n + 1, j => if f (550 + 4 * j) = nI 3 ∧ f (551 + 4 * j) = nI r then true else van f r n (j + 1)
theorem van_t {f : Nat → Int32} {r n j : Nat} (h : f (550 + 4 * j) = nI 3 ∧ f (551 + 4 * j) = nI r) : van f r (n + 1) j = true := if_pos h
theorem van_f {f : Nat → Int32} {r n j : Nat} (h : ¬ (f (550 + 4 * j) = nI 3 ∧ f (551 + 4 * j) = nI r)) : van f r (n + 1) j = van f r n (j + 1) := if_neg h
theorem van_iff {f : Nat → Int32} {r : Nat} : ∀ {n j : Nat}, van f r n j = true ↔ ∃ k, j ≤ k ∧ k < j + n ∧ f (550 + 4 * k) = nI 3 ∧ f (551 + 4 * k) = nI r := by
  intro n
  induction n with
  | zero => intro j; exact ⟨fun h => (by cases h), fun ⟨k, h, h2, _⟩ => absurd h (by omega)⟩
  | succ n ih =>
    intro j
    unfold van
    by_cases c : f (550 + 4 * j) = nI 3 ∧ f (551 + 4 * j) = nI r
    · rw [if_pos c]
      exact ⟨fun _ => ⟨j, by omega, by omega, c⟩, fun _ => rfl⟩
    · rw [if_neg c, ih]
      constructor
      · rintro ⟨k, k1, k2, k3⟩
        exact ⟨k, by omega, by omega, k3⟩
      · rintro ⟨k, k1, k2, k3⟩
        refine ⟨k, ?_, by omega, k3⟩
        by_cases e : k = j
        · subst e; exact absurd k3 c
        · omega
/-- a row is annulled by later ones alone -/
theorem van_vdd {f : Nat → Int32} {n0 n r : Nat} (hB : ∀ i, i < n0 → BKi f i) (hn : n ≤ n0) (hn2 : n0 ≤ 60) (hr : r < n) : van f r (n - (r + 1)) (r + 1) = vdd f r n := by
  rw [Bool.eq_iff_iff, van_iff, vdd_iff]
  constructor
  · rintro ⟨k, k1, k2, k3⟩
    exact ⟨k, by omega, k3⟩
  · rintro ⟨k, k1, k2, k3⟩
    refine ⟨k, ?_, by omega, k2, k3⟩
    rcases hB k (by omega) with ⟨a, a1, a2, -⟩ | ⟨a2, -⟩ | ⟨-, q, q1, q2⟩
    · have := (nI_eq (by omega) (by omega)).mp (a2.symm.trans k2); omega
    · have := (nI_eq (by omega) (by omega)).mp (a2.symm.trans k2); omega
    · have := (nI_eq (by omega) (by omega)).mp (q2.symm.trans k3); omega
theorem M_isLive {H : sh_H} {f : Nat → Int32} (hf : ∀ k, mS H k = f k) {n0 n r : Nat} (hB : ∀ i, i < n0 → BKi f i) (hn : n ≤ n0) (hn2 : n0 ≤ 60) (hr : r < n) : f_M_isLive NF (nI r) (nI n) H = some (if vdd f r n = true then 0 else 1) := by
  have lp : ∀ (k j u : Nat), j + k = n → k < u → f_M_isLive_l4 NF u (nI r) (nI n) (nI j) H = some (if van f r k j = true then 0 else 1) := by
    intro k
    induction k with
    | zero =>
      intro j u e1 e2
      obtain ⟨u, rfl⟩ : ∃ m, u = m + 1 := ⟨u - 1, by omega⟩
      obtain rfl : j = n := by omega
      show f_M_isLive_c4 NF (f_M_isLive_l4 NF u) (nI r) (nI j) (nI j) H = _
      unfold f_M_isLive_c4
      rw [if_neg (nI_nlt (by omega) (by omega)), q_nar1]
      rfl
    | succ k ih =>
      intro j u e1 e2
      obtain ⟨u, rfl⟩ : ∃ m, u = m + 1 := ⟨u - 1, by omega⟩
      show f_M_isLive_c4 NF (f_M_isLive_l4 NF u) (nI r) (nI n) (nI j) H = _
      unfold f_M_isLive_c4 f_M_isLive_b45
      have b0 : (550 : Int32) + 4 * nI j = nI (550 + 4 * j) := by rw [show (550 : Int32) = nI 550 from rfl, show (4 : Int32) = nI 4 from rfl, q_mul, nI_add]
      have b1 : nI (550 + 4 * j) + 1 = nI (551 + 4 * j) := by rw [nI_1, show 550 + 4 * j + 1 = 551 + 4 * j by omega]
      have z0 : ai_in (nI (550 + 4 * j)) 8000 := in8 (by omega)
      have z1 : ai_in (nI (551 + 4 * j)) 8000 := in8 (by omega)
      have y0 : (nI (550 + 4 * j)).toNatClampNeg = 550 + 4 * j := cl8 (by omega)
      have y1 : (nI (551 + 4 * j)).toNatClampNeg = 551 + 4 * j := cl8 (by omega)
      have f0 : H.1 13 46 (550 + 4 * j) = f (550 + 4 * j) := hf _
      have f1 : H.1 13 46 (551 + 4 * j) = f (551 + 4 * j) := hf _
      simp only [b0, b1, if_pos z0, if_pos z1, y0, y1, f0, f1, nI_1, q_nar0]
      rw [if_pos (nI_lt (by omega) (by omega)), ih (j + 1) u (by omega) (by omega)]
      by_cases c1 : f (550 + 4 * j) = nI 3
      · rw [if_pos (show f (550 + 4 * j) = 3 from c1)]
        by_cases c2 : f (551 + 4 * j) = nI r
        · rw [if_pos c2, van_t ⟨c1, c2⟩, if_pos rfl]
        · rw [if_neg c2, van_f (fun q => c2 q.2)]
      · rw [if_neg (show ¬ f (550 + 4 * j) = 3 from c1), van_f (fun q => c1 q.1)]
  unfold f_M_isLive
  rw [nI_1, lp (n - (r + 1)) (r + 1) NF (by omega) (NF_gt (by omega)), van_vdd hB hn hn2 hr]
theorem M_booked {H : sh_H} {f : Nat → Int32} (hf : ∀ k, mS H k = f k) {n0 n : Nat} (hB : ∀ i, i < n0 → BKi f i) (hn : n ≤ n0) (hn2 : n0 ≤ 60) (s p k : Nat) (hs : s < 2) : f_M_booked NF (nI s) (nI p) (nI k) (nI n) H = some (nI (bk f n s p k n)) := by
  have lp : ∀ (q j u : Nat), j + q = n → q < u → f_M_booked_l6 NF u (nI s) (nI p) (nI k) (nI n) (nI (bk f n s p k j)) (nI j) H = some (nI (bk f n s p k n)) := by
    intro q
    induction q with
    | zero =>
      intro j u e1 e2
      obtain ⟨u, rfl⟩ : ∃ m, u = m + 1 := ⟨u - 1, by omega⟩
      obtain rfl : j = n := by omega
      show f_M_booked_c6 NF (f_M_booked_l6 NF u) (nI s) (nI p) (nI k) (nI j) (nI (bk f j s p k j)) (nI j) H = _
      unfold f_M_booked_c6
      rw [if_neg (nI_nlt (by omega) (by omega))]
    | succ q ih =>
      intro j u e1 e2
      obtain ⟨u, rfl⟩ : ∃ m, u = m + 1 := ⟨u - 1, by omega⟩
      show f_M_booked_c6 NF (f_M_booked_l6 NF u) (nI s) (nI p) (nI k) (nI n) (nI (bk f n s p k j)) (nI j) H = _
      unfold f_M_booked_c6 f_M_booked_b85
      have b0 : (550 : Int32) + 4 * nI j = nI (550 + 4 * j) := by rw [show (550 : Int32) = nI 550 from rfl, show (4 : Int32) = nI 4 from rfl, q_mul, nI_add]
      have b1 : nI (550 + 4 * j) + 1 = nI (551 + 4 * j) := by rw [nI_1, show 550 + 4 * j + 1 = 551 + 4 * j by omega]
      have b2 : nI (550 + 4 * j) + 2 = nI (552 + 4 * j) := by rw [show (2 : Int32) = nI 2 from rfl, nI_add, show 550 + 4 * j + 2 = 552 + 4 * j by omega]
      have b3 : nI (550 + 4 * j) + 3 = nI (553 + 4 * j) := by rw [show (3 : Int32) = nI 3 from rfl, nI_add, show 550 + 4 * j + 3 = 553 + 4 * j by omega]
      have z0 : ai_in (nI (550 + 4 * j)) 8000 := in8 (by omega)
      have z1 : ai_in (nI (551 + 4 * j)) 8000 := in8 (by omega)
      have z2 : ai_in (nI (552 + 4 * j)) 8000 := in8 (by omega)
      have z3 : ai_in (nI (553 + 4 * j)) 8000 := in8 (by omega)
      have y0 : (nI (550 + 4 * j)).toNatClampNeg = 550 + 4 * j := cl8 (by omega)
      have y1 : (nI (551 + 4 * j)).toNatClampNeg = 551 + 4 * j := cl8 (by omega)
      have y2 : (nI (552 + 4 * j)).toNatClampNeg = 552 + 4 * j := cl8 (by omega)
      have y3 : (nI (553 + 4 * j)).toNatClampNeg = 553 + 4 * j := cl8 (by omega)
      have f0 : H.1 13 46 (550 + 4 * j) = f (550 + 4 * j) := hf _
      have f1 : H.1 13 46 (551 + 4 * j) = f (551 + 4 * j) := hf _
      have f2 : H.1 13 46 (552 + 4 * j) = f (552 + 4 * j) := hf _
      have f3 : H.1 13 46 (553 + 4 * j) = f (553 + 4 * j) := hf _
      simp only [b0, b1, b2, b3, if_pos z0, if_pos z1, if_pos z2, if_pos z3, y0, y1, y2, y3, f0, f1, f2, f3, nI_1]
      rw [if_pos (nI_lt (by omega) (by omega))]
      have nx := ih (j + 1) u (by omega) (by omega)
      by_cases c1 : f (550 + 4 * j) = nI s
      · rw [if_pos c1]
        by_cases c2 : f (551 + 4 * j) = nI p
        · rw [if_pos c2]
          by_cases c3 : f (552 + 4 * j) = nI k
          · rw [if_pos c3, M_isLive hf hB hn hn2 (by omega), Option.bind_some]
            cases hv : vdd f j n with
            | true =>
              rw [bk_s (fun q => by have := q.2.2.2; rw [hv] at this; cases this)] at nx
              rw [if_pos rfl, if_pos rfl]
              exact nx
            | false =>
              rcases hB j (by omega) with ⟨a, a1, a2, a3, a4, x, -, x2, x3⟩ | ⟨a2, -⟩ | ⟨a2, -⟩
              · rw [bk_a ⟨c1, c2, c3, hv⟩, nv_of x3 (by omega)] at nx
                rw [if_neg (show ¬ false = true by decide), if_neg q_10, x3, nI_add]
                exact nx
              · have := (nI_eq (by omega) (by omega)).mp (a2.symm.trans c1); omega
              · have := (nI_eq (by omega) (by omega)).mp (a2.symm.trans c1); omega
          · rw [if_neg c3]
            rw [bk_s (fun q => c3 q.2.2.1)] at nx
            exact nx
        · rw [if_neg c2]
          rw [bk_s (fun q => c2 q.2.1)] at nx
          exact nx
      · rw [if_neg c1]
        rw [bk_s (fun q => c1 q.1)] at nx
        exact nx
  unfold f_M_booked
  exact lp n 0 NF (by omega) (NF_gt (by omega))
theorem CB_isKnown (x : Int32) (h : sh_H) : f_CB_isKnown x h = some (q_within x 0 (h.1 6 16 3)) := by
  unfold f_CB_isKnown f_Rows_size
  rw [Option.bind_some, CB_within, Option.bind_some, q_nar1w]
theorem M_isKnown (x : Int32) (h : sh_H) : f_M_isKnown x h = some (q_within x 0 (mS h 8)) := by
  unfold f_M_isKnown f_M_isKnown_b19 q_within
  rw [if_pos (show ai_in 8 8000 from in8 (k := 8) (by omega)), q_nar0, q_nar1]
  show (if x < 0 then some (0 : Int32) else if mS h 8 < x then some 0 else some 1) = _
  split
  · rfl
  · split <;> rfl
theorem LD_went {H : sh_H} {f : Nat → Int32} {N m i : Nat} (hC : RC H) (hL : LD H f N m i) {p k : Nat} (hp : p < 5) (hk : k < 6) : f_Ledger_went (nI p) (nI k) H = some (nI (bk f N 0 p k m)) := by
  have g := rows_get (r := 29) (s := 5) (a := p) (b := k) hC (by omega) hL.1 (by decide) (by omega) (by omega)
  rw [if_pos ⟨hp, show k < sh_w 29 from hk⟩] at g
  unfold f_Ledger_went
  rw [g, Option.bind_some]
  exact congrArg some (hL.2.2.2.2.1 p k hp hk)
theorem LD_came {H : sh_H} {f : Nat → Int32} {N m i : Nat} (hC : RC H) (hL : LD H f N m i) {p k : Nat} (hp : p < 5) (hk : k < 6) : f_Ledger_came (nI p) (nI k) H = some (nI (bk f N 1 p k m)) := by
  have g := rows_get (r := 30) (s := 5) (a := p) (b := k) hC (by omega) hL.2.1 (by decide) (by omega) (by omega)
  rw [if_pos ⟨hp, show k < sh_w 30 from hk⟩] at g
  unfold f_Ledger_came
  rw [g, Option.bind_some]
  exact congrArg some (hL.2.2.2.2.2.1 p k hp hk)
theorem Pair.r {α : Type} {F : sh_H → Option (α × sh_H)} {G : sh_H → Option α} (H : ∀ c hc hm, c < 512 → St c hc hm → ∃ r, oC (F hc) r hc ∧ G hm = some r) : Pair F (rdr G) := Pair.o (fun c hc hm h5 h => by
  obtain ⟨r, r1, r2⟩ := H c hc hm h5 h
  refine ⟨r, r1, hm, ?_, sM.rf hm⟩
  unfold rdr
  rw [r2])
theorem pickR {α : Type} {c : Prop} [Decidable c] {x y : Option (α × sh_H)} {x' y' : Option α} {h : sh_H} (p : c → ∃ r, oC x r h ∧ x' = some r) (q : ¬ c → ∃ r, oC y r h ∧ y' = some r) : ∃ r, oC (if c then x else y) r h ∧ (if c then x' else y') = some r := by
  by_cases h : c
  · rw [if_pos h, if_pos h]; exact p h
  · rw [if_neg h, if_neg h]; exact q h
theorem P_balance (a1 a2 a3 : Int32) : Pair (f_CB_balance NF a1 a2 a3) (rdr (f_M_balance NF a1 a2 a3)) := Pair.r (by
  intro c hc hm _ h
  obtain ⟨n0, m0, m1, m2, m3, m4⟩ := St_b h
  obtain ⟨ni, i1, i2, -⟩ := (St_T h).2.1
  obtain ⟨nk, k1, k2, -⟩ := (St_T h).1
  have e16 : 4 * 0 + 16 = 16 := rfl
  unfold f_CB_balance f_CB_balance_b17 f_M_balance f_M_balance_b44
  simp only [e16, CB_isOf, CB_isKnown, M_isIsland, M_isKind, M_isKnown, St_z h 1 (by omega), St_z h 0 (by omega), i2, k2, m1, m2, Option.bind_some]
  by_cases c1 : q_isl a1 (nI ni) = 0
  · rw [if_pos c1, if_pos rfl, if_pos c1]
    exact ⟨_, oC.v, rfl⟩
  by_cases c2 : q_kind a2 (nI nk) = 0
  · rw [if_neg c1, if_pos c2, if_pos rfl, if_neg c1, if_pos c2]
    exact ⟨_, oC.v, rfl⟩
  rw [if_neg c1, if_neg c2, if_neg q_10, if_neg c1, if_neg c2]
  refine pickR (fun _ => ⟨_, oC.v, rfl⟩) (fun c3 => ?_)
  obtain ⟨p, hp, rfl⟩ := q_isl_in (by omega) c1
  obtain ⟨k, hk, rfl⟩ := q_kind_in (by omega) c2
  obtain ⟨n, -, hn, rfl⟩ := q_within_in (a := 0) (b := n0) (by omega) (by omega) c3
  obtain ⟨E, E1, E2, E3⟩ := C_know h m2 m0 hn
  have b0 := M_booked (H := hm) (f := mS hm) (fun _ => rfl) m4 hn m0 0 (p + 1) k (by omega)
  have b1 := M_booked (H := hm) (f := mS hm) (fun _ => rfl) m4 hn m0 1 (p + 1) k (by omega)
  rw [show f_M_booked NF 0 (nI (p + 1)) (nI k) (nI n) hm = _ from b0, show f_M_booked NF 1 (nI (p + 1)) (nI k) (nI n) hm = _ from b1, E1, Option.bind_some, LD_went (sC_RC E2 h.1) E3 (by omega) (by omega), Option.bind_some, LD_came (sC_RC E2 h.1) E3 (by omega) (by omega), Option.bind_some, Option.bind_some, Option.bind_some]
  exact ⟨_, ⟨E, rfl, E2⟩, rfl⟩)
theorem P_richest (a1 : Int32) : Pair (f_CB_richest NF a1) (rdr (f_M_richest NF a1)) := Pair.r (by
  intro c hc hm _ h
  obtain ⟨n0, m0, m1, m2, m3, m4⟩ := St_b h
  obtain ⟨ni, i1, i2, -⟩ := (St_T h).2.1
  obtain ⟨nk, k1, k2, -⟩ := (St_T h).1
  have e16 : 4 * 0 + 16 = 16 := rfl
  unfold f_CB_richest f_M_richest
  simp only [e16, CB_isKnown, M_isKnown, m1, m2, Option.bind_some]
  refine pickR (fun _ => ⟨_, oC.v, rfl⟩) (fun c3 => ?_)
  obtain ⟨n, -, hn, rfl⟩ := q_within_in (a := 0) (b := n0) (by omega) (by omega) c3
  obtain ⟨E, E1, E2, E3⟩ := C_know h m2 m0 hn
  rw [E1, Option.bind_some]
  have hE := St_sC E2 h
  have tE : E.2.2.1 = hc.2.2.1 := E2.tx
  have b0 := fun p k => M_booked (H := hm) (f := mS hm) (fun _ => rfl) m4 hn m0 0 p k (by omega)
  have b1 := fun p k => M_booked (H := hm) (f := mS hm) (fun _ => rfl) m4 hn m0 1 p k (by omega)
  have j0 : ai_in (0 : Int32) 8000 := in8 (k := 0) (by omega)
  have j1 : ai_in (1 : Int32) 8000 := in8 (k := 1) (by omega)
  have v0 : hm.1 13 46 (0 : Int32).toNatClampNeg = nI nk := k2
  have v1 : hm.1 13 46 (1 : Int32).toNatClampNeg = nI ni := i2
  have z0 : E.1 6 (7 * E.2.2.1 + 0) 3 = nI nk := (St_z hE 0 (by omega)).trans k2
  have z1 : E.1 6 (7 * E.2.2.1 + 1) 3 = nI ni := (St_z hE 1 (by omega)).trans i2
  have inn : ∀ (p : Nat) (hp : p < 5) (l2 : Int32) (l3 : Int64) (K : Nat → Int32 → Int64 → Int32 → Int64 → sh_H → Option Int32) (K' : Int32 → Int32 → Int64 → Int32 → Int64 → sh_H → Option Int32), (∀ l6, ∃ r, K E.2.2.1 l2 l3 (nI p) l6 E = some r ∧ K' (nI n) l2 l3 (nI p) l6 hm = some r) → ∀ (k j u u' : Nat) (l6 : Int64), j + k = nk → k < u → k < u' → ∃ r, f_Ledger_gainer_l26 NF K u E.2.2.1 l2 l3 (nI p) l6 (nI j) E = some r ∧ f_M_richest_l35 NF K' u' (nI n) l2 l3 (nI p) l6 (nI j) hm = some r := by
    intro p hp l2 l3 K K' hK k
    induction k with
    | zero =>
      intro j u u' l6 e1 e2 e3
      obtain ⟨u, rfl⟩ : ∃ m, u = m + 1 := ⟨u - 1, by omega⟩
      obtain ⟨u', rfl⟩ : ∃ m, u' = m + 1 := ⟨u' - 1, by omega⟩
      obtain rfl : j = nk := by omega
      show ∃ r, f_Ledger_gainer_c26 NF K (f_Ledger_gainer_l26 NF K u) E.2.2.1 l2 l3 (nI p) l6 (nI j) E = some r ∧ f_M_richest_c35 NF K' (f_M_richest_l35 NF K' u') (nI n) l2 l3 (nI p) l6 (nI j) hm = some r
      unfold f_Ledger_gainer_c26 f_M_richest_c35 f_Rows_size
      rw [z0, Option.bind_some, if_pos j0, v0, if_neg (nI_nlt (by omega) (by omega)), if_neg (nI_nlt (by omega) (by omega))]
      exact hK l6
    | succ k ih =>
      intro j u u' l6 e1 e2 e3
      obtain ⟨u, rfl⟩ : ∃ m, u = m + 1 := ⟨u - 1, by omega⟩
      obtain ⟨u', rfl⟩ : ∃ m, u' = m + 1 := ⟨u' - 1, by omega⟩
      show ∃ r, f_Ledger_gainer_c26 NF K (f_Ledger_gainer_l26 NF K u) E.2.2.1 l2 l3 (nI p) l6 (nI j) E = some r ∧ f_M_richest_c35 NF K' (f_M_richest_l35 NF K' u') (nI n) l2 l3 (nI p) l6 (nI j) hm = some r
      unfold f_Ledger_gainer_c26 f_M_richest_c35 f_Rows_size f_M_worth
      have g0 : f_Rows_get (7 * E.2.2.1 + 0) (nI j) 0 E = some (mS hm (20 + 3 * j)) := tx_get hE (j := 0) (r := j) (q := 0) (by omega) k2 (by omega) (by omega) (by omega) (by decide) (by decide)
      have b2 : (20 : Int32) + 3 * nI j = nI (20 + 3 * j) := by rw [show (20 : Int32) = nI 20 from rfl, show (3 : Int32) = nI 3 from rfl, q_mul, nI_add]
      have y2 : (nI (20 + 3 * j)).toNatClampNeg = 20 + 3 * j := cl8 (by omega)
      rw [z0, Option.bind_some, if_pos j0, v0, if_pos (nI_lt (by omega) (by omega)), if_pos (nI_lt (by omega) (by omega)), LD_came (sC_RC E2 h.1) E3 hp (by omega), Option.bind_some, LD_went (sC_RC E2 h.1) E3 hp (by omega), Option.bind_some, g0, Option.bind_some, show f_M_booked NF 1 (nI p) (nI j) (nI n) hm = _ from b1 p j, Option.bind_some, show f_M_booked NF 0 (nI p) (nI j) (nI n) hm = _ from b0 p j, Option.bind_some, b2, if_pos (in8 (by omega)), y2, Option.bind_some, nI_1]
      exact ih (j + 1) u u' _ (by omega) (by omega) (by omega)
  have out : ∀ (k p u u' : Nat) (l2 : Int32) (l3 : Int64), p + k = ni + 1 → k < u → k < u' → ∃ r, f_Ledger_gainer_l8 NF u E.2.2.1 l2 l3 (nI p) E = some r ∧ f_M_richest_l18 NF u' (nI n) l2 l3 (nI p) hm = some r := by
    intro k
    induction k with
    | zero =>
      intro p u u' l2 l3 e1 e2 e3
      obtain ⟨u, rfl⟩ : ∃ m, u = m + 1 := ⟨u - 1, by omega⟩
      obtain ⟨u', rfl⟩ : ∃ m, u' = m + 1 := ⟨u' - 1, by omega⟩
      refine ⟨l2, ?_, ?_⟩
      · show f_Ledger_gainer_c8 NF (f_Ledger_gainer_l8 NF u) E.2.2.1 l2 l3 (nI p) E = _
        unfold f_Ledger_gainer_c8 f_Rows_size
        rw [z1, Option.bind_some, if_pos (nI_lt (by omega) (by omega))]
      · show f_M_richest_c18 NF (f_M_richest_l18 NF u') (nI n) l2 l3 (nI p) hm = _
        unfold f_M_richest_c18
        rw [if_pos j1, v1, if_pos (nI_lt (by omega) (by omega))]
    | succ k ih =>
      intro p u u' l2 l3 e1 e2 e3
      obtain ⟨u, rfl⟩ : ∃ m, u = m + 1 := ⟨u - 1, by omega⟩
      obtain ⟨u', rfl⟩ : ∃ m, u' = m + 1 := ⟨u' - 1, by omega⟩
      show ∃ r, f_Ledger_gainer_c8 NF (f_Ledger_gainer_l8 NF u) E.2.2.1 l2 l3 (nI p) E = some r ∧ f_M_richest_c18 NF (f_M_richest_l18 NF u') (nI n) l2 l3 (nI p) hm = some r
      unfold f_Ledger_gainer_c8 f_M_richest_c18 f_Rows_size
      rw [z1, Option.bind_some, if_pos j1, v1, if_neg (nI_nlt (by omega) (by omega)), if_neg (nI_nlt (by omega) (by omega))]
      refine inn p (by omega) l2 l3 _ _ (fun l6 => ?_) nk 0 NF NF 0 (by omega) (NF_gt (by omega)) (NF_gt (by omega))
      unfold f_Ledger_gainer_b83 f_M_richest_b87 f_Ledger_gainer_b96 f_M_richest_b103
      rw [nI_1]
      exact pick (fun _ => ih (p + 1) u u' _ _ (by omega) (by omega) (by omega)) (fun _ => ih (p + 1) u u' _ _ (by omega) (by omega) (by omega))
  obtain ⟨r, r1, r2⟩ := out ni 1 NF NF (-2) 0 (by omega) (NF_gt (by omega)) (NF_gt (by omega))
  unfold f_Ledger_gainer
  rw [show f_Ledger_gainer_l8 NF NF E.2.2.1 (-2) 0 1 E = some r from r1, Option.bind_some]
  exact ⟨r, ⟨E, rfl, E2⟩, r2⟩)
