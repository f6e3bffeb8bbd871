/-! LEAST COIN: the class's orders and plan -/
theorem chs_lt {g : Nat → Int64} {q x o : Nat} {b : Int64} (h : g x < b) : chs g (q + 1) x b o = chs g q (x + 1) (g x) x := if_pos h
theorem chs_ge {g : Nat → Int64} {q x o : Nat} {b : Int64} (h : ¬ g x < b) : chs g (q + 1) x b o = chs g q (x + 1) b o := if_neg h
/-- what is known of a kind, an island and a boat -/
theorem T_kind {c : Nat} {hc hm : sh_H} (h : St c hc hm) {nk k : Nat} (k2 : mS hm 0 = nI nk) (k1 : nk ≤ 6) (hk : k < nk) : (mS hm (20 + 3 * k) = nI (nv (mS hm) (20 + 3 * k)) ∧ 1 ≤ nv (mS hm) (20 + 3 * k) ∧ nv (mS hm) (20 + 3 * k) ≤ 500) ∧ (mS hm (21 + 3 * k) = nI (nv (mS hm) (21 + 3 * k)) ∧ 1 ≤ nv (mS hm) (21 + 3 * k) ∧ nv (mS hm) (21 + 3 * k) ≤ 20) ∧ (mS hm (22 + 3 * k) = nI (nv (mS hm) (22 + 3 * k)) ∧ nv (mS hm) (22 + 3 * k) ≤ 99) := by
  obtain ⟨n', n1, n2, n3⟩ := (St_T h).1
  have : n' = nk := (nI_eq (by omega) (by omega)).mp (n2.symm.trans k2)
  subst this
  obtain ⟨⟨a, a1, a2, a3⟩, ⟨b, b1, b2, b3⟩, ⟨d, -, d2, d3⟩⟩ := n3 k hk
  rw [nv_of a3 (by omega), nv_of b3 (by omega), nv_of d3 (by omega)]
  exact ⟨⟨a3, a1, a2⟩, ⟨b3, b1, b2⟩, ⟨d3, d2⟩⟩
theorem T_safe {c : Nat} {hc hm : sh_H} (h : St c hc hm) {ni p : Nat} (i2 : mS hm 1 = nI ni) (i1 : ni ≤ 4) (hp : p < ni + 1) (p1 : 1 ≤ p) : mS hm (38 + 2 * p) = nI (nv (mS hm) (38 + 2 * p)) ∧ nv (mS hm) (38 + 2 * p) ≤ 60 := by
  obtain ⟨n', n1, n2, n3⟩ := (St_T h).2.1
  have : n' = ni := (nI_eq (by omega) (by omega)).mp (n2.symm.trans i2)
  subst this
  obtain ⟨v, -, v2, v3⟩ := (n3 (p - 1) (by omega)).1
  rw [show 40 + 2 * (p - 1) = 38 + 2 * p by omega] at v3
  rw [nv_of v3 (by omega)]
  exact ⟨v3, v2⟩
theorem T_boat {c : Nat} {hc hm : sh_H} (h : St c hc hm) {p m : Int32} {b : Nat} (e : bt (mS hm) p m = some b) : b < 12 ∧ mS hm (250 + 5 * b) = p ∧ mS hm (251 + 5 * b) = m ∧ (mS hm (252 + 5 * b) = nI (nv (mS hm) (252 + 5 * b)) ∧ 1 ≤ nv (mS hm) (252 + 5 * b) ∧ nv (mS hm) (252 + 5 * b) ≤ 999) ∧ (mS hm (253 + 5 * b) = nI (nv (mS hm) (253 + 5 * b)) ∧ nv (mS hm) (253 + 5 * b) ≤ 999) ∧ (mS hm (254 + 5 * b) = nI (nv (mS hm) (254 + 5 * b)) ∧ nv (mS hm) (254 + 5 * b) ≤ 10) ∧ ∀ q, q < 5 → f_Rows_get (7 * hc.2.2.1 + 6) (nI b) (nI q) hc = some (mS hm (250 + 5 * b + q)) := by
  obtain ⟨nb, n1, n2, n3⟩ := (St_T h).2.2.2.2.2.2
  unfold bt at e
  rw [nv_of n2 (by omega)] at e
  obtain ⟨-, e2, e3, e4⟩ := bof_some e
  obtain ⟨-, -, ⟨x, x1, x2, x3⟩, ⟨y, -, y2, y3⟩, ⟨z, -, z2, z3⟩⟩ := n3 b (by omega)
  rw [nv_of x3 (by omega), nv_of y3 (by omega), nv_of z3 (by omega)]
  refine ⟨by omega, e3, e4, ⟨x3, x1, x2⟩, ⟨y3, y2⟩, ⟨z3, z2⟩, fun q hq => ?_⟩
  have tb : tb_c 6 q = q := (by decide +kernel : ∀ q, q < 5 → tb_c 6 q = q) q hq
  have := tx_get h (j := 6) (r := b) (q := q) (by omega) n2 (by omega) (by omega) hq (by omega) (show q < 5 from hq)
  rw [tb] at this
  exact this
def csB (f : Nat → Int32) (k b W' : Nat) (B : Nat → Int64) (s x : Nat) : Int64 := lN ((nv f (253 + 5 * b) + x * nv f (22 + 3 * k)) * W') + B (s + x)
theorem C_orders {c : Nat} {hc hm H0 : sh_H} (h : St c hc hm) (x0 : sC H0 hc) {k nk : Nat} (k2 : mS hm 0 = nI nk) (k1 : nk ≤ 6) (hk : k < nk) (W' : Nat) (B : Nat → Int64) (hB : ∀ s, s < 61 → H0.2.1 14 4 s = B s) (R F : Nat) (hR : R ≤ 999) (hF : F ≤ 60) (bo P M : Int32) (g : Nat → Nat → Int64) (hg : R = 0 ∨ ∃ b, bt (mS hm) P M = some b ∧ bo = nI b ∧ ∀ s x, g s x = csB (mS hm) k b W' B s x) : ∃ E, f_Stocks_chooseOrders_l67 NF NF hc.2.2.1 (nI k) (lN W') bo (nI R) (nI F) 0 H0 = some E ∧ sC E H0 ∧ (∀ s, s < 61 → E.2.1 14 3 s = (chs (g s) (min R (F - s)) 1 (B s) 0).1) ∧ (∀ s, s < 61 → E.1 13 37 s = nI (chs (g s) (min R (F - s)) 1 (B s) 0).2) := by
  obtain ⟨-, -, t3, t4⟩ := T_kind h k2 k1 hk
  have inn : ∀ (s : Nat) (hs : s < 61) (K : Nat → Int32 → Int64 → Int32 → Int32 → Int32 → Int32 → Int64 → Int32 → sh_H → Option sh_H) (H : sh_H), sC H H0 → (∀ r, r < 61 → H.2.1 14 4 r = B r) → ∀ (q x u o : Nat) (b : Int64), x + q = min R (F - s) + 1 → 1 ≤ x → q < u → f_Stocks_chooseOrders_l101 NF K u hc.2.2.1 (nI k) (lN W') bo (nI R) (nI F) (nI s) b (nI o) (nI x) H = K hc.2.2.1 (nI k) (lN W') bo (nI R) (nI F) (nI s) (chs (g s) q x b o).1 (nI (chs (g s) q x b o).2) H := by
    intro s hs K H xH hH q
    induction q with
    | zero =>
      intro x u o b e1 e2 e3
      obtain ⟨u, rfl⟩ : ∃ m, u = m + 1 := ⟨u - 1, by omega⟩
      show f_Stocks_chooseOrders_c101 NF K (f_Stocks_chooseOrders_l101 NF K u) hc.2.2.1 (nI k) (lN W') bo (nI R) (nI F) (nI s) b (nI o) (nI x) H = K hc.2.2.1 (nI k) (lN W') bo (nI R) (nI F) (nI s) b (nI o) H
      unfold f_Stocks_chooseOrders_c101
      by_cases c1 : R < x
      · rw [if_pos (nI_lt c1 (by omega))]
      · rw [if_neg (nI_nlt (by omega) (by omega)), if_pos ((q_sl (by omega) (by omega) (by omega)).mpr (by omega))]
    | succ q ih =>
      intro x u o b e1 e2 e3
      obtain ⟨u, rfl⟩ : ∃ m, u = m + 1 := ⟨u - 1, by omega⟩
      show f_Stocks_chooseOrders_c101 NF K (f_Stocks_chooseOrders_l101 NF K u) hc.2.2.1 (nI k) (lN W') bo (nI R) (nI F) (nI s) b (nI o) (nI x) H = _
      unfold f_Stocks_chooseOrders_c101 f_Stocks_chooseOrders_b177
      have xx : sC H hc := xH.tr x0
      have hH' := St_sC xx h
      have tH : H.2.2.1 = hc.2.2.1 := xx.tx
      rcases hg with hg | ⟨bb, g0, rfl, g1⟩
      · omega
      obtain ⟨-, -, -, -, ⟨g2, g3⟩, -, g4⟩ := T_boat hH' g0
      rw [tH] at g4
      have r3 : f_Rows_get (7 * hc.2.2.1 + 6) (nI bb) 3 H = some (nI (nv (mS hm) (253 + 5 * bb))) := by
        have a := g4 3 (by omega)
        rw [show 250 + 5 * bb + 3 = 253 + 5 * bb by omega, g2] at a
        exact a
      have r2 : f_Rows_get (7 * hc.2.2.1 + 0) (nI k) 2 H = some (nI (nv (mS hm) (22 + 3 * k))) := by
        have a := tx_get hH' (j := 0) (r := k) (q := 2) (by omega) k2 (by omega) hk (by omega) (by decide) (by decide)
        rw [tH] at a
        refine Eq.trans a ?_
        show some (mS hm (20 + 3 * k + 2)) = _
        rw [show 20 + 3 * k + 2 = 22 + 3 * k by omega, t3]
      have m1 : x * nv (mS hm) (22 + 3 * k) ≤ 999 * 99 := Nat.mul_le_mul (by omega) t4
      rw [if_neg (nI_nlt (by omega) (by omega)), if_neg (fun z => by have := (q_sl (by omega) (by omega) (by omega)).mp z; omega), r3, Option.bind_some, r2, Option.bind_some, nI_add, C_behind (by omega), Option.bind_some, hH _ (by omega), q_mul, nI_add, nI_l (by omega), lN_mul, nI_1]
      have eg : g s x = lN ((nv (mS hm) (253 + 5 * bb) + x * nv (mS hm) (22 + 3 * k)) * W') + B (s + x) := g1 s x
      rw [← eg]
      by_cases l : g s x < b
      · rw [if_pos ((lg_cmp_lt _ _).mpr l), chs_lt l]
        exact ih (x + 1) u x _ (by omega) (by omega) (by omega)
      · rw [if_neg (fun z => l ((lg_cmp_lt _ _).mp z)), chs_ge l]
        exact ih (x + 1) u o _ (by omega) (by omega) (by omega)
  have lp : ∀ (q s u : Nat) (H : sh_H), s + q = 61 → q < u → sC H H0 → (∀ r, r < 61 → H.2.1 14 4 r = B r) → (∀ r, r < s → H.2.1 14 3 r = (chs (g r) (min R (F - r)) 1 (B r) 0).1) → (∀ r, r < s → H.1 13 37 r = nI (chs (g r) (min R (F - r)) 1 (B r) 0).2) → ∃ E, f_Stocks_chooseOrders_l67 NF u hc.2.2.1 (nI k) (lN W') bo (nI R) (nI F) (nI s) H = some E ∧ sC E H0 ∧ (∀ s, s < 61 → E.2.1 14 3 s = (chs (g s) (min R (F - s)) 1 (B s) 0).1) ∧ (∀ s, s < 61 → E.1 13 37 s = nI (chs (g s) (min R (F - s)) 1 (B s) 0).2) := by
    intro q
    induction q with
    | zero =>
      intro s u H e1 e2 x h1 h2 h3
      obtain ⟨u, rfl⟩ : ∃ m, u = m + 1 := ⟨u - 1, by omega⟩
      obtain rfl : s = 61 := by omega
      refine ⟨H, ?_, x, h2, h3⟩
      show f_Stocks_chooseOrders_c67 NF (f_Stocks_chooseOrders_l67 NF u) hc.2.2.1 (nI k) (lN W') bo (nI R) (nI F) (nI 61) H = _
      unfold f_Stocks_chooseOrders_c67
      rw [q_len, if_neg (nI_nlt (by omega) (by omega))]
    | succ q ih =>
      intro s u H e1 e2 x h1 h2 h3
      obtain ⟨u, rfl⟩ : ∃ m, u = m + 1 := ⟨u - 1, by omega⟩
      show ∃ E, f_Stocks_chooseOrders_c67 NF (f_Stocks_chooseOrders_l67 NF u) hc.2.2.1 (nI k) (lN W') bo (nI R) (nI F) (nI s) H = some E ∧ _
      unfold f_Stocks_chooseOrders_c67
      have ei : ai_in (nI s) 61 := q_in (by omega) (by omega)
      have ec : (nI s).toNatClampNeg = s := q_cl (by omega)
      have l61 : nI s < nI 61 := nI_lt (by omega) (by omega)
      rw [q_len, if_pos l61, if_pos l61, C_behind (by omega), Option.bind_some, h1 s (by omega), show f_Stocks_chooseOrders_l101 NF _ NF hc.2.2.1 (nI k) (lN W') bo (nI R) (nI F) (nI s) (B s) 0 1 H = _ from inn s (by omega) _ H x h1 (min R (F - s)) 1 NF 0 (B s) (by omega) (by omega) (NF_gt (by omega))]
      unfold f_Stocks_chooseOrders_b183
      rw [if_pos ei, sh_let, if_pos ei, sh_let, nI_1, ec]
      refine ih (s + 1) u _ (by omega) (by omega) (sC.pI (by unfold scC; omega) (sC.pJ (by unfold sjC; omega) x)) (fun r hr => ?_) (fun r hr => ?_) (fun r hr => ?_)
      · show (sh_pJ H 14 3 s _).2.1 14 4 r = _
        rw [pJ_ne (by omega)]; exact h1 r hr
      · show (sh_pJ H 14 3 s _).2.1 14 3 r = _
        by_cases e : r = s
        · subst e; rw [pJ_at]
        · rw [pJ_ne (by omega)]; exact h2 r (by omega)
      · by_cases e : r = s
        · subst e; rw [pI_at]
        · rw [pI_ne (by omega)]
          show H.1 13 37 r = _
          exact h3 r (by omega)
  exact lp 61 0 NF H0 (by omega) (NF_gt (by omega)) (sC.rf H0) hB (fun r hr => by omega) (fun r hr => by omega)
theorem stp_none {f : Nat → Int32} {p k d mo W : Nat} {C : Nat → Int64} {s : Nat} (e : bt f (nI p) (nI mo) = none) : stp f p k d mo W C s = (Bh f p k d mo W C s, 0) := by
  unfold stp mst
  rw [e]
  rfl
theorem C_choose {c : Nat} {hc hm H0 : sh_H} (h : St c hc hm) (x0 : sC H0 hc) {p k d mo W ni nk : Nat} (k2 : mS hm 0 = nI nk) (k1 : nk ≤ 6) (hk : k < nk) (i2 : mS hm 1 = nI ni) (i1 : ni ≤ 4) (hp : p < ni + 1) (p1 : 1 ≤ p) (C : Nat → Int64) (hB : ∀ s, s < 61 → H0.2.1 14 4 s = Bh (mS hm) p k d mo W C s) : ∃ E, f_Stocks_chooseOrders NF hc.2.2.1 (nI p) (nI k) (nI mo) (lN (W * (d + 1))) H0 = some E ∧ sC E H0 ∧ (∀ s, s < 61 → E.2.1 14 3 s = (stp (mS hm) p k d mo W C s).1) ∧ (∀ s, s < 61 → E.1 13 37 s = nI (stp (mS hm) p k d mo W C s).2) := by
  have hH := St_sC x0 h
  have tH : H0.2.2.1 = hc.2.2.1 := x0.tx
  obtain ⟨-, ⟨t1, t2, t2'⟩, -⟩ := T_kind h k2 k1 hk
  obtain ⟨s1, s2⟩ := T_safe h i2 i1 hp p1
  have bo := C_boatOf hH (nI p) (nI mo)
  rw [tH] at bo
  have g1 : f_Rows_get (7 * hc.2.2.1 + 0) (nI k) 1 H0 = some (nI (nv (mS hm) (21 + 3 * k))) := by
    have a := tx_get hH (j := 0) (r := k) (q := 1) (by omega) k2 (by omega) hk (by omega) (by decide) (by decide)
    rw [tH] at a
    refine Eq.trans a ?_
    show some (mS hm (20 + 3 * k + 1)) = _
    rw [show 20 + 3 * k + 1 = 21 + 3 * k by omega, t1]
  obtain ⟨pp, rfl⟩ : ∃ q, p = q + 1 := ⟨p - 1, by omega⟩
  have g2 : f_Rows_get (7 * hc.2.2.1 + 1) (nI pp) 0 H0 = some (nI (nv (mS hm) (38 + 2 * (pp + 1)))) := by
    have a := tx_get hH (j := 1) (r := pp) (q := 0) (by omega) i2 (by omega) (by omega) (by omega) (by decide) (by decide)
    rw [tH] at a
    refine Eq.trans a ?_
    show some (mS hm (40 + 2 * pp)) = _
    rw [show 40 + 2 * pp = 38 + 2 * (pp + 1) by omega, s1]
  unfold f_Stocks_chooseOrders f_Stocks_chooseOrders_b32 f_Stocks_chooseOrders_b49
  rw [bo, Option.bind_some, g1, Option.bind_some, nI_pred, g2, Option.bind_some]
  cases e : bt (mS hm) (nI (pp + 1)) (nI mo) with
  | none =>
    rw [show oI2 none (-1) = -1 from rfl, if_pos rfl]
    obtain ⟨E, E1, E2, E3, E4⟩ := C_orders h x0 k2 k1 hk (W * (d + 1)) _ hB 0 (nv (mS hm) (38 + 2 * (pp + 1))) (by omega) s2 (-1) 0 0 (fun _ _ => 0) (Or.inl rfl)
    refine ⟨E, E1, E2, fun s hs => ?_, fun s hs => ?_⟩
    · rw [E3 s hs, stp_none e, Nat.zero_min]
      rfl
    · rw [E4 s hs, stp_none e, Nat.zero_min]
      rfl
  | some b =>
    obtain ⟨b1, -, -, ⟨r1, r2, r3⟩, -, -, r4⟩ := T_boat hH e
    rw [tH] at r4
    have g3 : f_Rows_get (7 * hc.2.2.1 + 6) (nI b) 2 H0 = some (nI (nv (mS hm) (252 + 5 * b))) := by
      have a := r4 2 (by omega)
      rw [show 250 + 5 * b + 2 = 252 + 5 * b by omega, r1] at a
      exact a
    rw [show oI2 (some b) (-1) = nI b from rfl, if_neg (show ¬ nI b = -1 from fun z => nI_pos (n := b) (by omega) (by rw [z]; decide)), if_neg (show ¬ nI (nv (mS hm) (21 + 3 * k)) < 1 from nI_nlt (b := 1) (a := nv (mS hm) (21 + 3 * k)) (by omega) (by omega)), g3, Option.bind_some, if_pos (show ¬ nI (nv (mS hm) (21 + 3 * k)) = 0 from nI_ne0 (by omega) (by omega)), pk_div (by omega) (by omega) (by omega), Option.bind_some]
    have dv : nv (mS hm) (252 + 5 * b) / nv (mS hm) (21 + 3 * k) ≤ nv (mS hm) (252 + 5 * b) := Nat.div_le_self _ _
    obtain ⟨E, E1, E2, E3, E4⟩ := C_orders h x0 k2 k1 hk (W * (d + 1)) _ hB (nv (mS hm) (252 + 5 * b) / nv (mS hm) (21 + 3 * k)) (nv (mS hm) (38 + 2 * (pp + 1))) (by omega) s2 (nI b) (nI (pp + 1)) (nI mo) (csB (mS hm) k b (W * (d + 1)) (Bh (mS hm) (pp + 1) k d mo W C)) (Or.inr ⟨b, e, rfl, fun _ _ => rfl⟩)
    have es : ∀ s, stp (mS hm) (pp + 1) k d mo W C s = chs (csB (mS hm) k b (W * (d + 1)) (Bh (mS hm) (pp + 1) k d mo W C) s) (min (nv (mS hm) (252 + 5 * b) / nv (mS hm) (21 + 3 * k)) (nv (mS hm) (38 + 2 * (pp + 1)) - s)) 1 (Bh (mS hm) (pp + 1) k d mo W C s) 0 := fun s => by
      unfold stp mst
      have e2 : cs2 (mS hm) (pp + 1) k d mo W C s = csB (mS hm) k b (W * (d + 1)) (Bh (mS hm) (pp + 1) k d mo W C) s := by
        funext x
        unfold cs2
        rw [e]
        rfl
      rw [e2, e]
    refine ⟨E, E1, E2, fun s hs => ?_, fun s hs => ?_⟩
    · rw [E3 s hs, es]
    · rw [E4 s hs, es]
theorem C_plan {c : Nat} {hc hm : sh_H} (h : St c hc hm) {p k d m n ni nk : Nat} (k2 : mS hm 0 = nI nk) (k1 : nk ≤ 6) (hk : k < nk) (i2 : mS hm 1 = nI ni) (i1 : ni ≤ 4) (hp : p < ni + 1) (p1 : 1 ≤ p) (hm2 : m ≤ 11) (hn : n ≤ 12) (n1 : 1 ≤ n) (hd : d ≤ 3) : ∃ E, f_Stocks_plan NF hc.2.2.1 (nI p) (nI k) (nI m) (nI n) (nI d) hc = some E ∧ sC E hc ∧ (∀ s, s < 61 → E.2.1 14 3 s = lv (mS hm) p k d m n n s) ∧ (∀ s, s < 61 → E.1 13 37 s = nI (stp (mS hm) p k d m ((d + 1) ^ (n - 1)) (lv (mS hm) p k d m n (n - 1)) s).2) := by
  have lp : ∀ (q r u : Nat) (H : sh_H), r + q = n → q < u → sC H hc → (∀ s, s < 61 → H.2.1 14 3 s = lv (mS hm) p k d m n r s) → (r = n → ∀ s, s < 61 → H.1 13 37 s = nI (stp (mS hm) p k d m ((d + 1) ^ (n - 1)) (lv (mS hm) p k d m n (n - 1)) s).2) → ∃ E, f_Stocks_plan_l54 NF u hc.2.2.1 (nI p) (nI k) (nI m) (nI d) (lN ((d + 1) ^ r)) (nI q - 1) H = some E ∧ sC E hc ∧ (∀ s, s < 61 → E.2.1 14 3 s = lv (mS hm) p k d m n n s) ∧ (∀ s, s < 61 → E.1 13 37 s = nI (stp (mS hm) p k d m ((d + 1) ^ (n - 1)) (lv (mS hm) p k d m n (n - 1)) s).2) := by
    intro q
    induction q with
    | zero =>
      intro r u H e1 e2 x h1 h2
      obtain ⟨u, rfl⟩ : ∃ m, u = m + 1 := ⟨u - 1, by omega⟩
      obtain rfl : r = n := by omega
      exact ⟨H, rfl, x, h1, h2 rfl⟩
    | succ q ih =>
      intro r u H e1 e2 x h1 h2
      obtain ⟨u, rfl⟩ : ∃ m, u = m + 1 := ⟨u - 1, by omega⟩
      show ∃ E, f_Stocks_plan_c54 NF (f_Stocks_plan_l54 NF u) hc.2.2.1 (nI p) (nI k) (nI m) (nI d) (lN ((d + 1) ^ r)) (nI (q + 1) - 1) H = some E ∧ _
      unfold f_Stocks_plan_c54
      have qr : q = n - 1 - r := by omega
      have hH := St_sC x h
      have tH : H.2.2.1 = hc.2.2.1 := x.tx
      obtain ⟨H1, a1, a2⟩ := C_wantedF hH (nI p) (nI k) (nI ((m + q) % 12))
      rw [tH] at a1
      have x1 : sC H1 hc := a2.s.tr x
      obtain ⟨y1, y2, -⟩ := C_harmOf (St_sC x1 h) i2 i1 hp p1
      have tH1 : H1.2.2.1 = hc.2.2.1 := x1.tx
      rw [tH1] at y1
      rw [nI_pred, if_neg (nI_pos (by omega)), if_pos (show ¬ (12 : Int32) = 0 by decide), nI_add, show nI (m + q) - nI (m + q) / 12 * 12 = nI ((m + q) % 12) from pk_rem (d := 12) (by omega) (by omega) (by omega), a1, sh_b2_some, y1, Option.bind_some]
      have w9 := wnt_le (mS hm) (nI p) (nI k) (nI ((m + q) % 12))
      obtain ⟨H2, b1, b2, b3, b4⟩ := C_takeWanted (w := wnt (mS hm) (nI p) (nI k) (nI ((m + q) % 12))) (d := d) (X := wX (mS hm) p) (W := (d + 1) ^ r) w9 hd y2 (lv (mS hm) p k d m n r) H1 (fun s hs => by rw [a2.2]; exact h1 s hs)
      rw [b1, Option.bind_some, nI_1, nI_l (by omega), lN_mul]
      have x2 : sC H2 hc := b2.tr x1
      obtain ⟨H3, c1, c2, c3, c4⟩ := C_choose h x2 (p := p) (k := k) (d := d) (mo := (m + q) % 12) (W := (d + 1) ^ r) k2 k1 hk i2 i1 hp p1 (lv (mS hm) p k d m n r) b4
      rw [c1, Option.bind_some, show nI q + (-1) = nI q - 1 from (Int32.sub_eq_add_neg _ _).symm, ← Nat.pow_succ]
      refine ih (r + 1) u H3 (by omega) (by omega) (c2.tr x2) (fun s hs => ?_) (fun e s hs => ?_)
      · rw [c3 s hs]
        show _ = (stp (mS hm) p k d ((m + (n - 1 - r)) % 12) ((d + 1) ^ r) (lv (mS hm) p k d m n r) s).1
        rw [qr]
      · rw [c4 s hs, show n - 1 = r by omega, show (m + q) % 12 = m by rw [show q = 0 by omega, Nat.add_zero]; exact Nat.mod_eq_of_lt (by omega)]
  have lp0 : ∀ (q s u : Nat) (H : sh_H), s + q = 61 → q < u → sC H hc → (∀ r, r < s → H.2.1 14 3 r = 0) → ∃ E, f_Stocks_plan_l3 NF (f_Stocks_plan_b45 NF) u hc.2.2.1 (nI p) (nI k) (nI m) (nI n) (nI d) (nI s) H = some E ∧ sC E hc ∧ (∀ s, s < 61 → E.2.1 14 3 s = lv (mS hm) p k d m n n s) ∧ (∀ s, s < 61 → E.1 13 37 s = nI (stp (mS hm) p k d m ((d + 1) ^ (n - 1)) (lv (mS hm) p k d m n (n - 1)) s).2) := by
    intro q
    induction q with
    | zero =>
      intro s u H e1 e2 x h1
      obtain ⟨u, rfl⟩ : ∃ m, u = m + 1 := ⟨u - 1, by omega⟩
      obtain rfl : s = 61 := by omega
      show ∃ E, f_Stocks_plan_c3 NF (f_Stocks_plan_b45 NF) (f_Stocks_plan_l3 NF (f_Stocks_plan_b45 NF) u) hc.2.2.1 (nI p) (nI k) (nI m) (nI n) (nI d) (nI 61) H = some E ∧ _
      unfold f_Stocks_plan_c3 f_Stocks_plan_b45
      rw [q_len, if_neg (nI_nlt (by omega) (by omega))]
      exact lp n 0 NF H (by omega) (NF_gt (by omega)) x h1 (fun e => by omega)
    | succ q ih =>
      intro s u H e1 e2 x h1
      obtain ⟨u, rfl⟩ : ∃ m, u = m + 1 := ⟨u - 1, by omega⟩
      show ∃ E, f_Stocks_plan_c3 NF (f_Stocks_plan_b45 NF) (f_Stocks_plan_l3 NF (f_Stocks_plan_b45 NF) u) hc.2.2.1 (nI p) (nI k) (nI m) (nI n) (nI d) (nI s) H = some E ∧ _
      unfold f_Stocks_plan_c3
      have ei : ai_in (nI s) 61 := q_in (by omega) (by omega)
      have ec : (nI s).toNatClampNeg = s := q_cl (by omega)
      have l61 : nI s < nI 61 := nI_lt (by omega) (by omega)
      rw [q_len, if_pos l61, if_pos l61, if_pos ei, sh_let, if_pos ei, sh_let, nI_1, ec]
      refine ih (s + 1) u _ (by omega) (by omega) (sC.pI (by unfold scC; omega) (sC.pJ (by unfold sjC; omega) x)) (fun r hr => ?_)
      show (sh_pJ H 14 3 s 0).2.1 14 3 r = _
      by_cases e : r = s
      · subst e; rw [pJ_at]
      · rw [pJ_ne (by omega)]; exact h1 r (by omega)
  unfold f_Stocks_plan
  exact lp0 61 0 NF hc (by omega) (NF_gt (by omega)) (sC.rf hc) (fun r hr => by omega)
