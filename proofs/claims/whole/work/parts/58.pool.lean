/-! PAIRS: pool, saved, holds -/
/-- all pieces of a kind at a place -/
def al (f : Nat → Int32) (p k : Nat) : Nat := nv f (800 + (6 * p + k) * 4) + nv f (800 + (6 * p + k) * 4 + 1) + nv f (800 + (6 * p + k) * 4 + 2) + nv f (800 + (6 * p + k) * 4 + 3)
theorem al_of {c : Nat} {f : Nat → Int32} (h : IS c f) (hc : c ≤ 512) {p k : Nat} (hp : p < 5) (hk : k < 6) : al f p k ≤ 20480000 ∧ (0 + f (800 + (6 * p + k) * 4) + f (800 + (6 * p + k) * 4 + 1) + f (800 + (6 * p + k) * 4 + 2) + f (800 + (6 * p + k) * 4 + 3) : Int32) = nI (al f p k) ∧ ∀ w, w < 4 → f (800 + (6 * p + k) * 4 + w) = nI (nv f (800 + (6 * p + k) * 4 + w)) ∧ nv f (800 + (6 * p + k) * 4 + w) ≤ 5120000 := by
  obtain ⟨⟨g, g1, g2⟩, -⟩ := h
  have gw : ∀ w, w < 4 → f (800 + (6 * p + k) * 4 + w) = nI (g ((6 * p + k) * 4 + w)) ∧ g ((6 * p + k) * 4 + w) ≤ 5120000 := fun w hw => by
    have l := sumN_le (g := g) (q := (6 * p + k) * 4 + w) (n := 120) (by omega)
    refine ⟨?_, by omega⟩
    rw [Nat.add_assoc]
    exact g1 _ (by omega)
  have nw : ∀ w, w < 4 → f (800 + (6 * p + k) * 4 + w) = nI (nv f (800 + (6 * p + k) * 4 + w)) ∧ nv f (800 + (6 * p + k) * 4 + w) ≤ 5120000 := fun w hw => by
    obtain ⟨a, b⟩ := gw w hw
    rw [nv_of a (by omega)]
    exact ⟨a, b⟩
  obtain ⟨a0, b0⟩ := nw 0 (by omega)
  obtain ⟨a1, b1⟩ := nw 1 (by omega)
  obtain ⟨a2, b2⟩ := nw 2 (by omega)
  obtain ⟨a3, b3⟩ := nw 3 (by omega)
  rw [Nat.add_zero] at a0 b0
  refine ⟨by unfold al; omega, ?_, nw⟩
  rw [a1, a2, a3]
  rw [a0, show (0 : Int32) = nI 0 from rfl, nI_add, nI_add, nI_add, nI_add, Nat.zero_add]
  rfl
theorem C_all' {c : Nat} {hc hm : sh_H} (h : St c hc hm) (hc5 : c ≤ 512) {p k : Nat} (hp : p < 5) (hk : k < 6) : f_Pieces_all NF 0 (nI p) (nI k) hc = some (nI (al (mS hm) p k)) := by
  rw [pcs_all h.1 (by omega) (rSt_0 h).1 hp hk, Nat.zero_add]
  exact congrArg some (al_of (St_S h) hc5 hp hk).2.1
theorem M_all' {c : Nat} {H hm : sh_H} (h : IS c (mS hm)) (hc5 : c ≤ 512) (x : sM H hm) {p k : Nat} (hp : p < 5) (hk : k < 6) : f_M_all NF (nI p) (nI k) H = some (nI (al (mS hm) p k)) := by
  rw [M_all hp hk]
  unfold q_all
  rw [x.mS, x.mS, x.mS, x.mS]
  exact congrArg some (al_of h hc5 hp hk).2.1
/-- what the places of a set have, together -/
def lft (f : Nat → Int32) (u k : Nat) : Nat → Nat → Nat
  | 0, _ => 0
  | q + 1, p => (if inb u p = true then al f p k else 0) + lft f u k q (p + 1)
def wW (f : Nat → Int32) (k m : Nat) : Nat → Nat := fun p => wnt f (nI p) (nI k) (nI m)
def wX (f : Nat → Int32) : Nat → Nat := fun p => nv f (39 + 2 * p)
def pol (f : Nat → Int32) (k m u n : Nat) : Nat := (srv (wW f k m) (wX f) n 4 u (lft f u k n 1, 0)).2
theorem lft_le {c : Nat} {f : Nat → Int32} (h : IS c f) (hc : c ≤ 512) {u k : Nat} (hk : k < 6) : ∀ q p, p + q ≤ 5 → lft f u k q p ≤ 20480000 * q := by
  intro q
  induction q with
  | zero => intro p _; exact Nat.zero_le _
  | succ q ih =>
    intro p hp
    have := ih (p + 1) (by omega)
    have a := (al_of h hc (p := p) (k := k) (by omega) hk).1
    show (if inb u p = true then al f p k else 0) + lft f u k q (p + 1) ≤ _
    split <;> omega
theorem isIn_eq (u p : Nat) (hu : u < 16) (hp : p < 5) (p1 : 1 ≤ p) (h : sh_H) : f_Stocks_isIn (nI u) (nI p) h = some (if inb u p = true then 1 else 0) := by
  have e : ∀ u, u < 16 → ∀ p, p < 5 → 1 ≤ p → ((nI u >>> ((nI p - 1) &&& 31)) &&& 1) = if inb u p = true then 1 else 0 := by decide +kernel
  unfold f_Stocks_isIn
  rw [e u hu p hp p1, q_nar0, q_nar1]
  split
  · rw [if_neg q_10]
  · rw [if_pos rfl]
theorem C_harmOf {c : Nat} {hc hm : sh_H} (h : St c hc hm) {ni p : Nat} (i2 : mS hm 1 = nI ni) (i1 : ni ≤ 4) (hp : p < ni + 1) (p1 : 1 ≤ p) : f_Text_harmOf hc.2.2.1 (nI p) hc = some (nI (wX (mS hm) p)) ∧ wX (mS hm) p ≤ 99 ∧ mS hm (39 + 2 * p) = nI (wX (mS hm) p) := by
  obtain ⟨n', n1, n2, n3⟩ := (St_T h).2.1
  have : n' = ni := (nI_eq (by omega) (by omega)).mp (n2.symm.trans i2)
  subst this
  obtain ⟨v, -, v2, v3⟩ := (n3 (p - 1) (by omega)).2
  rw [show 41 + 2 * (p - 1) = 39 + 2 * p by omega] at v3
  have e : wX (mS hm) p = v := nv_of v3 (by omega)
  rw [e]
  refine ⟨?_, v2, v3⟩
  unfold f_Text_harmOf
  obtain ⟨q, rfl⟩ : ∃ q, p = q + 1 := ⟨p - 1, by omega⟩
  have g : f_Rows_get (7 * hc.2.2.1 + 1) (nI q) 1 hc = some (nI v) := (tx_get h (j := 1) (r := q) (q := 1) (by omega) n2 (by omega) (by omega) (by omega) (by decide) (by decide)).trans (by show some (mS hm (40 + 2 * q + 1)) = _; rw [show 40 + 2 * q + 1 = 39 + 2 * (q + 1) by omega, v3])
  rw [nI_pred, g, Option.bind_some]
theorem C_mh {c : Nat} {hc hm : sh_H} (h : St c hc hm) {ni : Nat} (i2 : mS hm 1 = nI ni) (i1 : ni ≤ 4) {u : Nat} (hu : u < 16) : f_Stocks_mostHarmed NF hc.2.2.1 (nI u) hc = some (if mh (wX (mS hm)) u ni 1 0 = 0 then -1 else nI (mh (wX (mS hm)) u ni 1 0)) := by
  have z1 : hc.1 6 (7 * hc.2.2.1 + 1) 3 = nI ni := (St_z h 1 (by omega)).trans i2
  have lp : ∀ (q p b t : Nat), p + q = ni + 1 → q < t → 1 ≤ p → b < p → f_Stocks_mostHarmed_l4 NF t hc.2.2.1 (nI u) (if b = 0 then -1 else nI b) (nI p) hc = some (if mh (wX (mS hm)) u q p b = 0 then -1 else nI (mh (wX (mS hm)) u q p b)) := by
    intro q
    induction q with
    | zero =>
      intro p b t e1 e2 e3 e4
      obtain ⟨t, rfl⟩ : ∃ m, t = m + 1 := ⟨t - 1, by omega⟩
      show f_Stocks_mostHarmed_c4 NF (f_Stocks_mostHarmed_l4 NF t) hc.2.2.1 (nI u) (if b = 0 then -1 else nI b) (nI p) hc = _
      unfold f_Stocks_mostHarmed_c4 f_Rows_size
      rw [z1, Option.bind_some, if_pos (nI_lt (by omega) (by omega))]
      rfl
    | succ q ih =>
      intro p b t e1 e2 e3 e4
      obtain ⟨t, rfl⟩ : ∃ m, t = m + 1 := ⟨t - 1, by omega⟩
      show f_Stocks_mostHarmed_c4 NF (f_Stocks_mostHarmed_l4 NF t) hc.2.2.1 (nI u) (if b = 0 then -1 else nI b) (nI p) hc = _
      unfold f_Stocks_mostHarmed_c4 f_Rows_size f_Stocks_mostHarmed_b41 f_Stocks_mostHarmed_b43
      rw [z1, Option.bind_some, if_neg (nI_nlt (by omega) (by omega)), isIn_eq u p hu (by omega) e3, Option.bind_some, nI_1]
      have nx0 := ih (p + 1) b t (by omega) (by omega) (by omega) (by omega)
      have nx1 := ih (p + 1) p t (by omega) (by omega) (by omega) (by omega)
      rw [if_neg (show ¬ p = 0 by omega)] at nx1
      cases c : inb u p with
      | false =>
        rw [mh_f (fun z => by rw [c] at z; cases z.1), if_neg (show ¬ false = true by decide), if_pos (rfl : (0 : Int32) = 0)]
        exact nx0
      | true =>
        rw [if_pos rfl, if_neg q_10]
        by_cases b0 : b = 0
        · rw [mh_t ⟨c, Or.inl b0⟩, if_pos b0, if_pos rfl]
          exact nx1
        · rw [if_neg b0] at nx0
          rw [if_neg b0, if_neg (show ¬ nI b = -1 from fun z => nI_pos (n := b) (by omega) (by rw [z]; decide))]
          obtain ⟨x1, x2, -⟩ := C_harmOf h i2 i1 (p := p) (by omega) e3
          obtain ⟨y1, y2, -⟩ := C_harmOf h i2 i1 (p := b) (by omega) (by omega)
          rw [x1, Option.bind_some, y1, Option.bind_some]
          by_cases l : wX (mS hm) b < wX (mS hm) p
          · rw [mh_t ⟨c, Or.inr l⟩, if_pos (nI_lt l (by omega))]
            exact nx1
          · rw [mh_f (fun z => z.2.elim b0 l), if_neg (nI_nlt (by omega) (by omega))]
            exact nx0
  unfold f_Stocks_mostHarmed
  exact lp ni 1 0 NF (by omega) (NF_gt (by omega)) (by omega) (by omega)
