/-! PAIR: read: formulas: codes, waits -/
def xC (sp : Nat) (H' H : sh_H) : Prop := (∀ c i j, c ≠ 5 → ¬ (c = 2 ∧ i = sp ∧ j = 1) → ¬ (c = 13 ∧ i = 9 * sp + 7) → H'.1 c i j = H.1 c i j) ∧ H'.2 = H.2
def xM (G' G : sh_H) : Prop := (∀ c i j, ¬ (c = 12 ∧ j ≠ 0 ∧ j ≠ 2 ∧ j ≠ 15 ∧ j ≠ 22) → ¬ (c = 13 ∧ i = 49) → ¬ (c = 13 ∧ i = 46 ∧ (j = 2010 ∨ (3000 ≤ j ∧ j < 4000))) → G'.1 c i j = G.1 c i j) ∧ G'.2 = G.2
theorem xC.rf (sp : Nat) (H : sh_H) : xC sp H H := ⟨fun _ _ _ _ _ _ => rfl, rfl⟩
theorem xM.rf (G : sh_H) : xM G G := ⟨fun _ _ _ _ _ _ => rfl, rfl⟩
theorem xC.tr {sp : Nat} {a b c : sh_H} (x : xC sp a b) (y : xC sp b c) : xC sp a c := ⟨fun c i j n1 n2 n3 => (x.1 c i j n1 n2 n3).trans (y.1 c i j n1 n2 n3), x.2.trans y.2⟩
theorem xM.tr {a b c : sh_H} (x : xM a b) (y : xM b c) : xM a c := ⟨fun c i j n1 n2 n3 => (x.1 c i j n1 n2 n3).trans (y.1 c i j n1 n2 n3), x.2.trans y.2⟩
theorem f5.E {sp : Nat} {H' H : sh_H} (x : f5 H' H) : xC sp H' H := ⟨fun c i j n1 _ _ => x.1 c i j n1, x.2⟩
theorem f12.E {G' G : sh_H} (x : f12 G' G) : xM G' G := ⟨fun c i j n1 _ _ => x.1 c i j n1, x.2⟩
theorem TK_e {B : Nat → Nat} {n sz sp : Nat} {H G H' G' : sh_H} (hs : sp < 2) (x : xC sp H' H) (y : xM G' G) (t : TK B n sz H G) : TK B n sz H' G' := TK_to (fun c i j h => x.1 c i j (by omega) (by omega) (by omega)) (fun j => by rw [x.2]) (fun i j h1 h2 => y.1 13 i j (by omega) (by omega) (by omega)) (fun j => by rw [y.2]) t
theorem PS_e {B : Nat → Nat} {n sz sp a lf lt : Nat} {H G H' G' : sh_H} (hs : sp < 2) (x : xC sp H' H) (y : xM G' G) (e1 : ∀ j, H'.1 5 0 j = H.1 5 0 j) (e2 : ∀ j, j = 7 ∨ j = 8 ∨ j = 9 ∨ j = 10 ∨ j = 11 → G'.1 12 0 j = G.1 12 0 j) (p : PS B n sz a lf lt H G) : PS B n sz a lf lt H' G' := PS_mk (TK_e hs x y p.1) p.2.1 ((e1 3).trans p.2.2.1) ((e1 4).trans p.2.2.2.1) ((e2 7 (by omega)).trans p.2.2.2.2.1) (CL_to (fun j _ => e1 j) p.cl) (ML2_to (fun j hj => e2 j (by omega)) p.ml) p.lt
/-- the class's codes, the model's codes, what is known of them, the model's waits -/
def CC (sp z : Nat) (A V : Nat → Nat) (H : sh_H) : Prop := H.1 2 sp 1 = nI z ∧ ∀ k, k < z → H.1 13 (9 * sp + 7) k = nI (cst (A k) (V k))
def CM (z : Nat) (A V : Nat → Nat) (G : sh_H) : Prop := G.1 13 46 2010 = nI z ∧ ∀ k, k < z → G.1 13 46 (3000 + k) = nI (A k) ∧ G.1 13 46 (3500 + k) = nI (V k)
def CV (z : Nat) (A V : Nat → Nat) : Prop := ∀ k, k < z → A k < 8 ∧ V k ≤ 9999 ∧ (A k = 1 → V k < 4) ∧ (2 ≤ A k → V k = 0)
def WT (w : Nat) (W : Nat → Nat) (G : sh_H) : Prop := G.1 12 0 20 = nI w ∧ ∀ i, i < w → G.1 13 49 i = nI (W i) ∧ W i < 13
theorem CC_to {sp z : Nat} {A V : Nat → Nat} {H H' : sh_H} (e1 : H'.1 2 sp 1 = H.1 2 sp 1) (e2 : ∀ k, H'.1 13 (9 * sp + 7) k = H.1 13 (9 * sp + 7) k) (h : CC sp z A V H) : CC sp z A V H' := ⟨e1.trans h.1, fun k hk => (e2 k).trans (h.2 k hk)⟩
theorem CC_f {sp z : Nat} {A V : Nat → Nat} {H H' : sh_H} (x : f5 H' H) (h : CC sp z A V H) : CC sp z A V H' := CC_to (x.1 _ _ _ (by omega)) (fun k => x.1 _ _ _ (by omega)) h
theorem CM_to {z : Nat} {A V : Nat → Nat} {G G' : sh_H} (e : ∀ j, G'.1 13 46 j = G.1 13 46 j) (h : CM z A V G) : CM z A V G' := ⟨(e _).trans h.1, fun k hk => ⟨(e _).trans (h.2 k hk).1, (e _).trans (h.2 k hk).2⟩⟩
theorem CM_f {z : Nat} {A V : Nat → Nat} {G G' : sh_H} (x : f12 G' G) (h : CM z A V G) : CM z A V G' := CM_to (fun j => x.1 _ _ _ (by omega)) h
theorem WT_to {w : Nat} {W : Nat → Nat} {G G' : sh_H} (e1 : G'.1 12 0 20 = G.1 12 0 20) (e2 : ∀ i, G'.1 13 49 i = G.1 13 49 i) (h : WT w W G) : WT w W G' := ⟨e1.trans h.1, fun i hi => ⟨(e2 i).trans (h.2 i hi).1, (h.2 i hi).2⟩⟩
theorem CV_cg {z : Nat} {A V A' V' : Nat → Nat} (e : ∀ k, k < z → A' k = A k ∧ V' k = V k) (h : CV z A V) : CV z A' V' := fun k hk => by rw [(e k hk).1, (e k hk).2]; exact h k hk
theorem CC_cg {sp z : Nat} {A V A' V' : Nat → Nat} {H : sh_H} (e : ∀ k, k < z → A' k = A k ∧ V' k = V k) (h : CC sp z A V H) : CC sp z A' V' H := ⟨h.1, fun k hk => by rw [(e k hk).1, (e k hk).2]; exact h.2 k hk⟩
theorem CM_cg {z : Nat} {A V A' V' : Nat → Nat} {G : sh_H} (e : ∀ k, k < z → A' k = A k ∧ V' k = V k) (h : CM z A V G) : CM z A' V' G := ⟨h.1, fun k hk => by rw [(e k hk).1, (e k hk).2]; exact h.2 k hk⟩
theorem up0_n {f : Nat → Nat} {k v j : Nat} (h : j ≠ k) : up0 f k v j = f j := if_neg h
theorem up0_y (f : Nat → Nat) (k v : Nat) : up0 f k v k = v := if_pos rfl
/-- depth of the stack over a stretch of codes -/
def dsp1 (A : Nat → Nat) (d : Nat → Nat) (k : Nat) : Prop := (A k < 2 ∧ d k < 32 ∧ d (k + 1) = d k + 1) ∨ (2 ≤ A k ∧ A k < 8 ∧ 2 ≤ d k ∧ d (k + 1) + 1 = d k)
def DP (A : Nat → Nat) (z z' e e' : Nat) : Prop := ∃ d : Nat → Nat, d z = e ∧ d z' = e' ∧ ∀ k, z ≤ k → k < z' → dsp1 A d k
theorem DP_cg {A A' : Nat → Nat} {z z' e e' : Nat} (h : ∀ k, z ≤ k → k < z' → A' k = A k) (x : DP A z z' e e') : DP A' z z' e e' := by
  obtain ⟨d, d1, d2, d3⟩ := x
  refine ⟨d, d1, d2, fun k k1 k2 => ?_⟩
  unfold dsp1
  rw [h k k1 k2]
  exact d3 k k1 k2
theorem DP_tr {A : Nat → Nat} {z z1 z2 e e1 e2 : Nat} (l1 : z ≤ z1) (l2 : z1 ≤ z2) (x : DP A z z1 e e1) (y : DP A z1 z2 e1 e2) : DP A z z2 e e2 := by
  obtain ⟨d, d1, d2, d3⟩ := x
  obtain ⟨f, f1, f2, f3⟩ := y
  refine ⟨fun k => if k ≤ z1 then d k else f k, ?_, ?_, fun k k1 k2 => ?_⟩
  · show (if z ≤ z1 then d z else f z) = e
    rw [if_pos l1]; exact d1
  · show (if z2 ≤ z1 then d z2 else f z2) = e2
    by_cases c : z2 ≤ z1
    · rw [if_pos c, show z2 = z1 by omega, d2, ← f1, show z1 = z2 by omega]; exact f2
    · rw [if_neg c]; exact f2
  · unfold dsp1
    by_cases c : k < z1
    · simp only [if_pos (show k ≤ z1 by omega), if_pos (show k + 1 ≤ z1 by omega)]
      exact d3 k k1 c
    · have g := f3 k (by omega) k2
      have e : (if k ≤ z1 then d k else f k) = f k := by
        by_cases w : k ≤ z1
        · rw [if_pos w, show k = z1 by omega, d2, f1]
        · rw [if_neg w]
      simp only [e, if_neg (show ¬ k + 1 ≤ z1 by omega)]
      exact g
theorem DP_push {A : Nat → Nat} {z e : Nat} (h : A z < 2) (he : e < 32) : DP A z (z + 1) e (e + 1) := by
  refine ⟨fun k => if k = z then e else e + 1, if_pos rfl, if_neg (by omega), fun k k1 k2 => ?_⟩
  obtain rfl : k = z := by omega
  unfold dsp1
  simp only [if_pos, if_neg (show ¬ k + 1 = k by omega)]
  exact Or.inl ⟨h, he, trivial⟩
theorem DP_op {A : Nat → Nat} {z e : Nat} (h : 2 ≤ A z) (h8 : A z < 8) : DP A z (z + 1) (e + 2) (e + 1) := by
  refine ⟨fun k => if k = z then e + 2 else e + 1, if_pos rfl, if_neg (by omega), fun k k1 k2 => ?_⟩
  obtain rfl : k = z := by omega
  unfold dsp1
  simp only [if_pos, if_neg (show ¬ k + 1 = k by omega)]
  exact Or.inr ⟨h, h8, by omega, trivial⟩
/-- one code more: the class -/
theorem l13_9 : ∀ t, t < 2 → sh_l13 (9 * t + 7) = 400 := fun t ht => (l13_s t ht).2
theorem C_add {sp z o v : Nat} {A V : Nat → Nat} {H : sh_H} (hs : sp < 2) (hz : z < 400) (x y : Int32) (hv : x <<< ((16 : Int32) &&& 31) ||| (y &&& (65535 : Int32)) = nI (cst o v)) (h : CC sp z A V H) : ∃ H', f_Formulas_add sp x y H = some H' ∧ CC sp (z + 1) (up0 A z o) (up0 V z v) H' ∧ xC sp H' H ∧ (∀ j, H'.1 5 0 j = H.1 5 0 j) := by
  refine ⟨sh_pI (sh_pI H 13 (9 * sp + 7) z (nI (cst o v))) 2 sp 1 (nI (z + 1)), ?_, ⟨pI_at _ _ _ _ _, fun k hk => ?_⟩, ⟨fun c i j n1 n2 n3 => ?_, rfl⟩, fun j => ?_⟩
  · unfold f_Formulas_add
    have e1 : (sh_pI H 13 (9 * sp + 7) z (nI (cst o v))).1 2 sp 1 = nI z := (pI_ne (by omega)).trans h.1
    rw [h.1, l13_9 sp hs, if_neg (nI_pos (by omega)), q_len, if_pos (nI_lt hz (by omega)), if_pos (q_in hz (by omega)), q_cl (by omega), hv, sh_let, e1, sh_let, nI_1]
  · rw [pI_ne (by omega)]
    by_cases c : k = z
    · rw [c, pI_at, up0_y, up0_y]
    · rw [pI_ne (by omega), up0_n c, up0_n c]; exact h.2 k (by omega)
  · rw [pI_ne (by omega), pI_ne (by omega)]
  · rw [pI_ne (by omega), pI_ne (by omega)]
theorem add_tot (sp : Nat) (hs : sp < 2) (x y : Int32) (H : sh_H) : ∃ H', f_Formulas_add sp x y H = some H' ∧ xC sp H' H ∧ (∀ j, H'.1 5 0 j = H.1 5 0 j) := by
  unfold f_Formulas_add
  by_cases c1 : H.1 2 sp 1 < 0
  · rw [if_pos c1]; exact ⟨H, rfl, xC.rf _ _, fun _ => rfl⟩
  · rw [if_neg c1, l13_9 sp hs, q_len]
    by_cases c2 : H.1 2 sp 1 < nI 400
    · obtain ⟨j, hj, e⟩ := nI_of c1
      rw [e] at c2
      have := (nI_ltI hj (by omega)).mp c2
      rw [if_pos (by rw [e]; exact c2), e, if_pos (q_in this (by omega)), sh_let, sh_let]
      refine ⟨_, rfl, ⟨fun c i j n1 n2 n3 => ?_, rfl⟩, fun j => ?_⟩
      · rw [pI_ne (by omega), pI_ne (by omega)]
      · rw [pI_ne (by omega), pI_ne (by omega)]
    · rw [if_neg c2]; exact ⟨H, rfl, xC.rf _ _, fun _ => rfl⟩
/-- one code more: the model -/
theorem M_tell2 {k : Nat} (hk : k < 2000) (v : Int32) (G : sh_H) : f_M_tell (nI k) v G = some (sh_pI G 13 46 (2000 + k) v) := by
  unfold f_M_tell
  rw [show (2000 : Int32) = nI 2000 from rfl, nI_add, if_pos (in8 (by omega)), cl8 (by omega)]
  rfl
theorem M_told2 {k : Nat} (hk : k < 2000) (G : sh_H) : f_M_told (nI k) G = some (G.1 13 46 (2000 + k)) := by
  unfold f_M_told
  rw [show (2000 : Int32) = nI 2000 from rfl, nI_add, if_pos (in8 (by omega)), cl8 (by omega)]
theorem M_emit {z o v : Nat} {A V : Nat → Nat} {G : sh_H} (hz : z < 400) (h : CM z A V G) : ∃ G', f_M_emit (nI o) (nI v) G = some G' ∧ CM (z + 1) (up0 A z o) (up0 V z v) G' ∧ xM G' G ∧ (∀ i j, G'.1 12 i j = G.1 12 i j) ∧ (∀ j, G'.1 13 49 j = G.1 13 49 j) := by
  refine ⟨sh_pI (sh_pI (sh_pI G 13 46 (3000 + z) (nI o)) 13 46 (3500 + z) (nI v)) 13 46 2010 (nI (z + 1)), ?_, ⟨pI_at _ _ _ _ _, fun k hk => ?_⟩, ⟨fun c i j n1 n2 n3 => ?_, rfl⟩, fun i j => ?_, fun j => ?_⟩
  · have e0 : f_M_told 10 G = some (nI z) := (M_told2 (k := 10) (by omega) G).trans (congrArg some h.1)
    have e1 : f_M_told 10 (sh_pI G 13 46 (3000 + z) (nI o)) = some (nI z) := (M_told2 (k := 10) (by omega) _).trans (congrArg some ((pI_ne (by omega)).trans h.1))
    have e2 : f_M_told 10 (sh_pI (sh_pI G 13 46 (3000 + z) (nI o)) 13 46 (3500 + z) (nI v)) = some (nI z) := (M_told2 (k := 10) (by omega) _).trans (congrArg some ((pI_ne (by omega)).trans ((pI_ne (by omega)).trans h.1)))
    unfold f_M_emit
    rw [e0, Option.bind_some, show (1000 : Int32) = nI 1000 from rfl, nI_add, M_tell2 (by omega), Option.bind_some, show 2000 + (1000 + z) = 3000 + z by omega, e1, Option.bind_some, show (1500 : Int32) = nI 1500 from rfl, nI_add, M_tell2 (by omega), Option.bind_some, show 2000 + (1500 + z) = 3500 + z by omega, e2, Option.bind_some, nI_1, show (10 : Int32) = nI 10 from rfl, M_tell2 (by omega)]
    rfl
  · rw [pI_ne (show ¬ (13 = 13 ∧ 46 = 46 ∧ 3000 + k = 2010) by omega), pI_ne (show ¬ (13 = 13 ∧ 46 = 46 ∧ 3500 + k = 2010) by omega)]
    by_cases c : k = z
    · rw [c, up0_y, up0_y]
      exact ⟨(pI_ne (by omega)).trans (pI_at _ _ _ _ _), pI_at _ _ _ _ _⟩
    · rw [up0_n c, up0_n c]
      have := h.2 k (by omega)
      exact ⟨(pI_ne (by omega)).trans ((pI_ne (by omega)).trans this.1), (pI_ne (by omega)).trans ((pI_ne (by omega)).trans this.2)⟩
  · rw [pI_ne (by omega), pI_ne (by omega), pI_ne (by omega)]
  · rw [pI_ne (by omega), pI_ne (by omega), pI_ne (by omega)]
  · rw [pI_ne (by omega), pI_ne (by omega), pI_ne (by omega)]
/-- waits -/
def rk (o : Nat) : Nat := if 9 < o ∨ o < 2 then 0 else if 3 < o then 2 else 1
theorem M_rank {o : Nat} (h : o < 2 ^ 31) (G : sh_H) : f_M_rank (nI o) G = some (nI (rk o)) := by
  unfold f_M_rank f_M_rank_b11 rk
  by_cases c1 : 9 < o
  · rw [if_pos (show (9 : Int32) < nI o from nI_lt (a := 9) c1 h), if_pos (Or.inl c1)]; rfl
  · rw [if_neg (show ¬ (9 : Int32) < nI o from nI_nlt (a := 9) (by omega) (by omega))]
    by_cases c2 : o < 2
    · rw [if_pos (show nI o < (2 : Int32) from nI_lt (b := 2) c2 (by omega)), if_pos (Or.inr c2)]; rfl
    · rw [if_neg (show ¬ nI o < (2 : Int32) from nI_nlt (b := 2) (by omega) (by omega)), if_neg (show ¬ (9 < o ∨ o < 2) by omega)]
      by_cases c3 : 3 < o
      · rw [if_pos (show (3 : Int32) < nI o from nI_lt (a := 3) c3 h), if_pos c3]; rfl
      · rw [if_neg (show ¬ (3 : Int32) < nI o from nI_nlt (a := 3) (by omega) (by omega)), if_neg c3]; rfl
theorem rk_le (o : Nat) : rk o ≤ 2 := by unfold rk; split; omega; split <;> omega
theorem rk_2 {o : Nat} (h : 1 ≤ rk o) : 2 ≤ o ∧ o ≤ 9 := by
  unfold rk at h
  split at h
  · omega
  · omega
theorem M_await {w o : Nat} {W : Nat → Nat} {G : sh_H} (hw : w < 500) (ho : o < 13) (h : WT w W G) : ∃ G', f_M_await (nI o) G = some G' ∧ WT (w + 1) (up0 W w o) G' ∧ xM G' G ∧ (∀ j, j ≠ 20 → G'.1 12 0 j = G.1 12 0 j) ∧ (∀ j, G'.1 13 46 j = G.1 13 46 j) := by
  refine ⟨sh_pI (sh_pI G 13 49 w (nI o)) 12 0 20 (nI (w + 1)), ?_, ⟨pI_at _ _ _ _ _, fun i hi => ?_⟩, ⟨fun c i j n1 n2 n3 => ?_, rfl⟩, fun j hj => ?_, fun j => ?_⟩
  · unfold f_M_await
    rw [h.1, if_pos (q_in hw (by omega)), q_cl (by omega), sh_let, show (sh_pI G 13 49 w (nI o)).1 12 0 20 = nI w from (pI_ne (by omega)).trans h.1, sh_let, nI_1]
  · rw [pI_ne (by omega)]
    by_cases c : i = w
    · rw [c, pI_at, up0_y]; exact ⟨rfl, ho⟩
    · rw [pI_ne (by omega), up0_n c]; exact h.2 i (by omega)
  · rw [pI_ne (by omega), pI_ne (by omega)]
  · rw [pI_ne (by omega), pI_ne (by omega)]
  · rw [pI_ne (by omega), pI_ne (by omega)]
/-- waits that are the codes to come -/
def LG (rm zm p w : Nat) (W A : Nat → Nat) : Prop := ∀ j, j < p → W (w + p - 1 - j) = A (zm + j) ∧ rm ≤ rk (A (zm + j))
theorem M_reduce {w ls : Nat} {W A V : Nat → Nat} (hls : 1 ≤ ls ∧ ls ≤ 2) (top : w = 0 ∨ rk (W (w - 1)) < ls) : ∀ (p u zm : Nat) (G : sh_H), p < u → w + p < 500 → zm + p ≤ 400 → CM zm A V G → CV (zm + p) A V → WT (w + p) W G → LG ls zm p w W A → ∃ G', f_M_reduce_l0 NF u (nI ls) G = some G' ∧ CM (zm + p) A V G' ∧ WT w W G' ∧ xM G' G ∧ (∀ j, j ≠ 20 → G'.1 12 0 j = G.1 12 0 j) ∧ (∀ j, G'.1 13 49 j = G.1 13 49 j) := by
  intro p
  induction p with
  | zero =>
    intro u zm G hu hw hz cm cv wt lg
    obtain ⟨u, rfl⟩ : ∃ m, u = m + 1 := ⟨u - 1, by omega⟩
    refine ⟨G, ?_, cm, wt, xM.rf G, fun _ _ => rfl, fun _ => rfl⟩
    show f_M_reduce_c0 NF (f_M_reduce_l0 NF u) (nI ls) G = _
    unfold f_M_reduce_c0
    rw [wt.1]
    rcases top with t | t
    · rw [if_neg (show ¬ (0 : Int32) < nI (w + 0) by rw [t]; decide)]
    · by_cases c : w = 0
      · rw [if_neg (show ¬ (0 : Int32) < nI (w + 0) by rw [c]; decide)]
      · rw [if_pos (show (0 : Int32) < nI (w + 0) from nI_lt (a := 0) (by omega) (by omega)), show nI (w + 0) - 1 = nI (w - 1) by rw [show w + 0 = w - 1 + 1 by omega, nI_pred], if_pos (q_in (by omega) (by omega)), q_cl (by omega)]
        have := wt.2 (w - 1) (by omega)
        rw [this.1, M_rank (by omega), Option.bind_some, if_pos (nI_lt t (by omega))]
  | succ p ih =>
    intro u zm G hu hw hz cm cv wt lg
    obtain ⟨u, rfl⟩ : ∃ m, u = m + 1 := ⟨u - 1, by omega⟩
    obtain ⟨l1, l2⟩ := lg 0 (by omega)
    rw [show w + (p + 1) - 1 - 0 = w + p by omega] at l1
    rw [Nat.add_zero] at l1 l2
    have wa := wt.2 (w + p) (by omega)
    have c2 : 2 ≤ A zm := (rk_2 (by omega)).1
    have vz : V zm = 0 := (cv zm (by omega)).2.2.2 c2
    -- one is taken
    have g1 : (sh_pI G 12 0 20 (nI (w + p))).1 12 0 20 = nI (w + p) := pI_at _ _ _ _ _
    have cm1 : CM zm A V (sh_pI G 12 0 20 (nI (w + p))) := CM_to (fun j => pI_ne (by omega)) cm
    obtain ⟨G2, e1, e2, e3, e4, e5⟩ := M_emit (o := A zm) (v := 0) (by omega) cm1
    have cm2 : CM (zm + 1) A V G2 := CM_cg (fun k hk => by
      by_cases c : k = zm
      · rw [c, up0_y, up0_y]; exact ⟨rfl, vz⟩
      · rw [up0_n c, up0_n c]; exact ⟨rfl, rfl⟩) e2
    have wt2 : WT (w + p) W G2 := ⟨(e4 0 20).trans (pI_at _ _ _ _ _), fun i hi => by
      have := wt.2 i (by omega)
      exact ⟨(e5 i).trans ((pI_ne (by omega)).trans this.1), this.2⟩⟩
    obtain ⟨G', r1, r2, r3, r4, r5, r6⟩ := ih u (zm + 1) G2 (by omega) (by omega) (by omega) cm2 (by rw [show zm + 1 + p = zm + (p + 1) by omega]; exact cv) wt2 (fun j hj => by
      have := lg (j + 1) (by omega)
      rw [show w + (p + 1) - 1 - (j + 1) = w + p - 1 - j by omega, show zm + (j + 1) = zm + 1 + j by omega] at this
      exact this)
    refine ⟨G', ?_, by rw [show zm + (p + 1) = zm + 1 + p by omega]; exact r2, r3, r4.tr (e3.tr ((f12.rf G).pI (by omega)).E), fun j hj => (r5 j hj).trans ((e4 0 j).trans (pI_ne (by omega))), fun j => (r6 j).trans ((e5 j).trans (pI_ne (by omega)))⟩
    show f_M_reduce_c0 NF (f_M_reduce_l0 NF u) (nI ls) G = _
    unfold f_M_reduce_c0
    have i5 : ai_in (nI (w + p)) 500 := q_in (by omega) (by omega)
    rw [wt.1, if_pos (show (0 : Int32) < nI (w + (p + 1)) from nI_lt (a := 0) (by omega) (by omega)), show nI (w + (p + 1)) - 1 = nI (w + p) by rw [show w + (p + 1) = w + p + 1 by omega, nI_pred], if_pos i5, q_cl (by omega), wa.1, M_rank (by omega), Option.bind_some, if_neg (nI_nlt (by rw [l1]; exact l2) (by have := rk_le (W (w + p)); omega)), sh_let, g1, if_pos i5, q_cl (by omega), show (sh_pI G 12 0 20 (nI (w + p))).1 13 49 (w + p) = nI (A zm) from (pI_ne (by omega)).trans (wa.1.trans (by rw [l1])), show f_M_emit (nI (A zm)) 0 (sh_pI G 12 0 20 (nI (w + p))) = some G2 from e1, Option.bind_some]
    exact r1
