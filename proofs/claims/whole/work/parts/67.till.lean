/-! THE CLASS'S TILLS, and what it pays -/
def TL (H : sh_H) (nk : Nat) (w b1 b2 : Nat → Nat) : Prop := H.1 6 28 3 = nI nk ∧ ∀ k, k < nk → H.1 13 36 (k * 3) = nI (w k) ∧ H.1 13 36 (k * 3 + 1) = nI (b1 k) ∧ H.1 13 36 (k * 3 + 2) = nI (b2 k)
def wth (f : Nat → Int32) (k : Nat) : Nat := nv f (20 + 3 * k)
theorem rC_TL {l : Nat} {H h : sh_H} {nk : Nat} {w b1 b2 : Nat → Nat} (hl : l = 34 ∨ l = 35) (x : rC l H h) (t : TL h nk w b1 b2) : TL H nk w b1 b2 := by
  refine ⟨by rw [x.1 _ _ _ (by omega)]; exact t.1, fun k hk => ?_⟩
  rw [x.1 _ _ _ (by omega), x.1 _ _ _ (by omega), x.1 _ _ _ (by omega)]
  exact t.2 k hk
theorem l34 : sh_l13 34 = 4001 ∧ sh_l13 35 = 4001 := by decide
theorem C_look {c : Nat} {hc hm : sh_H} (h : St c hc hm) (hc5 : c ≤ 512) {nk p g : Nat} (k2 : mS hm 0 = nI nk) (k1 : nk ≤ 6) (hp : p < 5) : ∃ E, f_Coins_look NF hc.2.2.1 0 (nI p) (nI g) hc = some E ∧ sC E hc ∧ TL E nk (wth (mS hm)) (al (mS hm) p) (fun _ => g) := by
  have r36 : sh_rc 28 = 36 := rfl
  have w3 : sh_w 28 = 3 := rfl
  have lp : ∀ (q k u : Nat) (H : sh_H), k + q = nk → q < u → sC H hc → TL H k (wth (mS hm)) (al (mS hm) p) (fun _ => g) → ∃ E, f_Coins_look_l10 NF u hc.2.2.1 0 (nI p) (nI g) (nI k) H = some E ∧ sC E hc ∧ TL E nk (wth (mS hm)) (al (mS hm) p) (fun _ => g) := by
    intro q
    induction q with
    | zero =>
      intro k u H e1 e2 x t
      obtain ⟨u, rfl⟩ : ∃ m, u = m + 1 := ⟨u - 1, by omega⟩
      obtain rfl : k = nk := by omega
      have hH := St_sC x h
      have tH : H.2.2.1 = hc.2.2.1 := x.tx
      have z0 : H.1 6 (7 * hc.2.2.1 + 0) 3 = nI k := by rw [← tH]; exact (St_z hH 0 (by omega)).trans k2
      refine ⟨H, ?_, x, t⟩
      show f_Coins_look_c10 NF (f_Coins_look_l10 NF u) hc.2.2.1 0 (nI p) (nI g) (nI k) H = _
      unfold f_Coins_look_c10 f_Rows_size
      rw [z0, Option.bind_some, if_neg (nI_nlt (by omega) (by omega))]
    | succ q ih =>
      intro k u H e1 e2 x t
      obtain ⟨u, rfl⟩ : ∃ m, u = m + 1 := ⟨u - 1, by omega⟩
      have hH := St_sC x h
      have tH : H.2.2.1 = hc.2.2.1 := x.tx
      have z0 : H.1 6 (7 * hc.2.2.1 + 0) 3 = nI nk := by rw [← tH]; exact (St_z hH 0 (by omega)).trans k2
      obtain ⟨⟨t1, -, -⟩, -, -⟩ := T_kind h k2 k1 (k := k) (by omega)
      show ∃ E, f_Coins_look_c10 NF (f_Coins_look_l10 NF u) hc.2.2.1 0 (nI p) (nI g) (nI k) H = some E ∧ _
      unfold f_Coins_look_c10 f_Rows_size
      rw [z0, Option.bind_some, if_pos (nI_lt (by omega) (by omega)), rows_add hH.1 (by omega) t.1 (show k < 6 by omega), sh_b2_some, r36, w3]
      have pt : ∀ (q : Nat) (F : Nat → Int32) (v : Int32), q < 3 → f_Rows_put 28 (nI k) (nI q) v (hR H 28 (k + 1) F) = some (hR H 28 (k + 1) (up1 F (k * 3 + q) v)) := fun q F v hq => hR_put hH.1 (by omega) (show k + 1 ≤ 6 by omega) (by omega) (show q < 3 from hq)
      have p0 : ∀ F v, f_Rows_put 28 (nI k) 0 v (hR H 28 (k + 1) F) = _ := fun F v => pt 0 F v (by omega)
      have p1 : ∀ F v, f_Rows_put 28 (nI k) 1 v (hR H 28 (k + 1) F) = _ := fun F v => pt 1 F v (by omega)
      have p2 : ∀ F v, f_Rows_put 28 (nI k) 2 v (hR H 28 (k + 1) F) = _ := fun F v => pt 2 F v (by omega)
      have xx : ∀ F, sC (hR H 28 (k + 1) F) hc := fun F => hR_sC (by omega) (by rw [r36]; omega) x
      have gw : ∀ F, f_Rows_get (7 * hc.2.2.1 + 0) (nI k) 0 (hR H 28 (k + 1) F) = some (nI (wth (mS hm) k)) := fun F => by
        have a := tx_get (St_sC (xx F) h) (j := 0) (r := k) (q := 0) (by omega) k2 (by omega) (by omega) (by omega) (by decide) (by decide)
        rw [(xx F).tx] at a
        refine Eq.trans a ?_
        show some (mS hm (20 + 3 * k)) = _
        rw [t1]
        rfl
      have ga : ∀ F, f_Pieces_all NF 0 (nI p) (nI k) (hR H 28 (k + 1) F) = some (nI (al (mS hm) p k)) := fun F => C_all' (St_sC (xx F) h) hc5 hp (by omega)
      simp only [gw, p0, p1, p2, ga, Option.bind_some, nI_1]
      refine ih (k + 1) u _ (by omega) (by omega) (xx _) ⟨hR_sz _ _ _ _, fun r hr => ?_⟩
      have at36 : ∀ F j, (hR H 28 (k + 1) F).1 13 36 j = F j := fun F j => hR_at H 28 (k + 1) F j
      simp only [at36]
      by_cases e : r = k
      · subst e
        simp (disch := omega) only [up1_eq, up1_ne]
        exact ⟨trivial, trivial, trivial⟩
      · simp (disch := omega) only [up1_ne, zrow_ne]
        exact t.2 r (by omega)
  unfold f_Coins_look f_Rows_clear
  rw [sh_let, Option.bind_some]
  exact lp nk 0 NF _ (by omega) (NF_gt (by omega)) (sC.pI (by unfold scC; omega) (sC.rf hc)) ⟨pI_at _ _ _ _ _, fun k hk => by omega⟩
theorem TL_get {H : sh_H} {nk : Nat} {w b1 b2 : Nat → Nat} (hC : RC H) (t : TL H nk w b1 b2) (k1 : nk ≤ 6) {k : Nat} (hk : k < nk) : f_Rows_get 28 (nI k) 0 H = some (nI (w k)) ∧ f_Rows_get 28 (nI k) 1 H = some (nI (b1 k)) ∧ f_Rows_get 28 (nI k) 2 H = some (nI (b2 k)) := by
  have g : ∀ q, q < 3 → f_Rows_get 28 (nI k) (nI q) H = some (H.1 13 36 (k * 3 + q)) := fun q hq => by
    have a := rows_get (r := 28) (s := nk) (a := k) (b := q) hC (by omega) t.1 (show nk ≤ 6 from k1) (by omega) (by omega)
    rw [if_pos ⟨hk, show q < 3 from hq⟩] at a
    exact a
  obtain ⟨t1, t2, t3⟩ := t.2 k hk
  exact ⟨(g 0 (by omega)).trans (congrArg some t1), (g 1 (by omega)).trans (congrArg some t2), (g 2 (by omega)).trans (congrArg some t3)⟩
/-- column 1 or 2 -/
def bcol (col : Nat) (b1 b2 : Nat → Nat) : Nat → Nat := if col = 1 then b1 else b2
theorem TL_col {H : sh_H} {nk : Nat} {w b1 b2 : Nat → Nat} (hC : RC H) (t : TL H nk w b1 b2) (k1 : nk ≤ 6) {k col : Nat} (hk : k < nk) (hcol : col = 1 ∨ col = 2) : f_Rows_get 28 (nI k) (nI col) H = some (nI (bcol col b1 b2 k)) := by
  obtain ⟨-, g1, g2⟩ := TL_get hC t k1 hk
  rcases hcol with rfl | rfl
  · exact g1
  · exact g2
theorem ad_far {w b R I v : Nat} {F : Nat → Nat} (hw : 1 ≤ w) (hF : ∀ v, F v ≤ I) (hR : ∀ r, R < r → r ≤ v → F r = I) (h : R + b * w < v) : ad w b F v = I := by
  obtain ⟨n, h1, h2, h3⟩ := ad_at (w := w) (b := b) (v := v) (F := F) hw
  have m : n * w ≤ b * w := Nat.mul_le_mul_right w h1
  have := hR (v - n * w) (by omega) (by omega)
  have := ad_I (w := w) (b := b) (v := v) hw hF
  omega
theorem C_fill {l : Nat} (hl : l = 34 ∨ l = 35) {nk S lo col : Nat} {w b1 b2 : Nat → Nat} (k1 : nk ≤ 6) (hS : S ≤ 4000) (hlo : lo ≤ nk) (hcol : col = 1 ∨ col = 2) (hw : ∀ k, k < nk → 1 ≤ w k ∧ w k ≤ 500) (hb : ∀ k, k < nk → bcol col b1 b2 k < 2 ^ 30) (h : sh_H) (hC : RC h) (t : TL h nk w b1 b2) : ∃ E, f_Coins_fill NF l (nI col) (nI lo) (nI S) h = some E ∧ rC l E h ∧ AR E l S (clF w (bcol col b1 b2) (nk - lo) lo (fz0 1048576)) := by
  have hl4 : sh_l13 l = 4001 := by rcases hl with rfl | rfl; exact l34.1; exact l34.2
  have lp : ∀ (q k u R : Nat) (F : Nat → Nat) (H : sh_H), k + q = nk → q < u → R ≤ S → (∀ v, F v ≤ 1048576) → (∀ r, R < r → r ≤ S → F r = 1048576) → rC l H h → AR H l S F → ∃ E, f_Coins_fill_l16 NF u l (nI col) (nI S) (nI R) (nI k) H = some E ∧ rC l E h ∧ AR E l S (clF w (bcol col b1 b2) q k F) := by
    intro q
    induction q with
    | zero =>
      intro k u R F H e1 e2 hR hF hf x hA
      obtain ⟨u, rfl⟩ : ∃ m, u = m + 1 := ⟨u - 1, by omega⟩
      obtain rfl : k = nk := by omega
      refine ⟨H, ?_, x, hA⟩
      show f_Coins_fill_c16 NF (f_Coins_fill_l16 NF u) l (nI col) (nI S) (nI R) (nI k) H = _
      unfold f_Coins_fill_c16 f_Rows_size
      rw [(rC_TL hl x t).1, Option.bind_some, if_neg (nI_nlt (by omega) (by omega))]
    | succ q ih =>
      intro k u R F H e1 e2 hR hF hf x hA
      obtain ⟨u, rfl⟩ : ∃ m, u = m + 1 := ⟨u - 1, by omega⟩
      have tH := rC_TL hl x t
      have hCH : RC H := RC_of hC (fun r j hr hj => x.1 6 r j (by omega))
      obtain ⟨w1, w2⟩ := hw k (by omega)
      have bk := hb k (by omega)
      show ∃ E, f_Coins_fill_c16 NF (f_Coins_fill_l16 NF u) l (nI col) (nI S) (nI R) (nI k) H = some E ∧ rC l E h ∧ AR E l S (clF w (bcol col b1 b2) q (k + 1) (ad (w k) (bcol col b1 b2 k) F))
      unfold f_Coins_fill_c16 f_Rows_size f_Coins_fill_b83 f_Coins_fill_b108
      rw [tH.1, Option.bind_some, if_pos (nI_lt (by omega) (by omega)), (TL_get hCH tH k1 (k := k) (by omega)).1, Option.bind_some, TL_col hCH tH k1 (by omega) hcol, Option.bind_some, if_neg (show ¬ nI (w k) < 1 from nI_nlt (b := 1) (a := w k) (by omega) (by omega)), if_pos (nI_ne0 (by omega) (by omega)), pk_div (by omega) (by omega) (by omega), nI_1]
      generalize bcol col b1 b2 k = B at *
      have dv : S / w k ≤ S := Nat.div_le_self _ _
      by_cases c : B < S / w k
      · have m1 : B * w k ≤ S := by
          have := (Nat.le_div_iff_mul_le w1).mp (Nat.le_of_lt c)
          omega
        have B4 : B ≤ 4000 := Nat.le_trans (Nat.le_of_lt c) (Nat.le_trans (Nat.div_le_self _ _) hS)
        rw [if_pos (nI_lt c (by omega)), q_mul, nI_add, Math_min (by omega) (by omega), Option.bind_some]
        obtain ⟨E, E1, E2, E3, E4⟩ := C_addLumps hl4 (w := w k) (b := B) (R := min S (R + B * w k)) (by omega) w1 w2 B4 hF H (fun j hj => hA j (by omega))
        rw [E1, Option.bind_some]
        refine ih (k + 1) u (min S (R + B * w k)) _ E (by omega) (by omega) (by omega) (fun v => ad_I w1 hF) (fun r hr hr2 => ?_) (E2.tr x) (fun j hj => ?_)
        · exact ad_far w1 hF (fun r' h1 h2 => hf r' h1 (by omega)) (by omega)
        · by_cases e : j ≤ min S (R + B * w k)
          · exact E3 j e
          · rw [E4 j (by omega), hA j hj, hf j (by omega) hj, ad_far w1 hF (fun r' h1 h2 => hf r' h1 (by omega)) (by omega)]
      · rw [if_neg (nI_nlt (by omega) (by omega))]
        obtain ⟨E, E1, E2, E3⟩ := C_addEndless hl4 hS w1 w2 (b := B) (by omega) hF H hA
        rw [E1, Option.bind_some]
        exact ih (k + 1) u S _ E (by omega) (by omega) (Nat.le_refl _) (fun v => ad_I w1 hF) (fun r hr hr2 => by omega) (E2.tr x) E3
  obtain ⟨H, H1, H2, H3⟩ := C_clear hl4 hS h
  unfold f_Coins_fill
  rw [H1, Option.bind_some, Math_max0 (by omega), Option.bind_some]
  exact lp (nk - lo) lo NF 0 (fz0 1048576) H (by omega) (NF_gt (by omega)) (Nat.zero_le _) (fun v => by unfold fz0; split <;> omega) (fun r hr _ => by unfold fz0; rw [if_neg (by omega)]) H2 H3
/-- the most of a kind in a fewest way -/
def tkr (g : Nat → Nat) (fw : Nat) : Nat → Nat
  | 0 => 0
  | n + 1 => if g (n + 1) = fw then n + 1 else tkr g fw n
theorem tkr_le {g : Nat → Nat} {fw : Nat} : ∀ n, tkr g fw n ≤ n := by
  intro n
  induction n with
  | zero => exact Nat.le_refl _
  | succ n ih => unfold tkr; split <;> omega
theorem tkr_eq {g : Nat → Nat} {fw : Nat} : ∀ {n m : Nat}, m ≤ n → g m = fw → g (tkr g fw n) = fw := by
  intro n
  induction n with
  | zero => intro m h1 h2; obtain rfl : m = 0 := by omega
            exact h2
  | succ n ih =>
    intro m h1 h2
    unfold tkr
    by_cases c : g (n + 1) = fw
    · rw [if_pos c]; exact c
    · rw [if_neg c]
      have : m ≠ n + 1 := fun e => c (by rw [← e]; exact h2)
      exact ih (by omega) h2
theorem tkr_same {g g' : Nat → Nat} {fw fw' : Nat} : ∀ {n : Nat}, (∀ m, m ≤ n → (g m = fw ↔ g' m = fw')) → tkr g fw n = tkr g' fw' n := by
  intro n
  induction n with
  | zero => intro _; rfl
  | succ n ih =>
    intro h
    unfold tkr
    by_cases c : g (n + 1) = fw
    · rw [if_pos c, if_pos ((h _ (Nat.le_refl _)).mp c)]
    · rw [if_neg c, if_neg (fun z => c ((h _ (Nat.le_refl _)).mpr z))]
      exact ih (fun m hm => h m (by omega))
theorem C_mostOf {l : Nat} (hl : l = 34 ∨ l = 35) {nk col i left fw : Nat} {w b1 b2 F : Nat → Nat} (k1 : nk ≤ 6) (hi : i < nk) (hcol : col = 1 ∨ col = 2) (hw : 1 ≤ w i ∧ w i ≤ 500) (hb : bcol col b1 b2 i < 2 ^ 30) (hleft : left ≤ 4000) (hF : ∀ v, F v ≤ 1048576) (hfw : fw ≤ 1048576) (H : sh_H) (hC : RC H) (t : TL H nk w b1 b2) (hA : AR H l left F) : f_Coins_mostOf NF l (nI col) (nI i) (nI left) (nI fw) H = some (nI (tkr (fun n => F (left - n * w i) + n) fw (min (bcol col b1 b2 i) (left / w i)))) := by
  have hl4 : sh_l13 l = 4001 := by rcases hl with rfl | rfl; exact l34.1; exact l34.2
  obtain ⟨w1, w2⟩ := hw
  have lp : ∀ (n u : Nat), n ≤ left / w i → n < u → f_Coins_mostOf_l38 NF u l (nI left) (nI fw) (nI (w i)) (nI n) H = some (nI (tkr (fun n => F (left - n * w i) + n) fw n)) := by
    intro n
    induction n with
    | zero =>
      intro u e1 e2
      obtain ⟨u, rfl⟩ : ∃ m, u = m + 1 := ⟨u - 1, by omega⟩
      show f_Coins_mostOf_c38 NF (f_Coins_mostOf_l38 NF u) l (nI left) (nI fw) (nI (w i)) (nI 0) H = _
      unfold f_Coins_mostOf_c38
      rw [if_neg (show ¬ (0 : Int32) < nI 0 by decide)]
      rfl
    | succ n ih =>
      intro u e1 e2
      obtain ⟨u, rfl⟩ : ∃ m, u = m + 1 := ⟨u - 1, by omega⟩
      show f_Coins_mostOf_c38 NF (f_Coins_mostOf_l38 NF u) l (nI left) (nI fw) (nI (w i)) (nI (n + 1)) H = _
      unfold f_Coins_mostOf_c38 tkr
      have m1 : (n + 1) * w i ≤ left := (Nat.le_div_iff_mul_le w1).mp e1
      have n4 : n + 1 ≤ left := Nat.le_trans e1 (Nat.div_le_self _ _)
      have f1 := hF (left - (n + 1) * w i)
      rw [if_pos (show (0 : Int32) < nI (n + 1) from nI_lt (a := 0) (by omega) (by omega)), q_mul, q_sub m1, C_at hl4 (by omega), Option.bind_some, hA _ (by omega), nI_add, pk_m1]
      by_cases c : F (left - (n + 1) * w i) + (n + 1) = fw
      · rw [if_pos ((nI_eq (by omega) (by omega)).mpr c), if_pos c]
      · rw [if_neg (fun z => c ((nI_eq (by omega) (by omega)).mp z)), if_neg c]
        exact ih u (by omega) (by omega)
  have dv : left / w i ≤ left := Nat.div_le_self _ _
  unfold f_Coins_mostOf
  rw [(TL_get hC t k1 hi).1, Option.bind_some, if_neg (show ¬ nI (w i) < 1 from nI_nlt (b := 1) (a := w i) (by omega) (by omega)), TL_col hC t k1 hi hcol, Option.bind_some, if_pos (nI_ne0 (by omega) (by omega)), pk_div (by omega) (by omega) (by omega), Math_min (by omega) (by omega), Option.bind_some]
  exact lp _ NF (by omega) (NF_gt (by omega))
/-- the fewest of the kinds from lo on -/
def gf (w b : Nat → Nat) (I nk lo : Nat) : Nat → Nat := mdF w b (nk - lo) lo (fz0 I)
/-- of how many of kind i + q - 1 a sum is paid -/
def pof (w b : Nat → Nat) (I nk : Nat) : Nat → Nat → Nat → Nat → Nat
  | 0, _, _, t => t
  | q + 1, i, left, _ => pof w b I nk q (i + 1) (left - tkr (fun n => gf w b I nk (i + 1) (left - n * w i) + n) (gf w b I nk i left) (min (b i) (left / w i)) * w i) (tkr (fun n => gf w b I nk (i + 1) (left - n * w i) + n) (gf w b I nk i left) (min (b i) (left / w i)))
theorem gf_s {w b : Nat → Nat} {I nk lo : Nat} (h : lo < nk) : gf w b I nk lo = ad (w lo) (b lo) (gf w b I nk (lo + 1)) := by
  unfold gf
  rw [show nk - lo = (nk - (lo + 1)) + 1 by omega]
  rfl
theorem tkr_ok {w b : Nat → Nat} {I nk i left : Nat} (hi : i < nk) (hw : 1 ≤ w i) : tkr (fun n => gf w b I nk (i + 1) (left - n * w i) + n) (gf w b I nk i left) (min (b i) (left / w i)) ≤ min (b i) (left / w i) ∧ gf w b I nk (i + 1) (left - tkr (fun n => gf w b I nk (i + 1) (left - n * w i) + n) (gf w b I nk i left) (min (b i) (left / w i)) * w i) + tkr (fun n => gf w b I nk (i + 1) (left - n * w i) + n) (gf w b I nk i left) (min (b i) (left / w i)) = gf w b I nk i left := by
  refine ⟨tkr_le _, ?_⟩
  obtain ⟨m, m1, m2, m3⟩ := ad_at (w := w i) (b := b i) (v := left) (F := gf w b I nk (i + 1)) hw
  rw [← gf_s hi] at m3
  exact tkr_eq (g := fun n => gf w b I nk (i + 1) (left - n * w i) + n) (m := m) (by have := (Nat.le_div_iff_mul_le hw).mpr m2; omega) m3.symm
theorem C_ofKind {l : Nat} (hl : l = 34 ∨ l = 35) {nk col sum kind : Nat} {w b1 b2 : Nat → Nat} (k1 : nk ≤ 6) (hk : kind < nk) (hS : sum ≤ 4000) (hcol : col = 1 ∨ col = 2) (hw : ∀ k, k < nk → 1 ≤ w k ∧ w k ≤ 500) (hb : ∀ k, k < nk → bcol col b1 b2 k < 2 ^ 30) (h : sh_H) (hC : RC h) (t : TL h nk w b1 b2) : ∃ E, f_Coins_ofKind NF l (nI col) (nI sum) (nI kind) h = some (nI (pof w (bcol col b1 b2) 1048576 nk (kind + 1) 0 sum 0), E) ∧ rC l E h := by
  have hl4 : sh_l13 l = 4001 := by rcases hl with rfl | rfl; exact l34.1; exact l34.2
  have gI : ∀ lo, lo ≤ nk → ∀ v, gf w (bcol col b1 b2) 1048576 nk lo v ≤ 1048576 := fun lo h1 v => mdF_I (fun k h2 h3 => (hw k (by omega)).1) v
  have lp : ∀ (q i u left tk : Nat) (H : sh_H), i + q = kind + 1 → q < u → left ≤ 4000 → rC l H h → ∃ E, f_Coins_ofKind_l24 NF u l (nI col) (nI kind) (nI left) (nI (gf w (bcol col b1 b2) 1048576 nk i left)) (nI tk) (nI i) H = some (nI (pof w (bcol col b1 b2) 1048576 nk q i left tk), E) ∧ rC l E h := by
    intro q
    induction q with
    | zero =>
      intro i u left tk H e1 e2 e3 x
      obtain ⟨u, rfl⟩ : ∃ m, u = m + 1 := ⟨u - 1, by omega⟩
      refine ⟨H, ?_, x⟩
      show f_Coins_ofKind_c24 NF (f_Coins_ofKind_l24 NF u) l (nI col) (nI kind) (nI left) _ (nI tk) (nI i) H = _
      unfold f_Coins_ofKind_c24
      rw [if_pos (nI_lt (by omega) (by omega))]
      rfl
    | succ q ih =>
      intro i u left tk H e1 e2 e3 x
      obtain ⟨u, rfl⟩ : ∃ m, u = m + 1 := ⟨u - 1, by omega⟩
      have tH := rC_TL hl x t
      have hCH : RC H := RC_of hC (fun r j hr hj => x.1 6 r j (by omega))
      obtain ⟨w1, w2⟩ := hw i (by omega)
      show ∃ E, f_Coins_ofKind_c24 NF (f_Coins_ofKind_l24 NF u) l (nI col) (nI kind) (nI left) (nI (gf w (bcol col b1 b2) 1048576 nk i left)) (nI tk) (nI i) H = some (nI (pof w (bcol col b1 b2) 1048576 nk q (i + 1) _ _), E) ∧ _
      unfold f_Coins_ofKind_c24 f_Rows_size
      obtain ⟨E, E1, E2, E3⟩ := C_fill hl k1 e3 (lo := i + 1) (by omega) hcol hw hb H hCH tH
      rw [clF_md (fun k h1 h2 => (hw k (by omega)).1)] at E3
      have tE := rC_TL hl E2 tH
      have hCE : RC E := RC_of hCH (fun r j hr hj => E2.1 6 r j (by omega))
      obtain ⟨p1, p2⟩ := tkr_ok (w := w) (b := bcol col b1 b2) (I := 1048576) (nk := nk) (i := i) (left := left) (by omega) w1
      have gi := gI i (by omega) left
      rw [if_neg (nI_nlt (by omega) (by omega)), tH.1, Option.bind_some, if_pos (nI_lt (by omega) (by omega)), nI_1, E1, Option.bind_some, C_mostOf (F := gf w (bcol col b1 b2) 1048576 nk (i + 1)) hl k1 (by omega) hcol ⟨w1, w2⟩ (hb i (by omega)) e3 (gI (i + 1) (by omega)) gi E hCE tE E3, Option.bind_some, (TL_get hCE tE k1 (k := i) (by omega)).1, Option.bind_some]
      generalize tkr (fun n => gf w (bcol col b1 b2) 1048576 nk (i + 1) (left - n * w i) + n) (gf w (bcol col b1 b2) 1048576 nk i left) (min (bcol col b1 b2 i) (left / w i)) = T at *
      have m1 : T * w i ≤ left := (Nat.le_div_iff_mul_le w1).mp (by omega)
      rw [q_mul, q_sub m1, q_sub (by omega), show gf w (bcol col b1 b2) 1048576 nk i left - T = gf w (bcol col b1 b2) 1048576 nk (i + 1) (left - T * w i) by omega]
      exact ih (i + 1) u (left - T * w i) T E (by omega) (by omega) (by omega) (E2.tr x)
  obtain ⟨E, E1, E2, E3⟩ := C_fill hl k1 hS (lo := 0) (Nat.zero_le _) hcol hw hb h hC t
  rw [clF_md (fun k h1 h2 => (hw k (by omega)).1)] at E3
  unfold f_Coins_ofKind
  rw [show f_Coins_fill NF l (nI col) 0 (nI sum) h = _ from E1, Option.bind_some, C_at hl4 hS, Option.bind_some, E3 sum (Nat.le_refl _)]
  exact lp (kind + 1) 0 NF sum 0 E (by omega) (NF_gt (by omega)) hS E2
