/-! LEAST COIN: the model; PAIRS: least, order, price -/
def gM (h g : sh_H) : Prop := (∀ c i j, ¬ (c = 13 ∧ (i = 50 ∨ i = 51)) → ¬ (c = 12 ∧ i = 0 ∧ j = 37) → h.1 c i j = g.1 c i j) ∧ h.2 = g.2
theorem gM.rf (h : sh_H) : gM h h := ⟨fun _ _ _ _ _ => rfl, rfl⟩
theorem gM.tr {a b c : sh_H} (x : gM a b) (y : gM b c) : gM a c := ⟨fun c i j h h2 => (x.1 c i j h h2).trans (y.1 c i j h h2), x.2.trans y.2⟩
theorem gM.s {h g : sh_H} (x : gM h g) : sM h g := ⟨fun c i j n => x.1 c i j (fun q => n (by unfold scM; omega)) (fun q => n (by unfold scM; omega)), fun _ _ _ _ => by rw [x.2], by rw [x.2]⟩
theorem fM.g {h g : sh_H} (x : fM h g) : gM h g := ⟨fun c i j n _ => x.1 c i j (fun q => n (by unfold fcM at q; omega)), x.2⟩
theorem gM.pI {h g : sh_H} {v : Int32} (x : gM h g) : gM (sh_pI h 12 0 37 v) g := by
  refine ⟨fun c i j n n2 => ?_, x.2⟩
  rw [pI_ne n2]
  exact x.1 c i j n n2
theorem M_power {b n : Nat} (hn : n ≤ 12) (h : sh_H) : f_M_power NF (lN b) (nI n) h = some (lN (b ^ n)) := by
  have lp : ∀ (q i u : Nat), i + q = n → q < u → f_M_power_l5 NF (f_M_power_b21 NF) u (lN b) (nI n) (lN (b ^ i)) (nI i) h = some (lN (b ^ n)) := by
    intro q
    induction q with
    | zero =>
      intro i u e1 e2
      obtain ⟨u, rfl⟩ : ∃ m, u = m + 1 := ⟨u - 1, by omega⟩
      obtain rfl : i = n := by omega
      show f_M_power_c5 NF (f_M_power_b21 NF) (f_M_power_l5 NF (f_M_power_b21 NF) u) (lN b) (nI i) (lN (b ^ i)) (nI i) h = _
      unfold f_M_power_c5 f_M_power_b21
      rw [if_neg (nI_nlt (by omega) (by omega))]
    | succ q ih =>
      intro i u e1 e2
      obtain ⟨u, rfl⟩ : ∃ m, u = m + 1 := ⟨u - 1, by omega⟩
      show f_M_power_c5 NF (f_M_power_b21 NF) (f_M_power_l5 NF (f_M_power_b21 NF) u) (lN b) (nI n) (lN (b ^ i)) (nI i) h = _
      unfold f_M_power_c5
      rw [if_pos (nI_lt (by omega) (by omega)), lN_mul, nI_1, ← Nat.pow_succ]
      exact ih (i + 1) u (by omega) (by omega)
  unfold f_M_power
  exact lp n 0 NF (by omega) (NF_gt (by omega))
/-- the taken of one order, over all lots -/
theorem M_least1 {c : Nat} {hc hm : sh_H} (h : St c hc hm) {ni p : Nat} (i2 : mS hm 1 = nI ni) (i1 : ni ≤ 4) (hp : p < ni + 1) (p1 : 1 ≤ p) {w d q x W : Nat} (hw : w ≤ 9999) (hd : d ≤ 3) (hq : q + x ≤ 60) (C : Nat → Int64) (G : sh_H) (y : sM G hm) (hC : ∀ s, s < 61 → G.2.1 14 9 s = C s) (K : Int32 → Int32 → Int32 → Int32 → Int64 → Int32 → Int32 → Int32 → Int64 → Int32 → Int64 → sh_H → Option (Int64 × sh_H)) (l2 l8 l11 : Int32) (l13 : Int64) : ∀ (n j u : Nat) (a : Int64), j + n = d + 1 → n < u → f_M_leastOf_l174 NF K u (nI p) l2 (nI q) (nI d) (lN W) l8 (nI w) l11 l13 (nI x) a (nI j) G = K (nI p) l2 (nI q) (nI d) (lN W) l8 (nI w) l11 l13 (nI x) (a + tl (wX (mS hm) p) w W C (q + x) n j) G := by
  intro n
  induction n with
  | zero =>
    intro j u a e1 e2
    obtain ⟨u, rfl⟩ : ∃ m, u = m + 1 := ⟨u - 1, by omega⟩
    show f_M_leastOf_c174 NF K (f_M_leastOf_l174 NF K u) (nI p) l2 (nI q) (nI d) (lN W) l8 (nI w) l11 l13 (nI x) a (nI j) G = K (nI p) l2 (nI q) (nI d) (lN W) l8 (nI w) l11 l13 (nI x) (a + 0) G
    unfold f_M_leastOf_c174
    rw [if_pos (nI_lt (by omega) (by omega)), Int64.add_zero]
  | succ n ih =>
    intro j u a e1 e2
    obtain ⟨u, rfl⟩ : ∃ m, u = m + 1 := ⟨u - 1, by omega⟩
    show f_M_leastOf_c174 NF K (f_M_leastOf_l174 NF K u) (nI p) l2 (nI q) (nI d) (lN W) l8 (nI w) l11 l13 (nI x) a (nI j) G = K (nI p) l2 (nI q) (nI d) (lN W) l8 (nI w) l11 l13 (nI x) (a + ((lN ((w + j - (q + x)) * wX (mS hm) p * W) + C (q + x - (w + j))) + tl (wX (mS hm) p) w W C (q + x) n (j + 1))) G
    unfold f_M_leastOf_c174 f_M_leastOf_b232
    obtain ⟨-, x9, -⟩ := C_harmOf h i2 i1 hp p1
    rw [if_neg (nI_nlt (by omega) (by omega)), nI_add, q_ss, nI_1]
    by_cases e : q + x < w + j
    · have i0 : ai_in (0 : Int32) 61 := q_in (k := 0) (n := 61) (by omega) (by omega)
      have c0 : G.2.1 14 9 (0 : Int32).toNatClampNeg = C 0 := hC 0 (by omega)
      rw [if_pos (pk_sneg (by omega) e), M_harm h y i2 i1 hp p1, Option.bind_some, if_pos i0, c0, Int32.neg_sub, q_sub (by omega), nI_l (by omega), nI_l (by omega), lN_mul, lN_mul, show q + x - (w + j) = 0 by omega, ih (j + 1) u _ (by omega) (by omega), Int64.add_assoc]
    · have ci : G.2.1 14 9 (nI (q + x - (w + j))).toNatClampNeg = C (q + x - (w + j)) := by rw [q_cl (by omega)]; exact hC _ (by omega)
      rw [q_sub (by omega), if_neg (nI_pos (by omega)), if_pos (q_in (by omega) (by omega)), ci, show w + j - (q + x) = 0 by omega, Nat.zero_mul, Nat.zero_mul, show lN 0 = 0 from rfl, Int64.zero_add, ih (j + 1) u _ (by omega) (by omega), Int64.add_assoc]
theorem M_leastOf {c : Nat} {hc hm : sh_H} (h : St c hc hm) {ni nk p k mo q d W : Nat} (k2 : mS hm 0 = nI nk) (k1 : nk ≤ 6) (hk : k < nk) (i2 : mS hm 1 = nI ni) (i1 : ni ≤ 4) (hp : p < ni + 1) (p1 : 1 ≤ p) (hq : q ≤ 60) (hd : d ≤ 3) (C : Nat → Int64) (G : sh_H) (y : sM G hm) (hC : ∀ s, s < 61 → G.2.1 14 9 s = C s) : ∃ E, f_M_leastOf NF (nI p) (nI k) (nI mo) (nI q) (nI d) (lN W) G = some ((stp (mS hm) p k d mo W C q).1, E) ∧ gM E G ∧ E.1 12 0 37 = nI (stp (mS hm) p k d mo W C q).2 := by
  obtain ⟨-, ⟨t1, t2, t2'⟩, ⟨t3, t4⟩⟩ := T_kind h k2 k1 hk
  obtain ⟨s1, s2⟩ := T_safe h i2 i1 hp p1
  have bo := M_boatOf (hm := G) (by rw [show mS G = mS hm from funext y.mS]; exact St_T h) (nI p) (nI mo)
  rw [show mS G = mS hm from funext y.mS] at bo
  obtain ⟨G1, w1, w2⟩ := M_wantedG (St_T h) y (nI p) (nI k) (nI mo)
  have y1 : sM G1 hm := w2.s.tr y
  have w9 := wnt_le (mS hm) (nI p) (nI k) (nI mo)
  have b1 : (20 : Int32) + 3 * nI k + 1 = nI (21 + 3 * k) := by rw [show (20 : Int32) = nI 20 from rfl, show (3 : Int32) = nI 3 from rfl, q_mul, nI_add, nI_1, show 20 + 3 * k + 1 = 21 + 3 * k by omega]
  have b2 : (20 : Int32) + 3 * nI k + 2 = nI (22 + 3 * k) := by rw [show (20 : Int32) = nI 20 from rfl, show (3 : Int32) = nI 3 from rfl, show (2 : Int32) = nI 2 from rfl, q_mul, nI_add, nI_add, show 20 + 3 * k + 2 = 22 + 3 * k by omega]
  have b3 : (40 : Int32) + 2 * (nI p - 1) = nI (38 + 2 * p) := by
    obtain ⟨r, rfl⟩ : ∃ r, p = r + 1 := ⟨p - 1, by omega⟩
    rw [nI_pred, show (40 : Int32) = nI 40 from rfl, show (2 : Int32) = nI 2 from rfl, q_mul, nI_add, show 40 + 2 * r = 38 + 2 * (r + 1) by omega]
  have v1 : G.1 13 46 (21 + 3 * k) = nI (nv (mS hm) (21 + 3 * k)) := (y.mS _).trans t1
  have v3 : G1.1 13 46 (38 + 2 * p) = nI (nv (mS hm) (38 + 2 * p)) := (y1.mS _).trans s1
  have ctH : ∀ H, gM H G1 → (sM H hm ∧ ∀ s, s < 61 → H.2.1 14 9 s = C s) := fun H g => ⟨g.s.tr y1, fun s hs => by rw [g.2, w2.2]; exact hC s hs⟩
  have nxt : ∀ (bo most : Int32) (n x u : Nat) (b v : Int64) (o : Nat) (H : sh_H), o ≤ 60 → H.1 12 0 37 = nI o → f_M_leastOf_b241 NF (f_M_leastOf_l104 NF (f_M_leastOf_b275 NF) u) (nI p) (nI k) (nI q) (nI d) (lN W) bo (nI (wnt (mS hm) (nI p) (nI k) (nI mo))) most b (nI x) v H = if v < b then f_M_leastOf_l104 NF (f_M_leastOf_b275 NF) u (nI p) (nI k) (nI q) (nI d) (lN W) bo (nI (wnt (mS hm) (nI p) (nI k) (nI mo))) most v (nI (x + 1)) (sh_pI H 12 0 37 (nI x)) else f_M_leastOf_l104 NF (f_M_leastOf_b275 NF) u (nI p) (nI k) (nI q) (nI d) (lN W) bo (nI (wnt (mS hm) (nI p) (nI k) (nI mo))) most b (nI (x + 1)) H := by
    intro bo most n x u b v o H ho hs
    unfold f_M_leastOf_b241 f_M_leastOf_b259 f_M_leastOf_b269
    rw [hs, if_neg (nI_pos (by omega)), sh_let, nI_1]
    by_cases l : v < b
    · rw [if_pos ((lg_cmp_lt _ _).mpr l), if_pos l]
    · rw [if_neg (fun z => l ((lg_cmp_lt _ _).mp z)), if_neg l]
  have ord : ∀ (bo most : Int32) (mn : Nat), (∀ x, 1 ≤ x → x ≤ 100 → (most < nI x ↔ mn < x)) → (mn + q ≤ 60 ∨ mn = 0) → (mn = 0 ∨ ∃ b, bt (mS hm) (nI p) (nI mo) = some b ∧ bo = nI b) → ∀ (n x u : Nat) (b : Int64) (o : Nat) (H : sh_H), 1 ≤ x → x + n = mn + 1 → n < u → gM H G1 → H.1 12 0 37 = nI o → o ≤ 60 → ∃ E, f_M_leastOf_l104 NF (f_M_leastOf_b275 NF) u (nI p) (nI k) (nI q) (nI d) (lN W) bo (nI (wnt (mS hm) (nI p) (nI k) (nI mo))) most b (nI x) H = some ((chs (cs2 (mS hm) p k d mo W C q) n x b o).1, E) ∧ gM E G1 ∧ E.1 12 0 37 = nI (chs (cs2 (mS hm) p k d mo W C q) n x b o).2 := by
    intro bo most mn hmo hmn hb n
    induction n with
    | zero =>
      intro x u b o H e1 e2 e3 g ho ho2
      obtain ⟨u, rfl⟩ : ∃ m, u = m + 1 := ⟨u - 1, by omega⟩
      refine ⟨H, ?_, g, ho⟩
      show f_M_leastOf_c104 NF (f_M_leastOf_b275 NF) (f_M_leastOf_l104 NF (f_M_leastOf_b275 NF) u) (nI p) (nI k) (nI q) (nI d) (lN W) bo (nI (wnt (mS hm) (nI p) (nI k) (nI mo))) most b (nI x) H = some (b, H)
      unfold f_M_leastOf_c104 f_M_leastOf_b275
      rw [if_pos ((hmo x e1 (by omega)).mpr (by omega)), if_neg (nI_ne0 (by omega) (by omega))]
    | succ n ih =>
      intro x u b o H e1 e2 e3 g ho ho2
      obtain ⟨u, rfl⟩ : ∃ m, u = m + 1 := ⟨u - 1, by omega⟩
      rcases hb with hb | ⟨bb, hb, rfl⟩
      · omega
      obtain ⟨bl, -, -, -, ⟨c1, c2⟩, -, -⟩ := T_boat h hb
      obtain ⟨yH, cH⟩ := ctH H g
      have b4 : (250 : Int32) + 5 * nI bb + 3 = nI (253 + 5 * bb) := by rw [show (250 : Int32) = nI 250 from rfl, show (5 : Int32) = nI 5 from rfl, show (3 : Int32) = nI 3 from rfl, q_mul, nI_add, nI_add, show 250 + 5 * bb + 3 = 253 + 5 * bb by omega]
      have d1 : H.1 13 46 (nI (253 + 5 * bb)).toNatClampNeg = nI (nv (mS hm) (253 + 5 * bb)) := by rw [q_cl (by omega)]; exact (yH.mS _).trans c1
      have d2 : H.1 13 46 (nI (22 + 3 * k)).toNatClampNeg = nI (nv (mS hm) (22 + 3 * k)) := by rw [q_cl (by omega)]; exact (yH.mS _).trans t3
      have m1 : x * nv (mS hm) (22 + 3 * k) ≤ 60 * 99 := Nat.mul_le_mul (by omega) t4
      show ∃ E, f_M_leastOf_c104 NF (f_M_leastOf_b275 NF) (f_M_leastOf_l104 NF (f_M_leastOf_b275 NF) u) (nI p) (nI k) (nI q) (nI d) (lN W) (nI bb) (nI (wnt (mS hm) (nI p) (nI k) (nI mo))) most b (nI x) H = _ ∧ _
      unfold f_M_leastOf_c104 f_M_leastOf_b116 f_M_leastOf_b169
      rw [if_neg (fun z => by have := (hmo x e1 (by omega)).mp z; omega), if_neg (nI_ne0 (by omega) (by omega)), b4, b2, if_pos (in8 (by omega)), if_pos (in8 (by omega)), d1, d2, nI_1, nI_l (by omega), nI_l (by omega), nI_l (by omega), nI_l (by omega), lN_mul, lN_add, lN_mul, lN_mul, Nat.mul_assoc, show f_M_leastOf_l174 NF _ NF (nI p) (nI k) (nI q) (nI d) (lN W) (nI bb) (nI (wnt (mS hm) (nI p) (nI k) (nI mo))) most b (nI x) _ 0 H = _ from M_least1 h i2 i1 hp p1 w9 hd (show q + x ≤ 60 by omega) C H yH cH _ (nI k) (nI bb) most b (d + 1) 0 NF _ (by omega) (NF_gt (by omega)), nxt (nI bb) most n x u b _ o H ho2 ho]
      have eg : cs2 (mS hm) p k d mo W C q x = lN ((nv (mS hm) (253 + 5 * bb) + x * nv (mS hm) (22 + 3 * k)) * (W * (d + 1))) + tl (wX (mS hm) p) (wnt (mS hm) (nI p) (nI k) (nI mo)) W C (q + x) (d + 1) 0 := by
        unfold cs2
        rw [hb]
        rfl
      rw [← eg]
      by_cases l : cs2 (mS hm) p k d mo W C q x < b
      · rw [if_pos l, chs_lt l]
        exact ih (x + 1) u _ x _ (by omega) (by omega) (by omega) g.pI (pI_at _ _ _ _ _) (by omega)
      · rw [if_neg l, chs_ge l]
        exact ih (x + 1) u b o H (by omega) (by omega) (by omega) g ho ho2
  have fin : ∀ (bo most : Int32) (mn : Nat), (∀ x, 1 ≤ x → x ≤ 100 → (most < nI x ↔ mn < x)) → (mn + q ≤ 60 ∨ mn = 0) → (mn = 0 ∨ ∃ b, bt (mS hm) (nI p) (nI mo) = some b ∧ bo = nI b) → mn = mst (mS hm) p k mo q → ∃ E, f_M_leastOf_b93 NF (nI p) (nI k) (nI q) (nI d) (lN W) bo (nI (wnt (mS hm) (nI p) (nI k) (nI mo))) most G1 = some ((stp (mS hm) p k d mo W C q).1, E) ∧ gM E G ∧ E.1 12 0 37 = nI (stp (mS hm) p k d mo W C q).2 := by
    intro bo most mn h1 h2 h3 h4
    have g0 : gM (sh_pI G1 12 0 37 (-1)) G1 := (gM.rf G1).pI
    obtain ⟨yH, cH⟩ := ctH _ g0
    have g1 : gM (sh_pI (sh_pI G1 12 0 37 (-1)) 12 0 37 (nI 0)) G1 := g0.pI
    obtain ⟨E, E1, E2, E3⟩ := ord bo most mn h1 h2 h3 mn 1 999999 (Bh (mS hm) p k d mo W C q) 0 (sh_pI (sh_pI G1 12 0 37 (-1)) 12 0 37 (nI 0)) (by omega) (by omega) (by omega) g1 (pI_at _ _ _ _ _) (by omega)
    have es : stp (mS hm) p k d mo W C q = chs (cs2 (mS hm) p k d mo W C q) mn 1 (Bh (mS hm) p k d mo W C q) 0 := by unfold stp; rw [h4]
    rw [es]
    refine ⟨E, ?_, E2.tr w2.g, E3⟩
    unfold f_M_leastOf_b93
    rw [sh_let]
    show f_M_leastOf_c104 NF (f_M_leastOf_b275 NF) (f_M_leastOf_l104 NF (f_M_leastOf_b275 NF) 999999) (nI p) (nI k) (nI q) (nI d) (lN W) bo (nI (wnt (mS hm) (nI p) (nI k) (nI mo))) most 0 0 (sh_pI G1 12 0 37 (-1)) = _
    have e116 : f_M_leastOf_b116 NF (f_M_leastOf_l104 NF (f_M_leastOf_b275 NF) 999999) (nI p) (nI k) (nI q) (nI d) (lN W) bo (nI (wnt (mS hm) (nI p) (nI k) (nI mo))) most 0 0 (sh_pI G1 12 0 37 (-1)) = some ((chs (cs2 (mS hm) p k d mo W C q) mn 1 (Bh (mS hm) p k d mo W C q) 0).1, E) := by
      unfold f_M_leastOf_b116 f_M_leastOf_b169
      rw [if_pos (rfl : (0 : Int32) = 0), show f_M_leastOf_l174 NF _ NF (nI p) (nI k) (nI q) (nI d) (lN W) bo (nI (wnt (mS hm) (nI p) (nI k) (nI mo))) most 0 0 0 0 (sh_pI G1 12 0 37 (-1)) = _ from M_least1 (x := 0) h i2 i1 hp p1 w9 hd (show q + 0 ≤ 60 by omega) C _ yH cH _ (nI k) bo most 0 (d + 1) 0 NF 0 (by omega) (NF_gt (by omega))]
      unfold f_M_leastOf_b241 f_M_leastOf_b259 f_M_leastOf_b269
      rw [pI_at, if_pos q_n1, sh_let, Int64.zero_add]
      exact E1
    unfold f_M_leastOf_c104
    rw [e116, if_pos (rfl : (0 : Int32) = 0), ite_self]
  unfold f_M_leastOf f_M_leastOf_b59
  rw [bo, Option.bind_some, b1, if_pos (in8 (by omega)), w1, sh_b2_some, cl8 (by omega), b3, v1]
  have v3' : G1.1 13 46 (nI (38 + 2 * p)).toNatClampNeg = nI (nv (mS hm) (38 + 2 * p)) := by rw [q_cl (by omega)]; exact v3
  cases e : bt (mS hm) (nI p) (nI mo) with
  | none =>
    have em : mst (mS hm) p k mo q = 0 := by unfold mst; rw [e]
    rw [show oI2 none (-2) = -2 from rfl, if_pos (show (-2 : Int32) < 0 by decide), if_pos (in8 (by omega)), v3', Int32.add_zero]
    by_cases l : nv (mS hm) (38 + 2 * p) < q
    · rw [if_pos (nI_lt l (by omega))]
      exact fin (-2) _ 0 (fun x x1 x2 => by rw [q_sl (by omega) (by omega) (by omega)]; omega) (Or.inr rfl) (Or.inl rfl) em.symm
    · rw [if_neg (nI_nlt (by omega) (by omega))]
      exact fin (-2) 0 0 (fun x x1 x2 => by rw [show (0 : Int32) = nI 0 from rfl, nI_ltI (by omega) (by omega)]) (Or.inr rfl) (Or.inl rfl) em.symm
  | some b =>
    obtain ⟨bl, -, -, ⟨c1, c2, c3⟩, -, -, -⟩ := T_boat h e
    have b4 : (250 : Int32) + 5 * nI b + 2 = nI (252 + 5 * b) := by rw [show (250 : Int32) = nI 250 from rfl, show (5 : Int32) = nI 5 from rfl, show (2 : Int32) = nI 2 from rfl, q_mul, nI_add, nI_add, show 250 + 5 * b + 2 = 252 + 5 * b by omega]
    have d1 : G1.1 13 46 (nI (252 + 5 * b)).toNatClampNeg = nI (nv (mS hm) (252 + 5 * b)) := by rw [q_cl (by omega)]; exact (y1.mS _).trans c1
    have em : mst (mS hm) p k mo q = min (nv (mS hm) (252 + 5 * b) / nv (mS hm) (21 + 3 * k)) (nv (mS hm) (38 + 2 * p) - q) := by unfold mst; rw [e]
    have dv : nv (mS hm) (252 + 5 * b) / nv (mS hm) (21 + 3 * k) ≤ nv (mS hm) (252 + 5 * b) := Nat.div_le_self _ _
    rw [show oI2 (some b) (-2) = nI b from rfl, if_neg (nI_pos (by omega)), b4, if_pos (in8 (by omega)), if_pos (show ¬ nI (nv (mS hm) (21 + 3 * k)) = 0 from nI_ne0 (by omega) (by omega)), d1, pk_div (by omega) (by omega) (by omega), if_pos (in8 (by omega)), v3', nI_add]
    generalize nv (mS hm) (252 + 5 * b) / nv (mS hm) (21 + 3 * k) = R at *
    by_cases l : nv (mS hm) (38 + 2 * p) < q + R
    · rw [if_pos (nI_lt l (by omega))]
      exact fin (nI b) _ (min R (nv (mS hm) (38 + 2 * p) - q)) (fun x x1 x2 => by rw [q_sl (by omega) (by omega) (by omega)]; omega) (by omega) (Or.inr ⟨b, e, rfl⟩) em.symm
    · rw [if_neg (nI_nlt (by omega) (by omega))]
      exact fin (nI b) _ (min R (nv (mS hm) (38 + 2 * p) - q)) (fun x x1 x2 => by rw [nI_ltI (by omega) (by omega)]; omega) (by omega) (Or.inr ⟨b, e, rfl⟩) em.symm
