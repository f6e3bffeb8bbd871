/-! PAIRS: pay, change: the model's fewest, by a queue -/
theorem d_int {a b : Nat} (ha : a < 2 ^ 29) (hb : b < 2 ^ 29) : (nI a - nI b).toInt = (a : Int) - b := by
  rw [Int32.toInt_sub, nI_toInt (by omega), nI_toInt (by omega), Int.bmod_eq_of_le (by omega) (by omega)]
theorem d_lt {a b c d : Nat} (ha : a < 2 ^ 29) (hb : b < 2 ^ 29) (hc : c < 2 ^ 29) (hd : d < 2 ^ 29) : nI a - nI b < nI c - nI d ↔ a + d < c + b := by
  rw [Int32.lt_iff_toInt_lt, d_int ha hb, d_int hc hd]
  omega
theorem d_lt2 {a c d : Nat} (ha : a < 2 ^ 29) (hc : c < 2 ^ 29) (hd : d < 2 ^ 29) : nI a < nI c - nI d ↔ a + d < c := by
  rw [Int32.lt_iff_toInt_lt, d_int hc hd, nI_toInt (by omega)]
  omega
theorem d_sum {a b c : Nat} (h : b ≤ c) : nI a - nI b + nI c = nI (a + (c - b)) := by
  rw [Int32.sub_eq_add_neg, Int32.add_assoc, Int32.add_comm (-nI b), ← Int32.sub_eq_add_neg, q_sub h, nI_add]
def kR (lo hi : Nat) (E H : sh_H) : Prop := (∀ c i j, ¬ (c = 13 ∧ (i = 56 ∨ (i = 55 ∧ lo ≤ j ∧ j < hi))) → E.1 c i j = H.1 c i j) ∧ E.2 = H.2
theorem kR.rf (lo hi : Nat) (H : sh_H) : kR lo hi H H := ⟨fun _ _ _ _ => rfl, rfl⟩
theorem kR.tr {lo hi : Nat} {a b c : sh_H} (x : kR lo hi a b) (y : kR lo hi b c) : kR lo hi a c := ⟨fun c i j h => (x.1 c i j h).trans (y.1 c i j h), x.2.trans y.2⟩
theorem kR.in {lo hi lo' hi' : Nat} {a b : sh_H} (h1 : lo' ≤ lo) (h2 : hi ≤ hi') (x : kR lo hi a b) : kR lo' hi' a b := ⟨fun c i j h => x.1 c i j (fun q => h (by omega)), x.2⟩
theorem kR.q {lo hi : Nat} {E H : sh_H} {j : Nat} {v : Int32} (x : kR lo hi E H) : kR lo hi (sh_pI E 13 56 j v) H := by
  refine ⟨fun c i j' n => ?_, x.2⟩
  rw [pI_ne (fun z => n ⟨z.1, Or.inl z.2.1⟩)]
  exact x.1 c i j' n
theorem kR.p {lo hi : Nat} {E H : sh_H} {j : Nat} {v : Int32} (h1 : lo ≤ j) (h2 : j < hi) (x : kR lo hi E H) : kR lo hi (sh_pI E 13 55 j v) H := by
  refine ⟨fun c i j' n => ?_, x.2⟩
  rw [pI_ne (fun z => n ⟨z.1, Or.inr ⟨z.2.1, by omega, by omega⟩⟩)]
  exact x.1 c i j' n
theorem kR.s {lo hi : Nat} {E H : sh_H} (x : kR lo hi E H) : sM E H := ⟨fun c i j n => x.1 c i j (fun q => n (by unfold scM; omega)), fun _ _ _ _ => by rw [x.2], by rw [x.2]⟩
def MR (H : sh_H) (o S : Nat) (F : Nat → Nat) : Prop := ∀ v, v ≤ S → H.1 13 55 (o + v) = nI (F v)
theorem kR.MR {lo hi o S : Nat} {F : Nat → Nat} {E H : sh_H} (x : kR lo hi E H) (h : hi ≤ o ∨ o + S < lo) (m : MR H o S F) : MR E o S F := fun v hv => (x.1 13 55 (o + v) (by omega)).trans (m v hv)
/-- the queue -/
def up0 (Q : Nat → Nat) (j v : Nat) (i : Nat) : Nat := if i = j then v else Q i
def QI (G : Nat → Nat) (many q f b : Nat) (Q : Nat → Nat) : Prop := f ≤ b ∧ b ≤ q ∧ (∀ j, f ≤ j → j < b → Q j < q) ∧ (∀ j, f ≤ j → j + 1 < b → G (Q j) + Q (j + 1) < G (Q (j + 1)) + Q j) ∧ ∀ t, t < q → q ≤ t + many → ∃ j, f ≤ j ∧ j < b ∧ t ≤ Q j ∧ G (Q j) + t ≤ G t + Q j
theorem chain {G Q : Nat → Nat} {f b : Nat} (h : ∀ j, f ≤ j → j + 1 < b → G (Q j) + Q (j + 1) < G (Q (j + 1)) + Q j) : ∀ n i, f ≤ i → i + n < b → G (Q i) + Q (i + n) ≤ G (Q (i + n)) + Q i := by
  intro n
  induction n with
  | zero => intro i _ _; exact Nat.le_refl _
  | succ n ih =>
    intro i h1 h2
    have a := ih i h1 (by omega)
    have b := h (i + n) (by omega) (by omega)
    rw [← Nat.add_assoc]
    omega
/-- after the new one is laid: the front one is the least, and the queue goes on -/
theorem QI_go {F : Nat → Nat} {w r many q f b b' f' : Nat} {Q : Nat → Nat} (hw : 1 ≤ w) (hr : r < w) (h : QI (fun j => F (r + j * w)) many q f b Q) (a1 : f ≤ b') (a2 : b' ≤ b) (a3 : f = b' ∨ F (r + Q (b' - 1) * w) + q < F (r + q * w) + Q (b' - 1)) (a4 : ∀ j, b' ≤ j → j < b → F (r + q * w) + Q j ≤ F (r + Q j * w) + q) (c1 : f ≤ f') (c2 : f' ≤ b') (c3 : q ≤ up0 Q b' q f' + many) (c4 : ∀ j, f ≤ j → j < f' → up0 Q b' q j + many < q) : QI (fun j => F (r + j * w)) many (q + 1) f' (b' + 1) (up0 Q b' q) ∧ up0 Q b' q f' ≤ q ∧ F (r + up0 Q b' q f' * w) + (q - up0 Q b' q f') = ad w many F (r + q * w) := by
  obtain ⟨h1, h2, h3, h4, h5⟩ := h
  have at' : up0 Q b' q b' = q := if_pos rfl
  have ne : ∀ j, j < b' → up0 Q b' q j = Q j := fun j hj => if_neg (by omega)
  have k4 : ∀ j, f ≤ j → j + 1 < b' + 1 → F (r + up0 Q b' q j * w) + up0 Q b' q (j + 1) < F (r + up0 Q b' q (j + 1) * w) + up0 Q b' q j := by
    intro j j1 j2
    by_cases e : j + 1 = b'
    · rw [e, at', ne j (by omega)]
      rcases a3 with a3 | a3
      · omega
      · rw [show b' - 1 = j by omega] at a3
        exact a3
    · rw [ne j (by omega), ne (j + 1) (by omega)]
      exact h4 j j1 (by omega)
  have k3 : ∀ j, f ≤ j → j < b' + 1 → up0 Q b' q j < q + 1 := by
    intro j j1 j2
    by_cases e : j = b'
    · rw [e, at']; omega
    · rw [ne j (by omega)]
      have := h3 j j1 (by omega)
      omega
  have k5 : ∀ t, t < q + 1 → q ≤ t + many → ∃ j, f' ≤ j ∧ j < b' + 1 ∧ t ≤ up0 Q b' q j ∧ F (r + up0 Q b' q j * w) + t ≤ F (r + t * w) + up0 Q b' q j := by
    intro t t1 t2
    by_cases e : t = q
    · refine ⟨b', c2, by omega, ?_, ?_⟩ <;> rw [at', e] <;> exact Nat.le_refl _
    · obtain ⟨j, j1, j2, j3, j4⟩ := h5 t (by omega) t2
      have j4' : F (r + Q j * w) + t ≤ F (r + t * w) + Q j := j4
      by_cases l : j < b'
      · refine ⟨j, ?_, by omega, by rw [ne j l]; exact j3, by rw [ne j l]; exact j4'⟩
        by_cases g : f' ≤ j
        · exact g
        · have := c4 j j1 (by omega)
          rw [ne j l] at this
          omega
      · have := a4 j (by omega) j2
        refine ⟨b', c2, by omega, by rw [at']; omega, ?_⟩
        rw [at']
        omega
  have T1 : up0 Q b' q f' ≤ q := by have := k3 f' c1 (by omega); omega
  refine ⟨⟨by omega, by omega, fun j j1 j2 => k3 j (by omega) j2, fun j j1 j2 => k4 j (by omega) j2, fun t t1 t2 => k5 t t1 (by omega)⟩, T1, ?_⟩
  generalize hT : up0 Q b' q f' = T at *
  apply Nat.le_antisymm
  · obtain ⟨n, n1, n2, n3⟩ := ad_at (w := w) (b := many) (v := r + q * w) (F := F) hw
    have nq : n ≤ q := by
      have : n * w < (q + 1) * w := by rw [Nat.add_mul, Nat.one_mul]; omega
      have := Nat.lt_of_mul_lt_mul_right this
      omega
    obtain ⟨j, j1, j2, j3, j4⟩ := k5 (q - n) (by omega) (by omega)
    have ch := chain (G := fun j => F (r + j * w)) (Q := up0 Q b' q) (f := f') (b := b' + 1) (fun j j1 j2 => k4 j (by omega) j2) (j - f') f' (Nat.le_refl _) (by omega)
    rw [show f' + (j - f') = j by omega, hT] at ch
    have ch' : F (r + T * w) + up0 Q b' q j ≤ F (r + up0 Q b' q j * w) + T := ch
    have nw : n * w ≤ q * w := Nat.mul_le_mul_right w nq
    rw [n3, show r + q * w - n * w = r + (q - n) * w by rw [Nat.sub_mul]; omega]
    omega
  · have tw : T * w ≤ q * w := Nat.mul_le_mul_right w T1
    have := ad_le (w := w) (b := many) (v := r + q * w) (n := q - T) (F := F) hw (by omega) (by rw [Nat.sub_mul]; omega)
    rw [show r + q * w - (q - T) * w = r + T * w by rw [Nat.sub_mul]; omega] at this
    exact this
theorem q_in4 {k : Nat} (h : k < 4001) : ai_in (nI k) 4001 := q_in h (by omega)
theorem q_in5 {k : Nat} (h : k < 56014) : ai_in (nI k) 56014 := q_in h (by omega)
theorem M_pop {F Q : Nat → Nat} {o w r f q most : Nat} {a3 a4 a6 : Int32} {K : Int32 → Int32 → Int32 → Int32 → Int32 → Int32 → Int32 → Int32 → Int32 → sh_H → Option sh_H} {H : sh_H} (ho : o + 4001 ≤ 56014) (hm : most ≤ 4000) (hq : r + q * w ≤ most) (hq4 : q ≤ 4000) (hF : ∀ v, F v ≤ 1000000) (m : MR H o most F) : ∀ (b u : Nat), f ≤ b → b ≤ q → b - f < u → (∀ j, f ≤ j → j < b → Q j < q) → (∀ j, f ≤ j → j < b → H.1 13 56 j = nI (Q j)) → ∃ b', f ≤ b' ∧ b' ≤ b ∧ (f = b' ∨ F (r + Q (b' - 1) * w) + q < F (r + q * w) + Q (b' - 1)) ∧ (∀ j, b' ≤ j → j < b → F (r + q * w) + Q j ≤ F (r + Q j * w) + q) ∧ f_M_layKind_l154 NF K u a3 a4 (nI o) a6 (nI w) (nI r) (nI f) (nI b) (nI q) (nI (F (r + q * w)) - nI q) H = K a3 a4 (nI o) a6 (nI w) (nI r) (nI f) (nI b') (nI q) H := by
  intro b
  induction b with
  | zero =>
    intro u h1 h2 h3 h4 h5
    obtain ⟨u, rfl⟩ : ∃ m, u = m + 1 := ⟨u - 1, by omega⟩
    refine ⟨0, h1, Nat.le_refl _, Or.inl (by omega), fun j _ j2 => absurd j2 (by omega), ?_⟩
    show f_M_layKind_c154 NF K (f_M_layKind_l154 NF K u) a3 a4 (nI o) a6 (nI w) (nI r) (nI f) (nI 0) (nI q) _ H = _
    unfold f_M_layKind_c154
    rw [if_neg (nI_nlt (by omega) (by omega))]
  | succ b ih =>
    intro u h1 h2 h3 h4 h5
    obtain ⟨u, rfl⟩ : ∃ m, u = m + 1 := ⟨u - 1, by omega⟩
    show ∃ b', f ≤ b' ∧ b' ≤ b + 1 ∧ (f = b' ∨ _) ∧ _ ∧ f_M_layKind_c154 NF K (f_M_layKind_l154 NF K u) a3 a4 (nI o) a6 (nI w) (nI r) (nI f) (nI (b + 1)) (nI q) _ H = _
    unfold f_M_layKind_c154
    by_cases e : f = b + 1
    · refine ⟨b + 1, by omega, Nat.le_refl _, Or.inl e, fun j j1 j2 => absurd j2 (by omega), ?_⟩
      rw [if_neg (nI_nlt (by omega) (by omega))]
    have Qb := h4 b (by omega) (by omega)
    have Qw : Q b * w ≤ q * w := Nat.mul_le_mul_right w (Nat.le_of_lt Qb)
    have F1 := hF (r + Q b * w)
    have F2 := hF (r + q * w)
    have cQ : H.1 13 56 (nI b).toNatClampNeg = nI (Q b) := by rw [q_cl (by omega)]; exact h5 b (by omega) (by omega)
    have cF : H.1 13 55 (nI (o + r + Q b * w)).toNatClampNeg = nI (F (r + Q b * w)) := by rw [q_cl (by omega), Nat.add_assoc]; exact m _ (by omega)
    rw [if_pos (nI_lt (by omega) (by omega)), show nI (b + 1) - 1 = nI b from q_sub (a := b + 1) (b := 1) (by omega), if_pos (q_in4 (by omega)), cQ, nI_add, q_mul, nI_add, if_pos (q_in5 (by omega)), if_pos (q_in4 (by omega)), cF, pk_m1]
    by_cases c : nI (F (r + Q b * w)) - nI (Q b) < nI (F (r + q * w)) - nI q
    · rw [if_pos c]
      have c' := (d_lt (by omega) (by omega) (by omega) (by omega)).mp c
      exact ⟨b + 1, by omega, Nat.le_refl _, Or.inr c', fun j j1 j2 => absurd j2 (by omega), rfl⟩
    · rw [if_neg c]
      have c' : ¬ F (r + Q b * w) + q < F (r + q * w) + Q b := fun z => c ((d_lt (by omega) (by omega) (by omega) (by omega)).mpr z)
      obtain ⟨b', i1, i2, i3, i4, i5⟩ := ih u (by omega) (by omega) (by omega) (fun j j1 j2 => h4 j j1 (by omega)) (fun j j1 j2 => h5 j j1 (by omega))
      refine ⟨b', i1, by omega, i3, fun j j1 j2 => ?_, i5⟩
      by_cases e : j = b
      · rw [e]; omega
      · exact i4 j j1 (by omega)
theorem M_drop {Q : Nat → Nat} {q many b' : Nat} {a3 a4 a5 a7 a8 a10 : Int32} {K : Int32 → Int32 → Int32 → Int32 → Int32 → Int32 → Int32 → Int32 → Int32 → sh_H → Option sh_H} {H : sh_H} (hq4 : q ≤ 4000) (hb : b' ≤ q) (hm : many < 2 ^ 29) (e : Q b' = q) {f0 : Nat} (hQ : ∀ j, f0 ≤ j → j ≤ b' → Q j ≤ q) : ∀ (n f u : Nat), f0 ≤ f → f + n = b' → n < u → (∀ j, f ≤ j → j ≤ b' → H.1 13 56 j = nI (Q j)) → ∃ f', f ≤ f' ∧ f' ≤ b' ∧ q ≤ Q f' + many ∧ (∀ j, f ≤ j → j < f' → Q j + many < q) ∧ f_M_layKind_l217 NF K u a3 a4 a5 (nI many) a7 a8 (nI f) a10 (nI q) H = K a3 a4 a5 (nI many) a7 a8 (nI f') a10 (nI q) H := by
  intro n
  induction n with
  | zero =>
    intro f u h0 h1 h2 h3
    obtain ⟨u, rfl⟩ : ∃ m, u = m + 1 := ⟨u - 1, by omega⟩
    obtain rfl : f = b' := by omega
    refine ⟨f, Nat.le_refl _, Nat.le_refl _, by omega, fun j _ _ => by omega, ?_⟩
    show f_M_layKind_c217 NF K (f_M_layKind_l217 NF K u) a3 a4 a5 (nI many) a7 a8 (nI f) a10 (nI q) H = _
    unfold f_M_layKind_c217
    have c : H.1 13 56 (nI f).toNatClampNeg = nI q := by rw [q_cl (by omega)]; exact (h3 f (by omega) (by omega)).trans (by rw [e])
    rw [if_pos (q_in4 (by omega)), c, if_neg (fun z => by have := (d_lt2 (by omega) (by omega) hm).mp z; omega)]
  | succ n ih =>
    intro f u h0 h1 h2 h3
    obtain ⟨u, rfl⟩ : ∃ m, u = m + 1 := ⟨u - 1, by omega⟩
    have hf := hQ f h0 (by omega)
    have c : H.1 13 56 (nI f).toNatClampNeg = nI (Q f) := by rw [q_cl (by omega)]; exact h3 f (by omega) (by omega)
    show ∃ f', f ≤ f' ∧ f' ≤ b' ∧ q ≤ Q f' + many ∧ _ ∧ f_M_layKind_c217 NF K (f_M_layKind_l217 NF K u) a3 a4 a5 (nI many) a7 a8 (nI f) a10 (nI q) H = _
    unfold f_M_layKind_c217
    rw [if_pos (q_in4 (by omega)), c, nI_1]
    by_cases l : Q f + many < q
    · rw [if_pos ((d_lt2 (by omega) (by omega) hm).mpr l)]
      obtain ⟨f', i1, i2, i3, i4, i5⟩ := ih (f + 1) u (by omega) (by omega) (by omega) (fun j j1 j2 => h3 j (by omega) j2)
      refine ⟨f', by omega, i2, i3, fun j j1 j2 => ?_, i5⟩
      by_cases e : j = f
      · rw [e]; exact l
      · exact i4 j (by omega) j2
    · rw [if_neg (fun z => l ((d_lt2 (by omega) (by omega) hm).mp z))]
      exact ⟨f, Nat.le_refl _, by omega, by omega, fun j _ _ => by omega, rfl⟩
theorem l55 : sh_l13 55 = 56014 := by decide
theorem M_res {F : Nat → Nat} {w r many most o : Nat} {K : Int32 → Int32 → Int32 → Int32 → Int32 → Int32 → sh_H → Option sh_H} {H0 : sh_H} (ho : o + 8002 ≤ 56014) (hm : most ≤ 4000) (hw : 1 ≤ w) (hw5 : w ≤ 500) (hr : r < w) (hmany : many < 2 ^ 29) (hF : ∀ v, F v ≤ 1000000) (m0 : MR H0 (o + 4001) most F) : ∀ (n q f b u : Nat) (Q : Nat → Nat) (H : sh_H), most + 1 ≤ r + q * w + n → n < u → q ≤ 4001 → QI (fun j => F (r + j * w)) many q f b Q → (∀ j, f ≤ j → j < b → H.1 13 56 j = nI (Q j)) → kR o (o + 4001) H H0 → (∀ v, v ≤ most → (v % w < r ∨ (v % w = r ∧ v / w < q)) → H.1 13 55 (o + v) = nI (ad w many F v)) → ∃ E, f_M_layKind_l121 NF K u (nI most) (nI o) (nI (o + 4001)) (nI many) (nI w) (nI r) (nI f) (nI b) (nI q) H = K (nI most) (nI o) (nI (o + 4001)) (nI many) (nI w) (nI r) E ∧ kR o (o + 4001) E H0 ∧ ∀ v, v ≤ most → v % w < r + 1 → E.1 13 55 (o + v) = nI (ad w many F v) := by
  intro n
  induction n with
  | zero =>
    intro q f b u Q H e1 e2 q41 hQ cQ x dn
    obtain ⟨u, rfl⟩ : ∃ m, u = m + 1 := ⟨u - 1, by omega⟩
    have qw : q * w ≤ 4001 * 500 := Nat.mul_le_mul q41 hw5
    refine ⟨H, ?_, x, fun v hv hvr => dn v hv ?_⟩
    · show f_M_layKind_c121 NF K (f_M_layKind_l121 NF K u) (nI most) (nI o) (nI (o + 4001)) (nI many) (nI w) (nI r) (nI f) (nI b) (nI q) H = _
      unfold f_M_layKind_c121
      rw [q_mul, nI_add, if_pos (nI_lt (by omega) (by omega))]
    · by_cases e : v % w = r
      · refine Or.inr ⟨e, ?_⟩
        have d := Nat.div_add_mod v w
        have : w * (v / w) < w * q := by rw [Nat.mul_comm w q]; omega
        exact Nat.lt_of_mul_lt_mul_left this
      · exact Or.inl (by omega)
  | succ n ih =>
    intro q f b u Q H e1 e2 q41 hQ cQ x dn
    obtain ⟨u, rfl⟩ : ∃ m, u = m + 1 := ⟨u - 1, by omega⟩
    have qw : q * w ≤ 4001 * 500 := Nat.mul_le_mul q41 hw5
    show ∃ E, f_M_layKind_c121 NF K (f_M_layKind_l121 NF K u) (nI most) (nI o) (nI (o + 4001)) (nI many) (nI w) (nI r) (nI f) (nI b) (nI q) H = _ ∧ _
    unfold f_M_layKind_c121
    rw [q_mul, nI_add]
    by_cases l : most < r + q * w
    · rw [if_pos (nI_lt l (by omega))]
      refine ⟨H, rfl, x, fun v hv hvr => dn v hv ?_⟩
      by_cases e : v % w = r
      · refine Or.inr ⟨e, ?_⟩
        have d := Nat.div_add_mod v w
        have : w * (v / w) < w * q := by rw [Nat.mul_comm w q]; omega
        exact Nat.lt_of_mul_lt_mul_left this
      · exact Or.inl (by omega)
    have q4 : q ≤ 4000 := by
      have : q * 1 ≤ q * w := Nat.mul_le_mul_left q hw
      omega
    have mH : MR H (o + 4001) most F := x.MR (by omega) m0
    have cN : H.1 13 55 (nI (o + 4001 + r + q * w)).toNatClampNeg = nI (F (r + q * w)) := by rw [q_cl (by omega), Nat.add_assoc (o + 4001)]; exact mH _ (by omega)
    obtain ⟨hQ1, hQ2, hQ3, hQ4, hQ5⟩ := hQ
    obtain ⟨b', p1, p2, p3, p4, p5⟩ := M_pop (F := F) (Q := Q) (o := o + 4001) (w := w) (r := r) (f := f) (q := q) (most := most) (a3 := nI most) (a4 := nI o) (a6 := nI many) (K := f_M_layKind_b205 NF (f_M_layKind_l121 NF K u)) (H := H) (by omega) hm (by omega) q4 hF mH b NF hQ1 hQ2 (NF_gt (by omega)) hQ3 cQ
    rw [if_neg (nI_nlt (by omega) (by omega)), nI_add, nI_add, if_pos (q_in5 (by omega)), cN, p5]
    unfold f_M_layKind_b205
    have at' : up0 Q b' q b' = q := if_pos rfl
    rw [if_pos (q_in4 (by omega)), sh_let, q_cl (by omega), nI_1]
    have cQ' : ∀ j, f ≤ j → j ≤ b' → (sh_pI H 13 56 b' (nI q)).1 13 56 j = nI (up0 Q b' q j) := by
      intro j j1 j2
      by_cases e : j = b'
      · rw [e, pI_at, at']
      · rw [pI_ne (by omega), show up0 Q b' q j = Q j from if_neg e]
        exact cQ j j1 (by omega)
    obtain ⟨f', c1, c2, c3, c4, c5⟩ := M_drop (Q := up0 Q b' q) (q := q) (many := many) (b' := b') (a3 := nI most) (a4 := nI o) (a5 := nI (o + 4001)) (a7 := nI w) (a8 := nI r) (a10 := nI (b' + 1)) (K := f_M_layKind_b238 NF (f_M_layKind_l121 NF K u)) (H := sh_pI H 13 56 b' (nI q)) q4 (by omega) hmany at' (f0 := f) (fun j j1 j2 => by
      by_cases e : j = b'
      · rw [e, at']; exact Nat.le_refl _
      · rw [show up0 Q b' q j = Q j from if_neg e]
        exact Nat.le_of_lt (hQ3 j j1 (by omega))) (b' - f) f NF (Nat.le_refl _) (by omega) (NF_gt (by omega)) cQ'
    obtain ⟨g1, g2, g3⟩ := QI_go (F := F) hw hr ⟨hQ1, hQ2, hQ3, hQ4, hQ5⟩ p1 p2 p3 p4 c1 c2 c3 c4
    rw [c5]
    unfold f_M_layKind_b238 f_M_layKind_b303
    have cT : (sh_pI H 13 56 b' (nI q)).1 13 56 (nI f').toNatClampNeg = nI (up0 Q b' q f') := by rw [q_cl (by omega)]; exact cQ' f' c1 c2
    have tw : up0 Q b' q f' * w ≤ q * w := Nat.mul_le_mul_right w g2
    have cV : (sh_pI H 13 56 b' (nI q)).1 13 55 (nI (o + 4001 + r + up0 Q b' q f' * w)).toNatClampNeg = nI (F (r + up0 Q b' q f' * w)) := by
      rw [q_cl (by omega), pI_ne (by omega), Nat.add_assoc (o + 4001)]
      exact mH _ (by omega)
    have aI : ad w many F (r + q * w) ≤ 1000000 := ad_I hw hF
    rw [if_pos (q_in4 (by omega)), cT, nI_add, q_mul, nI_add, if_pos (q_in5 (by omega)), if_pos (q_in4 (by omega)), cV, d_sum g2, g3, if_neg (show ¬ (1000000 : Int32) < nI (ad w many F (r + q * w)) from nI_nlt (a := 1000000) (by omega) (by omega)), nI_add, q_mul, nI_add, l55, if_pos (q_in5 (by omega)), sh_let, nI_1, q_cl (by omega)]
    refine ih (q + 1) f' (b' + 1) u (up0 Q b' q) _ ?_ (by omega) (by omega) g1 (fun j j1 j2 => ?_) (kR.p (by omega) (by omega) x.q) (fun v hv hd => ?_)
    · rw [Nat.add_mul, Nat.one_mul]; omega
    · rw [pI_ne (by omega)]
      exact cQ' j (by omega) (by omega)
    · by_cases e : v = r + q * w
      · rw [show o + v = o + r + q * w by omega, pI_at, e]
      · rw [pI_ne (by omega), pI_ne (by omega)]
        refine dn v hv ?_
        rcases hd with hd | ⟨d1, d2⟩
        · exact Or.inl hd
        · refine Or.inr ⟨d1, ?_⟩
          by_cases z : v / w = q
          · have d := Nat.div_add_mod v w
            rw [z, d1, Nat.mul_comm] at d
            omega
          · omega
theorem M_lays {F : Nat → Nat} {w many most o : Nat} {H0 : sh_H} (ho : o + 8002 ≤ 56014) (hm : most ≤ 4000) (hw : 1 ≤ w) (hw5 : w ≤ 500) (hmany : many < 2 ^ 29) (hF : ∀ v, F v ≤ 1000000) (m0 : MR H0 (o + 4001) most F) : ∃ E, f_M_layKind_l99 NF NF (nI most) (nI o) (nI (o + 4001)) (nI many) (nI w) 0 H0 = some E ∧ kR o (o + 4001) E H0 ∧ MR E o most (ad w many F) := by
  have lp : ∀ (n r u : Nat) (H : sh_H), r + n = w → n < u → kR o (o + 4001) H H0 → (∀ v, v ≤ most → v % w < r → H.1 13 55 (o + v) = nI (ad w many F v)) → ∃ E, f_M_layKind_l99 NF u (nI most) (nI o) (nI (o + 4001)) (nI many) (nI w) (nI r) H = some E ∧ kR o (o + 4001) E H0 ∧ MR E o most (ad w many F) := by
    intro n
    induction n with
    | zero =>
      intro r u H e1 e2 x dn
      obtain ⟨u, rfl⟩ : ∃ m, u = m + 1 := ⟨u - 1, by omega⟩
      refine ⟨H, ?_, x, fun v hv => dn v hv (by have := Nat.mod_lt v (y := w) (by omega); omega)⟩
      show f_M_layKind_c99 NF (f_M_layKind_l99 NF u) (nI most) (nI o) (nI (o + 4001)) (nI many) (nI w) (nI r) H = _
      unfold f_M_layKind_c99
      rw [if_neg (nI_nlt (by omega) (by omega))]
    | succ n ih =>
      intro r u H e1 e2 x dn
      obtain ⟨u, rfl⟩ : ∃ m, u = m + 1 := ⟨u - 1, by omega⟩
      show ∃ E, f_M_layKind_c99 NF (f_M_layKind_l99 NF u) (nI most) (nI o) (nI (o + 4001)) (nI many) (nI w) (nI r) H = _ ∧ _
      unfold f_M_layKind_c99
      rw [if_pos (nI_lt (by omega) (by omega))]
      by_cases l : most < r
      · rw [if_pos (nI_lt l (by omega))]
        exact ⟨H, rfl, x, fun v hv => dn v hv (by have := Nat.mod_le v w; omega)⟩
      · rw [if_neg (nI_nlt (by omega) (by omega))]
        obtain ⟨E, E1, E2, E3⟩ := M_res (F := F) (w := w) (r := r) (many := many) (most := most) (o := o) (K := f_M_layKind_b310 NF (f_M_layKind_l99 NF u)) (H0 := H0) ho hm hw hw5 (by omega) hmany hF m0 (most + 1) 0 0 0 NF (fun _ => 0) H (by omega) (NF_gt (by omega)) (by omega) ⟨Nat.le_refl _, Nat.le_refl _, fun j _ _ => by omega, fun j _ _ => by omega, fun t _ _ => by omega⟩ (fun j _ _ => by omega) x (fun v hv hd => dn v hv (hd.elim id (fun z => absurd z.2 (Nat.not_lt_zero _))))
        rw [show f_M_layKind_l121 NF (f_M_layKind_b310 NF (f_M_layKind_l99 NF u)) NF (nI most) (nI o) (nI (o + 4001)) (nI many) (nI w) (nI r) 0 0 0 H = _ from E1]
        unfold f_M_layKind_b310
        rw [nI_1]
        exact ih (r + 1) u E (by omega) (by omega) E2 E3
  exact lp w 0 NF H0 (by omega) (NF_gt (by omega)) (kR.rf _ _ _) (fun v _ h => absurd h (Nat.not_lt_zero _))
theorem M_lays0 {F : Nat → Nat} {most o : Nat} {H0 : sh_H} (ho : o + 8002 ≤ 56014) (hm : most ≤ 4000) (m0 : MR H0 (o + 4001) most F) : ∃ E, f_M_layKind_l56 NF NF (nI most) (nI o) (nI (o + 4001)) 0 H0 = some E ∧ kR o (o + 4001) E H0 ∧ MR E o most F := by
  have lp : ∀ (n r u : Nat) (H : sh_H), r + n = most + 1 → n < u → kR o (o + 4001) H H0 → (∀ v, v < r → H.1 13 55 (o + v) = nI (F v)) → ∃ E, f_M_layKind_l56 NF u (nI most) (nI o) (nI (o + 4001)) (nI r) H = some E ∧ kR o (o + 4001) E H0 ∧ MR E o most F := by
    intro n
    induction n with
    | zero =>
      intro r u H e1 e2 x dn
      obtain ⟨u, rfl⟩ : ∃ m, u = m + 1 := ⟨u - 1, by omega⟩
      refine ⟨H, ?_, x, fun v hv => dn v (by omega)⟩
      show f_M_layKind_c56 NF (f_M_layKind_l56 NF u) (nI most) (nI o) (nI (o + 4001)) (nI r) H = _
      unfold f_M_layKind_c56
      rw [if_pos (nI_lt (by omega) (by omega))]
    | succ n ih =>
      intro r u H e1 e2 x dn
      obtain ⟨u, rfl⟩ : ∃ m, u = m + 1 := ⟨u - 1, by omega⟩
      show ∃ E, f_M_layKind_c56 NF (f_M_layKind_l56 NF u) (nI most) (nI o) (nI (o + 4001)) (nI r) H = _ ∧ _
      unfold f_M_layKind_c56
      have mH : MR H (o + 4001) most F := x.MR (by omega) m0
      have cN : H.1 13 55 (nI (o + 4001 + r)).toNatClampNeg = nI (F r) := by rw [q_cl (by omega)]; exact mH r (by omega)
      rw [if_neg (nI_nlt (by omega) (by omega)), nI_add, if_pos (q_in5 (by omega)), nI_add, if_pos (q_in5 (by omega)), sh_let, cN, q_cl (by omega), nI_1]
      refine ih (r + 1) u _ (by omega) (by omega) (kR.p (by omega) (by omega) x) (fun v hv => ?_)
      by_cases e : v = r
      · rw [e, pI_at]
      · rw [pI_ne (by omega)]; exact dn v (by omega)
  exact lp (most + 1) 0 NF H0 (by omega) (NF_gt (by omega)) (kR.rf _ _ _) (fun v h => absurd h (Nat.not_lt_zero _))
