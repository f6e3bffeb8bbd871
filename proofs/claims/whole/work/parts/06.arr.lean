/-! ARRAYS, SOUND -/
theorem ai_arrJ {D : va_G} {cA : Nat → ClassId} {n0 L : Nat} {xs : Nat → Int32} {ad : Nat → Nat → Nat} {h : ai_H} {H : Heap} (hHP : ai_HP D cA n0 L xs ad h H) {k a : Nat} (hk : k = 13 ∨ k = 15 ∨ k = 16) (ha : a < h.2.2.2.1 k) : H[ad k a]? = some (arrV (cA k) (h.2.2.2.2 k a) (fun j => .int (h.1 k a j))) := (hHP.1 k a (by omega) ha).1.2.2 hk
theorem ai_arrL {D : va_G} {cA : Nat → ClassId} {n0 L : Nat} {xs : Nat → Int32} {ad : Nat → Nat → Nat} {h : ai_H} {H : Heap} (hHP : ai_HP D cA n0 L xs ad h H) {a : Nat} (ha : a < h.2.2.2.1 14) : H[ad 14 a]? = some (arrV (cA 14) (h.2.2.2.2 14 a) (fun j => .long (h.2.1 14 a j))) := (hHP.1 14 a (by omega) ha).1.2.1 rfl
theorem ai_isA {D : va_G} {cA : Nat → ClassId} {n0 L : Nat} {xs : Nat → Int32} {vz : Value} {ad : Nat → Nat → Nat} {U : State} {H : Heap} (hKC : ai_KC D cA n0 L xs vz ad U H) : ArrOfT U (cA 13) .int ∧ ArrOfT U (cA 14) .long ∧ ArrOfT U (cA 15) .byte ∧ ArrOfT U (cA 16) .boolean := ⟨(hKC.1.2 0 _ rfl).1, (hKC.1.2 1 _ rfl).1, (hKC.1.2 2 _ rfl).1, (hKC.1.2 3 _ rfl).1⟩
theorem ai_cvr (vz : Value) (ad : Nat → Nat → Nat) {k : Nat} (h : k < 20) (a : Nat) : ai_cv vz ad (aR k a) = .ref (ad k a) := by
  show cond (Nat.beq k 20) vz (.ref (ad k a)) = _
  rw [ai_nb h]
  rfl
theorem s_iald {Tm : Nat → ai_Mt} {M : ai_Mt} {pc nx : Nat} (d_ : decode M.2.1 pc = .ok (.iaload, 1)) (hn : pc + 1 = nx) : ai_Sn Tm M pc (op_iald nx) := by
  intro Γ d Cc Q P hC hRo hCl hR hP u w lo st h hop
  obtain ⟨l, R, p, e, s, m, args, below, meth, cd, Qm, D, cA, n0, vz, L, xs, ad0, h0⟩ := Γ
  obtain ⟨hx, hb, hml, hown, hts, hnm, hrc, hrs⟩ := hC
  unfold op_iald at hop
  split at hop
  · rename_i x k a r
    obtain ⟨hk0, hp2⟩ := ai_condT hop
    clear hop
    rw [Bool.or_eq_true] at hk0
    intro ad H locs ls hE hHP hKC hvl hvs hlv hS hu hw
    subst hn
    have ha : a < h.2.2.2.1 k := ai_ok1 (ai_ok2 hvs)
    have hlt : x.toNatClampNeg < h.2.2.2.2 k a := Nat.not_le.mp fun q => hp2.1 (Or.inr q)
    have kk := hP _ _ _ _ _ _ hp2.2 ad H locs ls hE hHP hKC hvl (ai_okc trivial (ai_ok2 (ai_ok2 hvs))) hlv hS hu hw
    rcases hk0 with hk0 | hk0
    · have hk := Nat.eq_of_beq_eq_true hk0
      subst hk
      have hc := ai_arrJ hHP (Or.inl rfl) ha
      exact W.iald (v := .int (h.1 13 a x.toNatClampNeg)) hx hb hc ((ai_isA hKC).1 _ _) (fun q => by cases q) (by rw [arrV_size]; exact hp2.1) (by rw [arrV_read _ _ hlt]) rfl rfl d_ kk
    · have hk := Nat.eq_of_beq_eq_true hk0
      subst hk
      obtain ⟨⟨scr, x1, x2, x3, x4, x5⟩, -⟩ := hKC.2.1
      have h1 : h.2.2.2.1 17 = 1 := hHP.2.2.2.1.2.2.2.1
      have ha0 : a = 0 := by omega
      subst ha0
      have hL : h.2.2.2.2 17 0 = L := hHP.2.2.2.1.2.1
      exact W.iald (v := .int (h.1 17 0 x.toNatClampNeg)) hx hb x1 x2 x3 (by rw [x4, ← hL]; exact hp2.1) (by rw [x5 _ (by rw [← hL]; exact hlt), hHP.2.2.2.1.1]) rfl rfl d_ kk
  · exact hop.elim
theorem s_lald {Tm : Nat → ai_Mt} {M : ai_Mt} {pc nx : Nat} (d_ : decode M.2.1 pc = .ok (.laload, 1)) (hn : pc + 1 = nx) : ai_Sn Tm M pc (op_lald nx) := by
  intro Γ d Cc Q P hC hRo hCl hR hP u w lo st h hop
  obtain ⟨l, R, p, e, s, m, args, below, meth, cd, Qm, D, cA, n0, vz, L, xs, ad0, h0⟩ := Γ
  obtain ⟨hx, hb, hml, hown, hts, hnm, hrc, hrs⟩ := hC
  unfold op_lald at hop
  split at hop
  · rename_i x k a r
    obtain ⟨hk0, hp2⟩ := ai_condT hop
    clear hop
    have hk := Nat.eq_of_beq_eq_true hk0
    subst hk
    intro ad H locs ls hE hHP hKC hvl hvs hlv hS hu hw
    subst hn
    have ha : a < h.2.2.2.1 14 := ai_ok1 (ai_ok2 hvs)
    have hlt : x.toNatClampNeg < h.2.2.2.2 14 a := Nat.not_le.mp fun q => hp2.1 (Or.inr q)
    have kk := hP _ _ _ _ _ _ hp2.2 ad H locs ls hE hHP hKC hvl (ai_okc trivial (ai_ok2 (ai_ok2 hvs))) hlv hS hu hw
    exact W.lald (v := .long (h.2.1 14 a x.toNatClampNeg)) hx hb (ai_arrL hHP ha) ((ai_isA hKC).2.1 _ _) (fun q => by cases q) (by rw [arrV_size]; exact hp2.1) (by rw [arrV_read _ _ hlt]) rfl rfl d_ kk
  · exact hop.elim
theorem s_bald {Tm : Nat → ai_Mt} {M : ai_Mt} {pc nx : Nat} (d_ : decode M.2.1 pc = .ok (.baload, 1)) (hn : pc + 1 = nx) : ai_Sn Tm M pc (op_bald nx) := by
  intro Γ d Cc Q P hC hRo hCl hR hP u w lo st h hop
  obtain ⟨l, R, p, e, s, m, args, below, meth, cd, Qm, D, cA, n0, vz, L, xs, ad0, h0⟩ := Γ
  obtain ⟨hx, hb, hml, hown, hts, hnm, hrc, hrs⟩ := hC
  unfold op_bald at hop
  split at hop
  · rename_i x k a r
    obtain ⟨hk0, hp2⟩ := ai_condT hop
    clear hop
    rw [Bool.or_eq_true, Bool.or_eq_true] at hk0
    intro ad H locs ls hE hHP hKC hvl hvs hlv hS hu hw
    subst hn
    have ha : a < h.2.2.2.1 k := ai_ok1 (ai_ok2 hvs)
    have hlt : x.toNatClampNeg < h.2.2.2.2 k a := Nat.not_le.mp fun q => hp2.1 (Or.inr q)
    have kk := hP _ _ _ _ _ _ hp2.2 ad H locs ls hE hHP hKC hvl (ai_okc trivial (ai_ok2 (ai_ok2 hvs))) hlv hS hu hw
    rcases hk0 with hk0 | hk0 | hk0
    · have hk := Nat.eq_of_beq_eq_true hk0
      subst hk
      exact W.bald (v := .int (h.1 15 a x.toNatClampNeg)) hx hb (ai_arrJ hHP (Or.inr (Or.inl rfl)) ha) ((ai_isA hKC).2.2.1 _ _) (fun q => by cases q) (by rw [arrV_size]; exact hp2.1) (by rw [arrV_read _ _ hlt]) rfl rfl d_ kk
    · have hk := Nat.eq_of_beq_eq_true hk0
      subst hk
      exact W.zald (v := .int (h.1 16 a x.toNatClampNeg)) hx hb (ai_arrJ hHP (Or.inr (Or.inr rfl)) ha) ((ai_isA hKC).2.2.2 _ _) (fun q => by cases q) (by rw [arrV_size]; exact hp2.1) (by rw [arrV_read _ _ hlt]) rfl rfl d_ kk
    · have hk := Nat.eq_of_beq_eq_true hk0
      subst hk
      have h2 : h.2.2.2.1 19 = 2 := hHP.2.2.2.1.2.2.2.2.2.1
      obtain ⟨-, -, -, cell, t1, t2, t3, t4, t5, t6, -⟩ := hKC.2.2.1.1 a (by omega)
      obtain ⟨hl1, hl2⟩ := hHP.2.2.2.1.2.2.1 a (by omega)
      exact W.bald (v := .int (h.1 19 a x.toNatClampNeg)) hx hb t1 t2 t3 (fun q => hp2.1 (q.imp id (fun z => by rw [hl1]; exact Nat.le_trans t4 z))) (by rw [t6 _ (by rw [← hl1]; exact hlt), hl2]) rfl rfl d_ kk
  · exact hop.elim
theorem s_alen {Tm : Nat → ai_Mt} {M : ai_Mt} {pc nx : Nat} (d_ : decode M.2.1 pc = .ok (.arraylength, 1)) (hn : pc + 1 = nx) : ai_Sn Tm M pc (op_alen nx) := by
  intro Γ d Cc Q P hC hRo hCl hR hP u w lo st h hop
  obtain ⟨l, R, p, e, s, m, args, below, meth, cd, Qm, D, cA, n0, vz, L, xs, ad0, h0⟩ := Γ
  obtain ⟨hx, hb, hml, hown, hts, hnm, hrc, hrs⟩ := hC
  unfold op_alen at hop
  split at hop
  · rename_i k a r
    obtain ⟨hk0, hp2⟩ := ai_condT hop
    clear hop
    rw [Bool.and_eq_true, Bool.or_eq_true] at hk0
    intro ad H locs ls hE hHP hKC hvl hvs hlv hS hu hw
    subst hn
    have ha : a < h.2.2.2.1 k := ai_ok1 hvs
    have kk := hP _ _ _ _ _ _ hp2 ad H locs ls hE hHP hKC hvl (ai_okc trivial (ai_ok2 hvs)) hlv hS hu hw
    have hk1 : 13 ≤ k := Nat.le_of_ble_eq_true hk0.1
    have hk2 : k ≤ 17 ∨ k = 19 := hk0.2.imp Nat.le_of_ble_eq_true Nat.eq_of_beq_eq_true
    have hk3 : k = 14 ∨ (k = 13 ∨ k = 15 ∨ k = 16) ∨ k = 17 ∨ k = 19 := by omega
    rw [List.map_cons, ai_cvr vz ad (by omega)]
    rcases hk3 with hk | hk | hk | hk
    · subst hk
      exact W.alen (n := Int32.ofNat (h.2.2.2.2 14 a)) hx hb (ai_arrL hHP ha) ((ai_isA hKC).2.1 _ _) (by rw [arrV_size] <;> rfl) rfl rfl d_ kk
    · have hA := ai_arrJ hHP hk ha
      rcases hk with hk | hk | hk
      · subst hk
        exact W.alen (n := Int32.ofNat (h.2.2.2.2 13 a)) hx hb hA ((ai_isA hKC).1 _ _) (by rw [arrV_size] <;> rfl) rfl rfl d_ kk
      · subst hk
        exact W.alen (n := Int32.ofNat (h.2.2.2.2 15 a)) hx hb hA ((ai_isA hKC).2.2.1 _ _) (by rw [arrV_size] <;> rfl) rfl rfl d_ kk
      · subst hk
        exact W.alen (n := Int32.ofNat (h.2.2.2.2 16 a)) hx hb hA ((ai_isA hKC).2.2.2 _ _) (by rw [arrV_size] <;> rfl) rfl rfl d_ kk
    · subst hk
      obtain ⟨⟨scr, x1, x2, x3, x4, x5⟩, -⟩ := hKC.2.1
      have h1 : h.2.2.2.1 17 = 1 := hHP.2.2.2.1.2.2.2.1
      have ha0 : a = 0 := by omega
      subst ha0
      have hL : h.2.2.2.2 17 0 = L := hHP.2.2.2.1.2.1
      exact W.alen (n := Int32.ofNat (h.2.2.2.2 17 0)) hx hb x1 x2 (by rw [x4, hL] <;> rfl) rfl rfl d_ kk
    · subst hk
      have h2 : h.2.2.2.1 19 = 2 := hHP.2.2.2.1.2.2.2.2.2.1
      obtain ⟨-, -, -, cell, t1, t2, t3, t4, t5, t6, -⟩ := hKC.2.2.1.1 a (by omega)
      obtain ⟨hl1, hl2⟩ := hHP.2.2.2.1.2.2.1 a (by omega)
      exact W.alen (n := Int32.ofNat (h.2.2.2.2 19 a)) hx hb t1 t2 (by rw [t5, hl1]) rfl rfl d_ kk
  · exact hop.elim
theorem ai_cellJ {D : va_G} {cA : Nat → ClassId} {ad : Nat → Nat → Nat} {h1 : ai_H} {H1 : Heap} {k a : Nat} (hk : k = 13 ∨ k = 15 ∨ k = 16) (e : H1[ad k a]? = some (arrV (cA k) (h1.2.2.2.2 k a) (fun j => .int (h1.1 k a j)))) : ai_cell D cA ad h1 k a H1 := by
  refine ⟨fun r hr => ?_, fun q => by omega, fun _ => e⟩
  have : vwCl[k]? = none := by rcases hk with rfl | rfl | rfl <;> rfl
  rw [this] at hr
  cases hr
theorem ai_cellL {D : va_G} {cA : Nat → ClassId} {ad : Nat → Nat → Nat} {h1 : ai_H} {H1 : Heap} {a : Nat} (e : H1[ad 14 a]? = some (arrV (cA 14) (h1.2.2.2.2 14 a) (fun j => .long (h1.2.1 14 a j)))) : ai_cell D cA ad h1 14 a H1 := by
  refine ⟨fun r hr => ?_, fun _ => e, fun q => by omega⟩
  have : vwCl[14]? = none := rfl
  rw [this] at hr
  cases hr
theorem ai_storeJ (cI : ClassId) (N k : Nat) (f : Nat → Nat → Nat → Int32) (c a : Nat) (x : Int32) : (arrV cI N (fun j => .int (f c a j))).setSlot k (.int x) = arrV cI N (fun j => .int (ai_up3 f c a k x c a j)) := by
  rw [arrV_store]
  congr 1
  funext q
  rw [ai_up3_at]
  unfold updV
  by_cases hq : q = k
  · rw [if_pos hq, if_pos hq]
  · rw [if_neg hq, if_neg hq]
theorem ai_storeL (cI : ClassId) (N k : Nat) (f : Nat → Nat → Nat → Int64) (c a : Nat) (x : Int64) : (arrV cI N (fun j => .long (f c a j))).setSlot k (.long x) = arrV cI N (fun j => .long (ai_up3 f c a k x c a j)) := by
  rw [arrV_store]
  congr 1
  funext q
  rw [ai_up3_at]
  unfold updV
  by_cases hq : q = k
  · rw [if_pos hq, if_pos hq]
  · rw [if_neg hq, if_neg hq]
theorem s_iast {Tm : Nat → ai_Mt} {M : ai_Mt} {pc nx : Nat} (d_ : decode M.2.1 pc = .ok (.iastore, 1)) (hn : pc + 1 = nx) : ai_Sn Tm M pc (op_iast nx) := by
  intro Γ d Cc Q P hC hRo hCl hR hP u w lo st h hop
  obtain ⟨l, R, p, e, s, m, args, below, meth, cd, Qm, D, cA, n0, vz, L, xs, ad0, h0⟩ := Γ
  obtain ⟨hx, hb, hml, hown, hts, hnm, hrc, hrs⟩ := hC
  unfold op_iast at hop
  split at hop
  · rename_i v x k a r
    obtain ⟨hk0, hp2⟩ := ai_condT hop
    clear hop
    have hk := Nat.eq_of_beq_eq_true hk0
    subst hk
    intro ad H locs ls hE hHP hKC hvl hvs hlv hS hu hw
    subst hn
    have ha : a < h.2.2.2.1 13 := ai_ok1 (ai_ok2 (ai_ok2 hvs))
    have hn0 := (hHP.1 13 a (by decide) ha).2.1
    refine W.iast hx hb (ai_arrJ hHP (Or.inl rfl) ha) ((ai_isA hKC).1 _ _) (fun q => by cases q) (by rw [arrV_size]; exact hp2.1) rfl rfl d_ fun H1 e1 z oq => ?_
    rw [ai_storeJ] at e1
    exact hP _ _ _ _ _ _ hp2.2 ad H1 _ ls hE (ai_HP_put hHP (by decide) ha rfl (fun c' i' ho => ⟨fun j' => ai_up3_off ho j', fun _ => rfl, fun _ => rfl⟩) z oq (ai_cellJ (Or.inl rfl) e1) hHP.2.2.1) (ai_KC_kept hKC (fun q hq1 hq2 => oq q (fun z => hq2 (by rw [z]; exact hn0))) (by rw [z]; exact hKC.2.2.2.2.2.2.2.1)) hvl (ai_ok2 (ai_ok2 (ai_ok2 hvs))) hlv (hS.put z oq hn0) hu hw
  · exact hop.elim
theorem s_last {Tm : Nat → ai_Mt} {M : ai_Mt} {pc nx : Nat} (d_ : decode M.2.1 pc = .ok (.lastore, 1)) (hn : pc + 1 = nx) : ai_Sn Tm M pc (op_last nx) := by
  intro Γ d Cc Q P hC hRo hCl hR hP u w lo st h hop
  obtain ⟨l, R, p, e, s, m, args, below, meth, cd, Qm, D, cA, n0, vz, L, xs, ad0, h0⟩ := Γ
  obtain ⟨hx, hb, hml, hown, hts, hnm, hrc, hrs⟩ := hC
  unfold op_last at hop
  split at hop
  · rename_i v x k a r
    obtain ⟨hk0, hp2⟩ := ai_condT hop
    clear hop
    have hk := Nat.eq_of_beq_eq_true hk0
    subst hk
    intro ad H locs ls hE hHP hKC hvl hvs hlv hS hu hw
    subst hn
    have ha : a < h.2.2.2.1 14 := ai_ok1 (ai_ok2 (ai_ok2 hvs))
    have hn0 := (hHP.1 14 a (by decide) ha).2.1
    refine W.last hx hb (ai_arrL hHP ha) ((ai_isA hKC).2.1 _ _) (fun q => by cases q) (by rw [arrV_size]; exact hp2.1) rfl rfl d_ fun H1 e1 z oq => ?_
    rw [ai_storeL] at e1
    exact hP _ _ _ _ _ _ hp2.2 ad H1 _ ls hE (ai_HP_put hHP (by decide) ha rfl (fun c' i' ho => ⟨fun _ => rfl, fun j' => ai_up3_off ho j', fun _ => rfl⟩) z oq (ai_cellL e1) hHP.2.2.1) (ai_KC_kept hKC (fun q hq1 hq2 => oq q (fun z => hq2 (by rw [z]; exact hn0))) (by rw [z]; exact hKC.2.2.2.2.2.2.2.1)) hvl (ai_ok2 (ai_ok2 (ai_ok2 hvs))) hlv (hS.put z oq hn0) hu hw
  · exact hop.elim
theorem s_bast {Tm : Nat → ai_Mt} {M : ai_Mt} {pc nx : Nat} (d_ : decode M.2.1 pc = .ok (.bastore, 1)) (hn : pc + 1 = nx) : ai_Sn Tm M pc (op_bast nx) := by
  intro Γ d Cc Q P hC hRo hCl hR hP u w lo st h hop
  obtain ⟨l, R, p, e, s, m, args, below, meth, cd, Qm, D, cA, n0, vz, L, xs, ad0, h0⟩ := Γ
  obtain ⟨hx, hb, hml, hown, hts, hnm, hrc, hrs⟩ := hC
  unfold op_bast at hop
  split at hop
  · rename_i v x k a r
    intro ad H locs ls hE hHP hKC hvl hvs hlv hS hu hw
    subst hn
    have ha : a < h.2.2.2.1 k := ai_ok1 (ai_ok2 (ai_ok2 hvs))
    cases hk15 : Nat.beq k 15 with
    | true =>
      rw [hk15] at hop
      have hk := Nat.eq_of_beq_eq_true hk15
      subst hk
      have hn0 := (hHP.1 15 a (by decide) ha).2.1
      refine W.bast hx hb (ai_arrJ hHP (Or.inr (Or.inl rfl)) ha) ((ai_isA hKC).2.2.1 _ _) (fun q => by cases q) (by rw [arrV_size]; exact hop.1) rfl rfl d_ fun H1 e1 z oq => ?_
      rw [show narrow .byte (.int v) = .int v.toInt8.toInt32 from rfl, ai_storeJ] at e1
      exact hP _ _ _ _ _ _ hop.2 ad H1 _ ls hE (ai_HP_put hHP (by decide) ha rfl (fun c' i' ho => ⟨fun j' => ai_up3_off ho j', fun _ => rfl, fun _ => rfl⟩) z oq (ai_cellJ (Or.inr (Or.inl rfl)) e1) hHP.2.2.1) (ai_KC_kept hKC (fun q hq1 hq2 => oq q (fun z => hq2 (by rw [z]; exact hn0))) (by rw [z]; exact hKC.2.2.2.2.2.2.2.1)) hvl (ai_ok2 (ai_ok2 (ai_ok2 hvs))) hlv (hS.put z oq hn0) hu hw
    | false =>
      rw [hk15] at hop
      obtain ⟨hk0, hp2⟩ := ai_condT hop
      have hk := Nat.eq_of_beq_eq_true hk0
      subst hk
      have hn0 := (hHP.1 16 a (by decide) ha).2.1
      refine W.zast hx hb (ai_arrJ hHP (Or.inr (Or.inr rfl)) ha) ((ai_isA hKC).2.2.2 _ _) (fun q => by cases q) (by rw [arrV_size]; exact hp2.1) rfl rfl d_ fun H1 e1 z oq => ?_
      rw [show narrow .boolean (.int v) = .int (v &&& 1) from rfl, ai_storeJ] at e1
      exact hP _ _ _ _ _ _ hp2.2 ad H1 _ ls hE (ai_HP_put hHP (by decide) ha rfl (fun c' i' ho => ⟨fun j' => ai_up3_off ho j', fun _ => rfl, fun _ => rfl⟩) z oq (ai_cellJ (Or.inr (Or.inr rfl)) e1) hHP.2.2.1) (ai_KC_kept hKC (fun q hq1 hq2 => oq q (fun z => hq2 (by rw [z]; exact hn0))) (by rw [z]; exact hKC.2.2.2.2.2.2.2.1)) hvl (ai_ok2 (ai_ok2 (ai_ok2 hvs))) hlv (hS.put z oq hn0) hu hw
  · exact hop.elim
