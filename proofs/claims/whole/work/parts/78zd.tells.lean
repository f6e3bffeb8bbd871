/-! PAIR: read: tells of kinds, islands, wants, losses, wears -/
def TO (B : Nat → Nat) (n sz a sp : Nat) (H G : sh_H) (e : Option sh_H) (m : Option (Int32 × sh_H)) : Prop := (∃ H' G' a' lf' lt' N' z' A' V', e = some H' ∧ m = some (1, G') ∧ PS B n sz a' lf' lt' H' G' ∧ CX B n a' lf' sp N' z' A' V' H' G' ∧ a + 1 < a' ∧ yC sp H' H ∧ yM G' G) ∨ (∃ F T H' G', e = some H' ∧ m = some (0, G') ∧ TF B n sz sp H G F T H' G')
theorem TO_fail {B : Nat → Nat} {n sz a sp F T : Nat} {H G H1 G1 : sh_H} {e : Option sh_H} {m : Option (Int32 × sh_H)} (tf : TF B n sz sp H G F T H1 G1) (dw : ∃ H', e = some H' ∧ DS sp F T H' H) (hm : m = some (0, G1)) : TO B n sz a sp H G e m := by
  obtain ⟨H', e1, d⟩ := dw
  exact Or.inr ⟨F, T, H', G1, e1, hm, tf.1, d, tf.2.2⟩
def DW (sp F T : Nat) (H0 : sh_H) (e : Option sh_H) : Prop := ∃ H', e = some H' ∧ DS sp F T H' H0
theorem DW_some {sp F T : Nat} {H H0 : sh_H} (d : DS sp F T H H0) : DW sp F T H0 (some H) := ⟨H, rfl, d⟩
theorem DW_expect {sp F T : Nat} {H H0 : sh_H} {x : Int32} {K : sh_H → Option sh_H} (d : DS sp F T H H0) (k : DW sp F T H0 (K H)) : DW sp F T H0 (Option.bind (f_Reader_expect x H) K) := by
  rw [DS_expect d]; exact k
theorem DW_put {sp F T j : Nat} {H H0 : sh_H} {x y v : Int32} {K : sh_H → Option sh_H} (hp : sp < 2) (hj : j < 7) (d : DS sp F T H H0) (k : ∀ H', DS sp F T H' H0 → DW sp F T H0 (K H')) : DW sp F T H0 (Option.bind (f_Rows_put (7 * sp + j) x y v H) K) := by
  obtain ⟨H', e, d'⟩ := DS_put hp hj d x y v
  rw [e]; exact k H' d'
theorem DW_num {sp F T : Nat} {H H0 : sh_H} {x y : Int32} {K : Int32 → sh_H → Option sh_H} (hp : sp < 2) (d : DS sp F T H H0) (k : ∀ v H', DS sp F T H' H0 → DW sp F T H0 (K v H')) : DW sp F T H0 (sh_b2 (f_Reader_number x y H) K) := by
  obtain ⟨v, H', e, d'⟩ := DS_number hp d x y
  rw [e]; exact k v H' d'
theorem DW_kind {sp F T : Nat} {H H0 : sh_H} {K : Int32 → sh_H → Option sh_H} (hp : sp < 2) (d : DS sp F T H H0) (k : ∀ v H', DS sp F T H' H0 → DW sp F T H0 (K v H')) : DW sp F T H0 (sh_b2 (f_Reader_kindTold NF H) K) := by
  obtain ⟨v, H', e, d'⟩ := DS_kind hp d
  rw [e]; exact k v H' d'
theorem DW_place {sp F T : Nat} {H H0 : sh_H} {x : Int32} {K : Int32 → sh_H → Option sh_H} (hp : sp < 2) (d : DS sp F T H H0) (k : ∀ v H', DS sp F T H' H0 → DW sp F T H0 (K v H')) : DW sp F T H0 (sh_b2 (f_Reader_placeTold NF x H) K) := by
  obtain ⟨v, H', e, d'⟩ := DS_place hp d x
  rw [e]; exact k v H' d'
theorem DW_new {sp F T l : Nat} {H H0 : sh_H} {x : Int32} {K : sh_H → Option sh_H} (hp : sp < 2) (hl : l = 1 ∨ l = 2) (d : DS sp F T H H0) (k : ∀ H', DS sp F T H' H0 → DW sp F T H0 (K H')) : DW sp F T H0 (Option.bind (f_Reader_newName NF l x H) K) := by
  obtain ⟨H', e, d'⟩ := DS_new hp hl d x
  rw [e]; exact k H' d'
theorem DW_eq {sp F T j : Nat} {H H0 : sh_H} (hp : sp < 2) (hj : j < 7) (d : DS sp F T H H0) : DW sp F T H0 (f_Reader_equation NF (7 * sp + j) sp H) := DS_eq hp hj d
theorem DW_later {sp F T : Nat} {H H0 : sh_H} {x y : Int32} {K : sh_H → Option sh_H} (hp : sp < 2) (d : DS sp F T H H0) (k : ∀ H', DS sp F T H' H0 → DW sp F T H0 (K H')) : DW sp F T H0 (Option.bind (f_Reader_failLater x y H) K) := by
  obtain ⟨H', e, d'⟩ := DS_later hp d x y
  rw [e]; exact k H' d'
theorem DW_up {sp F T : Nat} {H H0 : sh_H} {K : Int32 → Option sh_H} (k : ∀ v, DW sp F T H0 (K v)) : DW sp F T H0 (Option.bind (f_Reader_upcoming H) K) := by
  obtain ⟨v, e⟩ := up_tot H
  rw [e]; exact k v
theorem DW_acc {sp F T : Nat} {H H0 : sh_H} {K : sh_H → Option sh_H} (d : DS sp F T H H0) (k : DW sp F T H0 (K H)) : DW sp F T H0 (Option.bind (f_Reader_accept H) K) := by
  rw [D_accept d.1]; exact k
theorem DW_boat {sp F T : Nat} {H H0 : sh_H} {x y : Int32} {K : Int32 → Option sh_H} (hp : sp < 2) (d : DS sp F T H H0) (k : ∀ v, DW sp F T H0 (K v)) : DW sp F T H0 (Option.bind (f_Text_boatOf NF sp x y H) K) := by
  obtain ⟨nb, b1, b2⟩ := d.2.2.2
  obtain ⟨v, e⟩ := boatOf_tot hp b1 b2 x y
  rw [e]; exact k v
theorem DW_if {sp F T : Nat} {H0 : sh_H} {c : Prop} [Decidable c] {x y : Option sh_H} (h1 : DW sp F T H0 x) (h2 : DW sp F T H0 y) : DW sp F T H0 (if c then x else y) := by
  split
  · exact h1
  · exact h2
theorem DW_bs {sp F T : Nat} {H0 : sh_H} {x : Option sh_H} (h : DW sp F T H0 x) : DW sp F T H0 (Option.bind x (fun h => some h)) := by
  obtain ⟨H', e, d⟩ := h
  rw [e]; exact ⟨H', rfl, d⟩
theorem nIe (a b c : Nat) : nI a + nI b * nI c = nI (a + b * c) := by rw [q_mul, nI_add]
theorem rel0 {U0 : Nat → Int32} {a b c : Int32} : relV 0 (up1 (up1 (up1 (fun _ => 0) 0 a) 1 b) 2 c) (up1 (up1 (up1 U0 0 a) 1 b) 2 c) := by
  refine ⟨fun d hd h9 => ?_, fun z => by omega⟩
  match d, hd, h9 with
  | 0, _, _ => rfl
  | 1, _, _ => rfl
  | 2, _, _ => rfl
  | 3, _, h => exact absurd h (by decide)
  | 4, _, h => exact absurd h (by decide)
theorem rel1 {U0 : Nat → Int32} {a b : Int32} : relV 1 (up1 (up1 (fun _ => 0) 0 a) 1 b) (up1 (up1 U0 0 a) 1 b) := by
  refine ⟨fun d hd h9 => ?_, fun z => by omega⟩
  match d, hd, h9 with
  | 0, _, _ => rfl
  | 1, _, _ => rfl
  | 2, _, h => exact absurd h (by decide)
  | 3, _, h => exact absurd h (by decide)
  | 4, _, h => exact absurd h (by decide)
theorem CX.nm {B : Nat → Nat} {n a lf sp : Nat} {N : Nat → Nat} {z : Nat} {A V : Nat → Nat} {H G : sh_H} (x : CX B n a lf sp N z A V H G) : NM B n lf (N 0) (N 1) H G := x.2.2.2.2.2.2.1
/-- the model's first look at its table -/
theorem M_tab {B : Nat → Nat} {n a lf sp j : Nat} {N : Nat → Nat} {z : Nat} {A V : Nat → Nat} {H G : sh_H} (hj : j < 7) (x : CX B n a lf sp N z A V H G) : f_M_told (nI j) G = some (nI (N j)) := (M_told2 (by omega) G).trans (congrArg some (x.2.1 j hj).2.2)
theorem nar_nar (v : Int32) : ai_nar 1 (ai_nar 1 v) = ai_nar 1 v := by
  show (v &&& 1) &&& 1 = v &&& 1
  rw [Int32.and_assoc, Int32.and_self]
theorem b2_nar (x : Option (Int32 × sh_H)) (k : sh_H → Option (Int32 × sh_H)) : sh_b2 (sh_b2 x (fun v h => some (ai_nar 1 v, h))) (fun v1 h2 => if v1 = 0 then some (0, h2) else k h2) = sh_b2 x (fun v h => if ai_nar 1 v = 0 then some (0, h) else k h) := by
  cases x with
  | none => rfl
  | some y => rfl
theorem b2_nar2 (x : Option (Int32 × sh_H)) (k : sh_H → Option (Int32 × sh_H)) : sh_b2 (sh_b2 x (fun v h => some (ai_nar 1 v, h))) (fun v1 h2 => if ai_nar 1 v1 = 0 then some (0, h2) else k h2) = sh_b2 x (fun v h => if ai_nar 1 v = 0 then some (0, h) else k h) := by
  cases x with
  | none => rfl
  | some y =>
    show (if ai_nar 1 (ai_nar 1 y.1) = 0 then _ else _) = (if ai_nar 1 y.1 = 0 then _ else _)
    rw [nar_nar]
theorem R_kind {B : Nat → Nat} {n sz a lf lt sp z : Nat} {N : Nat → Nat} {A V : Nat → Nat} {H G : sh_H} (hp : sp < 2) (p : PS B n sz a lf lt H G) (gg : tG B n a) (cx : CX B n a lf sp N z A V H G) : TO B n sz a sp H G (f_Reader_tellKind NF (7 * sp + 0) H) (sh_b2 (f_M_tellKind NF G) (fun v1 h2 => if ai_nar 1 v1 = 0 then some (0, h2) else semi h2)) := by
  have c2 := cx.2.1
  have n6 : N 0 ≤ 6 := (c2 0 (by omega)).1
  have n4 : N 1 ≤ 4 := (c2 1 (by omega)).1
  have za : z ≤ a := cx.2.2.2.2.2.1
  unfold f_Reader_tellKind f_M_tellKind
  rw [show f_M_told 0 G = _ from M_tab (j := 0) (by omega) cx, Option.bind_some]
  rcases TT_open (j := 0) hp (by omega) p gg cx.1 (c2 0 (by omega)).2.1 (c2 0 (by omega)).1 cx.qs with ⟨hlt, H1, G1, e1, e2, t1, g1⟩ | ⟨F, T, v, H1, G1, e1, e2, tf⟩
  · have hlt6 : N 0 < 6 := hlt
    rw [e1, sh_b2_some, if_neg (show ¬ nI (N 0) = 6 from nI_ne (b := 6) (by omega) (by omega) (by omega)), e2, sh_b2_some, if_neg q_10]
    rcases S_new (t := 0) (r := N 0) t1.1 (by omega) rfl (by rw [l14_n.1]; omega) n6 n4 t1.2.2.2.2.1.1 t1.2.2.2.2.1.2 with ⟨H2, G2, lf2, lt2, f1, f2, f3, f4, f5, f6, f7⟩ | ⟨F, T, H2, G2, f1, f2, f3, f4, f5, f6, f7⟩
    · have f1' : f_Reader_newName NF 1 (nI (N 0)) H1 = some H2 := f1
      have f2' : f_M_names NF 0 (nI (N 0)) G1 = some (1, G2) := f2
      rw [f1', Option.bind_some, f2', sh_b2_some, if_neg q_10]
      have t2 : TT B n sz (a + 1 + 1) lf2 lt2 sp 0 (N 0) z A V (N 0 + 1) (N 1) (fun _ => 0) (fun c => G.1 13 46 (2000 + tb_b 0 + tb_s 0 * N 0 + c)) H2 G2 H G := by
        obtain ⟨nb, b1, b2⟩ := t1.2.2.2.2.2
        refine ⟨f3, TS_N (by omega) hlt f4 f5 t1.2.1, CC_to (f4.1 _ _ _ (by omega)) (fun k => f4.1 _ _ _ (by omega)) t1.2.2.1, CM_to (fun j => f5.1 _ _ _ (by omega) (by omega)) t1.2.2.2.1, ⟨?_, fun l => ?_⟩, nb, b1, (f4.1 _ _ _ (by omega)).trans b2⟩
        · rw [f6]; congr 1; omega
        · have := (f7 l).2
          rw [if_pos rfl, if_pos rfl] at this
          exact this
      rcases TT_num (lo := 1) (hi := 500) hp (by omega) hlt (by omega) (by omega) t2 with ⟨v0, H3, G3, lf3, lt3, k1, k2, k3, k4, t3, k5, k6, k7, k8⟩ | ⟨F, T, v, H3, G3, k1, k2, tf⟩
      · obtain ⟨H4, p4, t4⟩ := TT_put (c := 0) hp (by omega) hlt (by decide) (nI v0) t3
        obtain ⟨G4, q4, t4', u4⟩ := TT_tell (c := 0) (k := 20 + 3 * N 0) (by omega) hlt (by decide) (by show 20 + 3 * N 0 = 20 + 3 * N 0 + 0; omega) (nI v0) t4
        have eb : (20 : Int32) + 3 * nI (N 0) = nI (20 + 3 * N 0) := nIe 20 3 (N 0)
        rw [show f_Reader_number 1 500 H2 = _ from k1, sh_b2_some, show f_Rows_put (7 * sp + 0) (nI (N 0)) 0 (nI v0) H3 = _ from p4, Option.bind_some, show f_M_takesInt 1 500 G2 = _ from k2, sh_b2_some, if_neg q_10, k3, eb, q4, Option.bind_some]
        rcases TT_num (lo := 1) (hi := 20) hp (by omega) hlt (by omega) (by omega) t4' with ⟨v1, H5, G5, lf5, lt5, m1, m2, m3, m4, t5, m5, m6, m7, m8⟩ | ⟨F, T, v, H5, G5, m1, m2, tf⟩
        · obtain ⟨H6, p6, t6⟩ := TT_put (c := 1) hp (by omega) hlt (by decide) (nI v1) t5
          obtain ⟨G6, q6, t6', u6⟩ := TT_tell (c := 1) (k := 20 + 3 * N 0 + 1) (by omega) hlt (by decide) rfl (nI v1) t6
          rw [show f_Reader_number 1 20 H4 = _ from m1, sh_b2_some, show f_Rows_put (7 * sp + 0) (nI (N 0)) 1 (nI v1) H5 = _ from p6, Option.bind_some, show f_M_takesInt 1 20 G4 = _ from m2, sh_b2_some, if_neg q_10, m3, nI_1, q6, Option.bind_some]
          rcases TT_num (lo := 0) (hi := 99) hp (by omega) hlt (by omega) (by omega) t6' with ⟨v2, H7, G7, lf7, lt7, o1, o2, o3, o4, t7, o5, o6, o7, o8⟩ | ⟨F, T, v, H7, G7, o1, o2, tf⟩
          · obtain ⟨H8, p8, t8⟩ := TT_put (c := 2) hp (by omega) hlt (by decide) (nI v2) t7
            obtain ⟨G8, q8, t8', u8⟩ := TT_tell (c := 2) (k := 20 + 3 * N 0 + 2) (by omega) hlt (by decide) rfl (nI v2) t8
            obtain ⟨G9, q9, t9, u9⟩ := TT_count (by omega) hlt (nI (N 0 + 1)) t8'
            rw [show f_Reader_number 0 99 H6 = _ from o1, sh_b2_some, show f_Rows_put (7 * sp + 0) (nI (N 0)) 2 (nI v2) H7 = _ from p8, Option.bind_some, show f_M_takesInt 0 99 G6 = _ from o2, sh_b2_some, if_neg q_10, o3, show (2 : Int32) = nI 2 from rfl, nI_add, q8, Option.bind_some, nI_1, show f_M_tell 0 (nI (N 0 + 1)) G8 = _ from q9, Option.bind_some, sh_b2_some, q_nar1, q_nar1, if_neg q_10]
            rcases TT_semi hp (by omega) hlt t9 with ⟨Hx, Gx, x1, x2, x3, x4⟩ | ⟨F, T, Hx, Gx, x1, x2, tf⟩
            · rw [x1, x2]
              refine Or.inl ⟨Hx, Gx, _, lf7, lt7, up0 N 0 (N 0 + 1), z, A, V, rfl, rfl, x3.1, CX_next (Vr := up1 (up1 (up1 (fun _ => 0) 0 (nI v0)) 1 (nI v1)) 2 (nI v2)) (Ur := up1 (up1 (up1 (fun c => G.1 13 46 (2000 + tb_b 0 + tb_s 0 * N 0 + c)) 0 (nI v0)) 1 (nI v1)) 2 (nI v2)) hp (by omega) rfl hlt cx x3.2.1 ((x4 _ (by omega) (by omega)).trans u9) x3.2.2.1 x3.2.2.2.1 cx.2.2.2.2.1 (Nat.le_refl _) (fun _ _ => rfl) (by omega) (N0' := N 0 + 1) (N1' := N 1) rfl rfl x3.2.2.2.2.1 (fun l7 => ?_), by omega, x3.2.1.2.2.2.2.1.r (by omega), x3.2.1.2.2.2.2.2.r (by omega) hlt⟩
              obtain ⟨l5, b7, b8⟩ := o5 l7
              obtain ⟨l3, b5, b6⟩ := m5 l5
              obtain ⟨l2, b3, b4⟩ := k5 l3
              exact ⟨(f7 l2).1, rel0, ⟨v0, b3, b4, rfl⟩, ⟨v1, b5, b6, rfl⟩, ⟨v2, b7, b8, rfl⟩⟩
            · rw [x1, x2]
              exact Or.inr ⟨F, T, Hx, Gx, rfl, rfl, tf⟩
          · rw [show f_Reader_number 0 99 H6 = _ from o1, sh_b2_some, show f_M_takesInt 0 99 G6 = _ from o2, sh_b2_some, if_pos rfl, q_nar0, sh_b2_some, q_nar0, if_pos rfl]
            exact TO_fail tf (DW_put hp (by omega) tf.2.1 (fun H d => DW_expect d (DW_some d))) rfl
        · rw [show f_Reader_number 1 20 H4 = _ from m1, sh_b2_some, show f_M_takesInt 1 20 G4 = _ from m2, sh_b2_some, if_pos rfl, q_nar0, sh_b2_some, q_nar0, if_pos rfl]
          exact TO_fail tf (DW_put hp (by omega) tf.2.1 (fun H d => DW_num hp d (fun v H d => DW_put hp (by omega) d (fun H d => DW_expect d (DW_some d))))) rfl
      · rw [show f_Reader_number 1 500 H2 = _ from k1, sh_b2_some, show f_M_takesInt 1 500 G2 = _ from k2, sh_b2_some, if_pos rfl, q_nar0, sh_b2_some, q_nar0, if_pos rfl]
        exact TO_fail tf (DW_put hp (by omega) tf.2.1 (fun H d => DW_num hp d (fun v H d => DW_put hp (by omega) d (fun H d => DW_num hp d (fun v H d => DW_put hp (by omega) d (fun H d => DW_expect d (DW_some d))))))) rfl
    · have tf := TF_of hp (by omega) hlt t1 f3 f4 f5 f6.r (fun i k => f6.1 _ _ _ (by omega)) f7.y
      rw [show f_Reader_newName NF 1 (nI (N 0)) H1 = some H2 from f1, Option.bind_some, show f_M_names NF 0 (nI (N 0)) G1 = some (0, G2) from f2, sh_b2_some, if_pos rfl, q_nar0, sh_b2_some, q_nar0, if_pos rfl]
      exact TO_fail tf (DW_num hp tf.2.1 (fun v H d => DW_put hp (by omega) d (fun H d => DW_num hp d (fun v H d => DW_put hp (by omega) d (fun H d => DW_num hp d (fun v H d => DW_put hp (by omega) d (fun H d => DW_expect d (DW_some d)))))))) rfl
  · have dw : DW sp F T H (Option.bind (f_Reader_newName NF 1 v H1) (fun h3 => (sh_b2 (f_Reader_number (1 : Int32) (500 : Int32) h3) (fun v4 h5 => (Option.bind (f_Rows_put (7 * sp + 0) v (0 : Int32) v4 h5) (fun h6 => (sh_b2 (f_Reader_number (1 : Int32) (20 : Int32) h6) (fun v7 h8 => (Option.bind (f_Rows_put (7 * sp + 0) v (1 : Int32) v7 h8) (fun h9 => (sh_b2 (f_Reader_number (0 : Int32) (99 : Int32) h9) (fun v10 h11 => (Option.bind (f_Rows_put (7 * sp + 0) v (2 : Int32) v10 h11) (fun h12 => (Option.bind (f_Reader_expect (59 : Int32) h12) (fun h13 => (some h13))))))))))))))))) := DW_new hp (Or.inl rfl) tf.2.1 (fun H d => DW_num hp d (fun v H d => DW_put hp (by omega) d (fun H d => DW_num hp d (fun v H d => DW_put hp (by omega) d (fun H d => DW_num hp d (fun v H d => DW_put hp (by omega) d (fun H d => DW_expect d (DW_some d))))))))
    rw [e1, sh_b2_some]
    refine TO_fail tf dw ?_
    rcases e2 with ⟨h1, h2⟩ | ⟨h1, h2⟩
    · have : N 0 < 6 := h1
      rw [if_neg (show ¬ nI (N 0) = 6 from nI_ne (b := 6) (by omega) (by omega) (by omega)), h2, sh_b2_some, if_pos rfl, q_nar0, sh_b2_some, q_nar0, if_pos rfl]
    · have : N 0 = 6 := h1
      rw [if_pos (show nI (N 0) = 6 by rw [this]; rfl), h2, sh_b2_some, q_nar0, if_pos rfl]
