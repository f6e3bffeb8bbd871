/-! THE LAW'S LOOP: written by program (wip/whole/gen/law.py) -/
theorem law_g {α : Type} {c : Prop} [Decidable c] {a : Option α} {R : α → Prop} (hc : c) (x : sh_ok a R) : sh_ok (if c then a else none) R := by rw [if_pos hc]; exact x
theorem law_i {α : Type} {c : Prop} [Decidable c] {a b : Option α} {R : α → Prop} (hc : c) (x : sh_ok a R) : sh_ok (if c then a else b) R := by rw [if_pos hc]; exact x
theorem law_b {α : Type} {c : Prop} [Decidable c] {a b : Option α} {R : α → Prop} (x : c → sh_ok a R) (y : ¬ c → sh_ok b R) : sh_ok (if c then a else b) R := by
  by_cases hc : c
  · rw [if_pos hc]; exact x hc
  · rw [if_neg hc]; exact y hc
theorem law_e {α β : Type} {o : Option (α × sh_H)} {r : α} {h : sh_H} {f : α → sh_H → Option β} {R : β → Prop} (e : o = some (r, h)) (x : sh_ok (f r h) R) : sh_ok (sh_b2 o f) R := by rw [e]; exact x
theorem law_r {α β : Type} {o : Option α} {r : α} {f : α → Option β} {R : β → Prop} (e : o = some r) (x : sh_ok (f r) R) : sh_ok (Option.bind o f) R := by rw [e]; exact x
theorem law_ww {α β : Type} {F G : sh_H → Option (α × sh_H)} (p : Pair F G) {c : Nat} {h : sh_H} (hc : c < 512) (hS : St c h h) {K : α → sh_H → Option β} {R : β → Prop} (k : ∀ r h1 h2, G h1 = some (r, h2) → St (c + 1) h2 h2 → xEq h1 h → xEq h2 h → sh_ok (K r h1) R) : sh_ok (sh_b2 (F h) K) R := by
  obtain ⟨r, h1, h2, e1, e2, s, x1, x2⟩ := p.law hc hS
  exact law_e e1 (k r h1 h2 e2 s x1 x2)
theorem law_wr {α β : Type} {F : sh_H → Option (α × sh_H)} {G : sh_H → Option α} (p : Pair F (rdr G)) {c : Nat} {h : sh_H} (hc : c < 512) (hS : St c h h) {K : α → sh_H → Option β} {R : β → Prop} (k : ∀ r h1, G h1 = some r → St (c + 1) h1 h1 → xEq h1 h → sh_ok (K r h1) R) : sh_ok (sh_b2 (F h) K) R := by
  obtain ⟨r, h1, h2, e1, e2, s, x1, x2⟩ := p.law hc hS
  unfold rdr at e2
  cases hg : G h1 with
  | none => rw [hg] at e2; cases e2
  | some v =>
    rw [hg] at e2
    obtain ⟨rfl, rfl⟩ := Prod.mk.inj (Option.some.inj e2)
    exact law_e e1 (k v h1 hg s x1)
theorem law_rr {α β : Type} {F G : sh_H → Option α} (p : PairR F G) {c : Nat} {h : sh_H} (hc : c < 512) (hS : St c h h) {K : α → Option β} {R : β → Prop} (k : ∀ r, G h = some r → sh_ok (K r) R) : sh_ok (Option.bind (F h) K) R := by
  obtain ⟨r, e1, e2⟩ := p c h h hc hS
  exact law_r e1 (k r e2)
theorem law_cmp (r : Int64) : lg_cmp r r = 0 := by
  unfold lg_cmp
  simp
theorem law_in {c k L : Nat} (hk : k < 8) (hL : L ≤ 4096) (hc : 8 * c + 8 ≤ L) : ai_in (nI (8 * c) + nI k) L := by
  rw [nI_add]; exact q_in (by omega) (by omega)
theorem law_n {α : Type} {c : Prop} [Decidable c] {a b : Option α} {R : α → Prop} (hc : ¬ c) (x : sh_ok b R) : sh_ok (if c then a else b) R := by rw [if_neg hc]; exact x

set_option maxRecDepth 100000 in
theorem law_body {xs : Nat → Int32} {L c : Nat} (hL : L ≤ 4096) {k18 : Int32 → sh_H → Option (Int32 × sh_H)} (ih : ∀ h, St (c + 1) h h → (∀ j, h.1 17 0 j = xs j) → h.2.2.2.2 = L → sh_ok (k18 (nI (8 * (c + 1))) h) (fun q => q.1 = 1)) {h : sh_H} (hS : St c h h) (hx : ∀ j, h.1 17 0 j = xs j) (hl : h.2.2.2.2 = L) (hin : 8 * c + 8 ≤ L) : sh_ok (f_law_c18 NF k18 (nI (8 * c)) h) (fun q => q.1 = 1) := by
  have hc : c < 512 := by omega
  have g : ∀ k, k < 8 → ∀ h1, xEq h1 h → ai_in (nI (8 * c) + nI k) h1.2.2.2.2 := by
    intro k hk h1 e
    rw [e.2, hl]
    exact law_in hk hL hin
  have fin : ∀ h2, St (c + 1) h2 h2 → xEq h2 h → sh_ok (f_law_b2107 NF k18 (nI (8 * c)) h2) (fun q => q.1 = 1) := by
    intro h2 s x
    unfold f_law_b2107
    rw [show (8 : Int32) = nI 8 from rfl, nI_add]
    exact ih h2 s (fun j => (x.1 j).trans (hx j)) (x.2.trans hl)
  unfold f_law_c18
  refine law_b (fun q => ?_) (fun _ => ?_)
  · rfl
  have g0 : ai_in (nI (8 * c)) h.2.2.2.2 := by rw [hl]; exact q_in (by omega) (by omega)
  refine law_g g0 ?_
  refine law_b (fun _ => ?_) (fun _ => ?_)
  · refine law_g (g 1 (by decide) h (xEq.rf h)) (law_g (g 2 (by decide) h (xEq.rf h)) (law_g (g 3 (by decide) h (xEq.rf h)) (law_g (g 4 (by decide) h (xEq.rf h)) (law_g (g 5 (by decide) h (xEq.rf h)) (law_ww (P_feed _ _ _ _ _) hc hS (fun r h1 h2 e2 s x1 x2 => ?_))))))
    simp only [x1.1]
    exact law_g (g 1 (by decide) h1 x1) (law_g (g 2 (by decide) h1 x1) (law_g (g 3 (by decide) h1 x1) (law_g (g 4 (by decide) h1 x1) (law_g (g 5 (by decide) h1 x1) (law_e e2 (law_i rfl (fin h2 s x2)))))))
  refine law_b (fun _ => ?_) (fun _ => ?_)
  · refine law_g (g 1 (by decide) h (xEq.rf h)) (law_ww (P_back _) hc hS (fun r h1 h2 e2 s x1 x2 => ?_))
    simp only [x1.1]
    exact law_g (g 1 (by decide) h1 x1) (law_e e2 (law_i rfl (fin h2 s x2)))
  refine law_b (fun _ => ?_) (fun _ => ?_)
  · refine law_ww (P_read ) hc hS (fun r h1 h2 e2 s x1 x2 => ?_)
    exact law_e e2 (law_i rfl (fin h2 s x2))
  refine law_b (fun _ => ?_) (fun _ => ?_)
  · exact law_rr (P_place ) hc hS (fun r e2 => law_r e2 (law_i rfl (fin h (St_up hS) (xEq.rf h))))
  refine law_b (fun _ => ?_) (fun _ => ?_)
  · exact law_g (g 1 (by decide) h (xEq.rf h)) (law_g (g 2 (by decide) h (xEq.rf h)) (law_rr (P_kind _ _) hc hS (fun r e2 => law_g (g 1 (by decide) h (xEq.rf h)) (law_g (g 2 (by decide) h (xEq.rf h)) (law_r e2 (law_i rfl (fin h (St_up hS) (xEq.rf h))))))))
  refine law_b (fun _ => ?_) (fun _ => ?_)
  · exact law_g (g 1 (by decide) h (xEq.rf h)) (law_g (g 2 (by decide) h (xEq.rf h)) (law_rr (P_island _ _) hc hS (fun r e2 => law_g (g 1 (by decide) h (xEq.rf h)) (law_g (g 2 (by decide) h (xEq.rf h)) (law_r e2 (law_i rfl (fin h (St_up hS) (xEq.rf h))))))))
  refine law_b (fun _ => ?_) (fun _ => ?_)
  · exact law_g (g 1 (by decide) h (xEq.rf h)) (law_g (g 2 (by decide) h (xEq.rf h)) (law_rr (P_boat _ _) hc hS (fun r e2 => law_g (g 1 (by decide) h (xEq.rf h)) (law_g (g 2 (by decide) h (xEq.rf h)) (law_r e2 (law_i rfl (fin h (St_up hS) (xEq.rf h))))))))
  refine law_b (fun _ => ?_) (fun _ => ?_)
  · refine law_g (g 1 (by decide) h (xEq.rf h)) (law_g (g 2 (by decide) h (xEq.rf h)) (law_g (g 3 (by decide) h (xEq.rf h)) (law_ww (P_want _ _ _) hc hS (fun r h1 h2 e2 s x1 x2 => ?_))))
    simp only [x1.1]
    exact law_g (g 1 (by decide) h1 x1) (law_g (g 2 (by decide) h1 x1) (law_g (g 3 (by decide) h1 x1) (law_e e2 (law_i rfl (fin h2 s x2)))))
  refine law_b (fun _ => ?_) (fun _ => ?_)
  · refine law_g (g 1 (by decide) h (xEq.rf h)) (law_g (g 2 (by decide) h (xEq.rf h)) (law_ww (P_strike _ _) hc hS (fun r h1 h2 e2 s x1 x2 => ?_)))
    simp only [x1.1]
    exact law_g (g 1 (by decide) h1 x1) (law_g (g 2 (by decide) h1 x1) (law_e e2 (law_i rfl (fin h2 s x2))))
  refine law_b (fun _ => ?_) (fun _ => ?_)
  · refine law_g (g 1 (by decide) h (xEq.rf h)) (law_g (g 2 (by decide) h (xEq.rf h)) (law_ww (P_burn _ _) hc hS (fun r h1 h2 e2 s x1 x2 => ?_)))
    simp only [x1.1]
    exact law_g (g 1 (by decide) h1 x1) (law_g (g 2 (by decide) h1 x1) (law_e e2 (law_i rfl (fin h2 s x2))))
  refine law_b (fun _ => ?_) (fun _ => ?_)
  · refine law_g (g 1 (by decide) h (xEq.rf h)) (law_g (g 2 (by decide) h (xEq.rf h)) (law_g (g 3 (by decide) h (xEq.rf h)) (law_g (g 4 (by decide) h (xEq.rf h)) (law_ww (P_lay _ _ _ _) hc hS (fun r h1 h2 e2 s x1 x2 => ?_)))))
    simp only [x1.1]
    exact law_g (g 1 (by decide) h1 x1) (law_g (g 2 (by decide) h1 x1) (law_g (g 3 (by decide) h1 x1) (law_g (g 4 (by decide) h1 x1) (law_e e2 (law_i rfl (fin h2 s x2))))))
  refine law_b (fun _ => ?_) (fun _ => ?_)
  · exact law_g (g 1 (by decide) h (xEq.rf h)) (law_g (g 2 (by decide) h (xEq.rf h)) (law_g (g 3 (by decide) h (xEq.rf h)) (law_rr (P_has _ _ _) hc hS (fun r e2 => law_g (g 1 (by decide) h (xEq.rf h)) (law_g (g 2 (by decide) h (xEq.rf h)) (law_g (g 3 (by decide) h (xEq.rf h)) (law_r e2 (law_i rfl (fin h (St_up hS) (xEq.rf h))))))))))
  refine law_b (fun _ => ?_) (fun _ => ?_)
  · refine law_g (g 1 (by decide) h (xEq.rf h)) (law_g (g 2 (by decide) h (xEq.rf h)) (law_g (g 3 (by decide) h (xEq.rf h)) (law_g (g 4 (by decide) h (xEq.rf h)) (law_g (g 5 (by decide) h (xEq.rf h)) ((law_b (fun q => ?_) (fun q => ?_)))))))
    · unfold f_law_b678
      refine law_ww (P_send _ _ _ _ 0 (Or.inl rfl)) hc hS (fun r h1 h2 e2 s x1 x2 => ?_)
      simp only [x1.1]
      refine law_g (g 1 (by decide) h1 x1) (law_g (g 2 (by decide) h1 x1) (law_g (g 3 (by decide) h1 x1) (law_g (g 4 (by decide) h1 x1) (law_g (g 5 (by decide) h1 x1) (law_i q ?_)))))
      unfold f_law_b715
      exact law_e e2 (law_i rfl (fin h2 s x2))
    · unfold f_law_b678
      refine law_ww (P_send _ _ _ _ 1 (Or.inr rfl)) hc hS (fun r h1 h2 e2 s x1 x2 => ?_)
      simp only [x1.1]
      refine law_g (g 1 (by decide) h1 x1) (law_g (g 2 (by decide) h1 x1) (law_g (g 3 (by decide) h1 x1) (law_g (g 4 (by decide) h1 x1) (law_g (g 5 (by decide) h1 x1) (law_n q ?_)))))
      unfold f_law_b715
      exact law_e e2 (law_i rfl (fin h2 s x2))
  refine law_b (fun _ => ?_) (fun _ => ?_)
  · exact law_g (g 1 (by decide) h (xEq.rf h)) (law_rr (P_done _) hc hS (fun r e2 => law_g (g 1 (by decide) h (xEq.rf h)) (law_r e2 (law_i rfl (fin h (St_up hS) (xEq.rf h))))))
  refine law_b (fun _ => ?_) (fun _ => ?_)
  · refine law_ww (P_judge ) hc hS (fun r h1 h2 e2 s x1 x2 => ?_)
    exact law_e e2 (law_i rfl (fin h2 s x2))
  refine law_b (fun _ => ?_) (fun _ => ?_)
  · refine law_ww (P_why ) hc hS (fun r h1 h2 e2 s x1 x2 => ?_)
    exact law_e e2 (law_i rfl (fin h2 s x2))
  refine law_b (fun _ => ?_) (fun _ => ?_)
  · refine law_g (g 1 (by decide) h (xEq.rf h)) (law_g (g 2 (by decide) h (xEq.rf h)) (law_ww (P_months _ _) hc hS (fun r h1 h2 e2 s x1 x2 => ?_)))
    simp only [x1.1]
    exact law_g (g 1 (by decide) h1 x1) (law_g (g 2 (by decide) h1 x1) (law_e e2 (law_i rfl (fin h2 s x2))))
  refine law_b (fun _ => ?_) (fun _ => ?_)
  · exact law_g (g 1 (by decide) h (xEq.rf h)) (law_g (g 2 (by decide) h (xEq.rf h)) (law_rr (P_lacks _ _) hc hS (fun r e2 => law_g (g 1 (by decide) h (xEq.rf h)) (law_g (g 2 (by decide) h (xEq.rf h)) (law_r e2 (law_i rfl (fin h (St_up hS) (xEq.rf h))))))))
  refine law_b (fun _ => ?_) (fun _ => ?_)
  · exact law_g (g 1 (by decide) h (xEq.rf h)) (law_rr (P_spent _) hc hS (fun r e2 => law_g (g 1 (by decide) h (xEq.rf h)) (law_r e2 (law_i (law_cmp _) (fin h (St_up hS) (xEq.rf h))))))
  refine law_b (fun _ => ?_) (fun _ => ?_)
  · refine law_g (g 1 (by decide) h (xEq.rf h)) (law_g (g 2 (by decide) h (xEq.rf h)) (law_g (g 3 (by decide) h (xEq.rf h)) (law_ww (P_pay _ _ _) hc hS (fun r h1 h2 e2 s x1 x2 => ?_))))
    simp only [x1.1]
    exact law_g (g 1 (by decide) h1 x1) (law_g (g 2 (by decide) h1 x1) (law_g (g 3 (by decide) h1 x1) (law_e e2 (law_i rfl (fin h2 s x2)))))
  refine law_b (fun _ => ?_) (fun _ => ?_)
  · refine law_g (g 1 (by decide) h (xEq.rf h)) (law_g (g 2 (by decide) h (xEq.rf h)) (law_g (g 3 (by decide) h (xEq.rf h)) (law_g (g 4 (by decide) h (xEq.rf h)) (law_ww (P_change _ _ _ _) hc hS (fun r h1 h2 e2 s x1 x2 => ?_)))))
    simp only [x1.1]
    exact law_g (g 1 (by decide) h1 x1) (law_g (g 2 (by decide) h1 x1) (law_g (g 3 (by decide) h1 x1) (law_g (g 4 (by decide) h1 x1) (law_e e2 (law_i rfl (fin h2 s x2))))))
  refine law_b (fun _ => ?_) (fun _ => ?_)
  · refine law_g (g 1 (by decide) h (xEq.rf h)) (law_g (g 2 (by decide) h (xEq.rf h)) (law_ww (P_which _ _) hc hS (fun r h1 h2 e2 s x1 x2 => ?_)))
    simp only [x1.1]
    exact law_g (g 1 (by decide) h1 x1) (law_g (g 2 (by decide) h1 x1) (law_e e2 (law_i rfl (fin h2 s x2))))
  refine law_b (fun _ => ?_) (fun _ => ?_)
  · refine law_g (g 1 (by decide) h (xEq.rf h)) (law_g (g 2 (by decide) h (xEq.rf h)) (law_ww (P_whichSum _ _) hc hS (fun r h1 h2 e2 s x1 x2 => ?_)))
    simp only [x1.1]
    exact law_g (g 1 (by decide) h1 x1) (law_g (g 2 (by decide) h1 x1) (law_e e2 (law_i rfl (fin h2 s x2))))
  refine law_b (fun _ => ?_) (fun _ => ?_)
  · refine law_g (g 1 (by decide) h (xEq.rf h)) (law_g (g 2 (by decide) h (xEq.rf h)) (law_g (g 3 (by decide) h (xEq.rf h)) (law_g (g 4 (by decide) h (xEq.rf h)) (law_g (g 5 (by decide) h (xEq.rf h)) (law_g (g 6 (by decide) h (xEq.rf h)) (law_ww (P_least _ _ _ _ _ _) hc hS (fun r h1 h2 e2 s x1 x2 => ?_)))))))
    simp only [x1.1]
    exact law_g (g 1 (by decide) h1 x1) (law_g (g 2 (by decide) h1 x1) (law_g (g 3 (by decide) h1 x1) (law_g (g 4 (by decide) h1 x1) (law_g (g 5 (by decide) h1 x1) (law_g (g 6 (by decide) h1 x1) (law_e e2 (law_i (law_cmp _) (fin h2 s x2))))))))
  refine law_b (fun _ => ?_) (fun _ => ?_)
  · refine law_g (g 1 (by decide) h (xEq.rf h)) (law_g (g 2 (by decide) h (xEq.rf h)) (law_g (g 3 (by decide) h (xEq.rf h)) (law_g (g 4 (by decide) h (xEq.rf h)) (law_g (g 5 (by decide) h (xEq.rf h)) (law_g (g 6 (by decide) h (xEq.rf h)) (law_ww (P_order _ _ _ _ _ _) hc hS (fun r h1 h2 e2 s x1 x2 => ?_)))))))
    simp only [x1.1]
    exact law_g (g 1 (by decide) h1 x1) (law_g (g 2 (by decide) h1 x1) (law_g (g 3 (by decide) h1 x1) (law_g (g 4 (by decide) h1 x1) (law_g (g 5 (by decide) h1 x1) (law_g (g 6 (by decide) h1 x1) (law_e e2 (law_i rfl (fin h2 s x2))))))))
  refine law_b (fun _ => ?_) (fun _ => ?_)
  · refine law_g (g 1 (by decide) h (xEq.rf h)) (law_g (g 2 (by decide) h (xEq.rf h)) (law_g (g 3 (by decide) h (xEq.rf h)) (law_g (g 4 (by decide) h (xEq.rf h)) (law_g (g 5 (by decide) h (xEq.rf h)) (law_g (g 6 (by decide) h (xEq.rf h)) (law_ww (P_price _ _ _ _ _ _) hc hS (fun r h1 h2 e2 s x1 x2 => ?_)))))))
    simp only [x1.1]
    exact law_g (g 1 (by decide) h1 x1) (law_g (g 2 (by decide) h1 x1) (law_g (g 3 (by decide) h1 x1) (law_g (g 4 (by decide) h1 x1) (law_g (g 5 (by decide) h1 x1) (law_g (g 6 (by decide) h1 x1) (law_e e2 (law_i (law_cmp _) (fin h2 s x2))))))))
  refine law_b (fun _ => ?_) (fun _ => ?_)
  · refine law_g (g 1 (by decide) h (xEq.rf h)) (law_g (g 2 (by decide) h (xEq.rf h)) (law_g (g 3 (by decide) h (xEq.rf h)) (law_ww (P_pool _ _ _) hc hS (fun r h1 h2 e2 s x1 x2 => ?_))))
    simp only [x1.1]
    exact law_g (g 1 (by decide) h1 x1) (law_g (g 2 (by decide) h1 x1) (law_g (g 3 (by decide) h1 x1) (law_e e2 (law_i rfl (fin h2 s x2)))))
  refine law_b (fun _ => ?_) (fun _ => ?_)
  · refine law_g (g 1 (by decide) h (xEq.rf h)) (law_g (g 2 (by decide) h (xEq.rf h)) (law_g (g 3 (by decide) h (xEq.rf h)) (law_ww (P_saved _ _ _) hc hS (fun r h1 h2 e2 s x1 x2 => ?_))))
    simp only [x1.1]
    exact law_g (g 1 (by decide) h1 x1) (law_g (g 2 (by decide) h1 x1) (law_g (g 3 (by decide) h1 x1) (law_e e2 (law_i rfl (fin h2 s x2)))))
  refine law_b (fun _ => ?_) (fun _ => ?_)
  · refine law_g (g 1 (by decide) h (xEq.rf h)) (law_g (g 2 (by decide) h (xEq.rf h)) (law_g (g 3 (by decide) h (xEq.rf h)) (law_g (g 4 (by decide) h (xEq.rf h)) (law_g (g 5 (by decide) h (xEq.rf h)) (law_g (g 6 (by decide) h (xEq.rf h)) (law_ww (P_holds _ _ _ _ _ _) hc hS (fun r h1 h2 e2 s x1 x2 => ?_)))))))
    simp only [x1.1]
    exact law_g (g 1 (by decide) h1 x1) (law_g (g 2 (by decide) h1 x1) (law_g (g 3 (by decide) h1 x1) (law_g (g 4 (by decide) h1 x1) (law_g (g 5 (by decide) h1 x1) (law_g (g 6 (by decide) h1 x1) (law_e e2 (law_i rfl (fin h2 s x2))))))))
  refine law_b (fun _ => ?_) (fun _ => ?_)
  · refine law_g (g 1 (by decide) h (xEq.rf h)) (law_g (g 2 (by decide) h (xEq.rf h)) (law_g (g 3 (by decide) h (xEq.rf h)) (law_g (g 4 (by decide) h (xEq.rf h)) ((law_b (fun q => ?_) (fun q => ?_))))))
    · unfold f_law_b1441
      refine law_ww (P_book _ _ _ 0 (Or.inl rfl)) hc hS (fun r h1 h2 e2 s x1 x2 => ?_)
      simp only [x1.1]
      refine law_g (g 1 (by decide) h1 x1) (law_g (g 2 (by decide) h1 x1) (law_g (g 3 (by decide) h1 x1) (law_g (g 4 (by decide) h1 x1) (law_i q ?_))))
      unfold f_law_b1473
      exact law_e e2 (law_i rfl (fin h2 s x2))
    · unfold f_law_b1441
      refine law_ww (P_book _ _ _ 1 (Or.inr rfl)) hc hS (fun r h1 h2 e2 s x1 x2 => ?_)
      simp only [x1.1]
      refine law_g (g 1 (by decide) h1 x1) (law_g (g 2 (by decide) h1 x1) (law_g (g 3 (by decide) h1 x1) (law_g (g 4 (by decide) h1 x1) (law_n q ?_))))
      unfold f_law_b1473
      exact law_e e2 (law_i rfl (fin h2 s x2))
  refine law_b (fun _ => ?_) (fun _ => ?_)
  · refine law_g (g 1 (by decide) h (xEq.rf h)) (law_g (g 2 (by decide) h (xEq.rf h)) (law_g (g 3 (by decide) h (xEq.rf h)) (law_ww (P_looked _ _ _) hc hS (fun r h1 h2 e2 s x1 x2 => ?_))))
    simp only [x1.1]
    exact law_g (g 1 (by decide) h1 x1) (law_g (g 2 (by decide) h1 x1) (law_g (g 3 (by decide) h1 x1) (law_e e2 (law_i rfl (fin h2 s x2)))))
  refine law_b (fun _ => ?_) (fun _ => ?_)
  · refine law_g (g 1 (by decide) h (xEq.rf h)) (law_ww (P_annul _) hc hS (fun r h1 h2 e2 s x1 x2 => ?_))
    simp only [x1.1]
    exact law_g (g 1 (by decide) h1 x1) (law_e e2 (law_i rfl (fin h2 s x2)))
  refine law_b (fun _ => ?_) (fun _ => ?_)
  · refine law_g (g 1 (by decide) h (xEq.rf h)) (law_g (g 2 (by decide) h (xEq.rf h)) (law_g (g 3 (by decide) h (xEq.rf h)) (law_wr (P_balance _ _ _) hc hS (fun r h1 e2 s x1 => ?_))))
    simp only [x1.1]
    exact law_g (g 1 (by decide) h1 x1) (law_g (g 2 (by decide) h1 x1) (law_g (g 3 (by decide) h1 x1) (law_r e2 (law_i rfl (fin h1 s x1)))))
  refine law_b (fun _ => ?_) (fun _ => ?_)
  · refine law_g (g 1 (by decide) h (xEq.rf h)) (law_wr (P_richest _) hc hS (fun r h1 e2 s x1 => ?_))
    simp only [x1.1]
    exact law_g (g 1 (by decide) h1 x1) (law_r e2 (law_i rfl (fin h1 s x1)))
  refine law_b (fun _ => ?_) (fun _ => ?_)
  · refine law_g (g 1 (by decide) h (xEq.rf h)) (law_g (g 2 (by decide) h (xEq.rf h)) (law_g (g 3 (by decide) h (xEq.rf h)) (law_g (g 4 (by decide) h (xEq.rf h)) (law_ww (P_jars _ _ _ _) hc hS (fun r h1 h2 e2 s x1 x2 => ?_)))))
    simp only [x1.1]
    exact law_g (g 1 (by decide) h1 x1) (law_g (g 2 (by decide) h1 x1) (law_g (g 3 (by decide) h1 x1) (law_g (g 4 (by decide) h1 x1) (law_e e2 (law_i rfl (fin h2 s x2))))))
  refine law_b (fun _ => ?_) (fun _ => ?_)
  · refine law_g (g 1 (by decide) h (xEq.rf h)) (law_g (g 2 (by decide) h (xEq.rf h)) (law_g (g 3 (by decide) h (xEq.rf h)) (law_g (g 4 (by decide) h (xEq.rf h)) (law_ww (P_ends _ _ _ _) hc hS (fun r h1 h2 e2 s x1 x2 => ?_)))))
    simp only [x1.1]
    exact law_g (g 1 (by decide) h1 x1) (law_g (g 2 (by decide) h1 x1) (law_g (g 3 (by decide) h1 x1) (law_g (g 4 (by decide) h1 x1) (law_e e2 (law_i rfl (fin h2 s x2))))))
  refine law_b (fun _ => ?_) (fun _ => ?_)
  · refine law_g (g 1 (by decide) h (xEq.rf h)) (law_ww (P_whose _) hc hS (fun r h1 h2 e2 s x1 x2 => ?_))
    simp only [x1.1]
    exact law_g (g 1 (by decide) h1 x1) (law_e e2 (law_i rfl (fin h2 s x2)))
  refine law_b (fun _ => ?_) (fun _ => ?_)
  · refine law_g (g 1 (by decide) h (xEq.rf h)) (law_g (g 2 (by decide) h (xEq.rf h)) (law_g (g 3 (by decide) h (xEq.rf h)) ((law_b (fun q => ?_) (fun q => ?_)))))
    · unfold f_law_b1766
      refine law_ww (P_whoseWays _ _ 0 (Or.inl rfl)) hc hS (fun r h1 h2 e2 s x1 x2 => ?_)
      simp only [x1.1]
      refine law_g (g 1 (by decide) h1 x1) (law_g (g 2 (by decide) h1 x1) (law_g (g 3 (by decide) h1 x1) (law_i q ?_)))
      unfold f_law_b1793
      exact law_e e2 (law_i (law_cmp _) (fin h2 s x2))
    · unfold f_law_b1766
      refine law_ww (P_whoseWays _ _ 1 (Or.inr rfl)) hc hS (fun r h1 h2 e2 s x1 x2 => ?_)
      simp only [x1.1]
      refine law_g (g 1 (by decide) h1 x1) (law_g (g 2 (by decide) h1 x1) (law_g (g 3 (by decide) h1 x1) (law_n q ?_)))
      unfold f_law_b1793
      exact law_e e2 (law_i (law_cmp _) (fin h2 s x2))
  refine law_b (fun _ => ?_) (fun _ => ?_)
  · exact law_g (g 1 (by decide) h (xEq.rf h)) (law_g (g 2 (by decide) h (xEq.rf h)) (law_g (g 3 (by decide) h (xEq.rf h)) (law_g (g 4 (by decide) h (xEq.rf h)) (law_rr (P_trickle _ _ _ _) hc hS (fun r e2 => law_g (g 1 (by decide) h (xEq.rf h)) (law_g (g 2 (by decide) h (xEq.rf h)) (law_g (g 3 (by decide) h (xEq.rf h)) (law_g (g 4 (by decide) h (xEq.rf h)) (law_r e2 (law_i rfl (fin h (St_up hS) (xEq.rf h))))))))))))
  refine law_b (fun _ => ?_) (fun _ => ?_)
  · exact law_g (g 1 (by decide) h (xEq.rf h)) (law_g (g 2 (by decide) h (xEq.rf h)) (law_g (g 3 (by decide) h (xEq.rf h)) (law_g (g 4 (by decide) h (xEq.rf h)) (law_rr (P_trickled _ _ _ _) hc hS (fun r e2 => law_g (g 1 (by decide) h (xEq.rf h)) (law_g (g 2 (by decide) h (xEq.rf h)) (law_g (g 3 (by decide) h (xEq.rf h)) (law_g (g 4 (by decide) h (xEq.rf h)) (law_r e2 (law_i rfl (fin h (St_up hS) (xEq.rf h))))))))))))
  refine law_b (fun _ => ?_) (fun _ => ?_)
  · exact law_g (g 1 (by decide) h (xEq.rf h)) (law_g (g 2 (by decide) h (xEq.rf h)) (law_g (g 3 (by decide) h (xEq.rf h)) (law_rr (P_burnAt _ _ _) hc hS (fun r e2 => law_g (g 1 (by decide) h (xEq.rf h)) (law_g (g 2 (by decide) h (xEq.rf h)) (law_g (g 3 (by decide) h (xEq.rf h)) (law_r e2 (law_i rfl (fin h (St_up hS) (xEq.rf h))))))))))
  refine law_b (fun _ => ?_) (fun _ => ?_)
  · exact law_g (g 1 (by decide) h (xEq.rf h)) (law_g (g 2 (by decide) h (xEq.rf h)) (law_g (g 3 (by decide) h (xEq.rf h)) (law_g (g 4 (by decide) h (xEq.rf h)) (law_g (g 5 (by decide) h (xEq.rf h)) (law_g (g 6 (by decide) h (xEq.rf h)) (law_g (g 7 (by decide) h (xEq.rf h)) (law_rr (P_sort _ _ _ _ _ _ _) hc hS (fun r e2 => law_g (g 1 (by decide) h (xEq.rf h)) (law_g (g 2 (by decide) h (xEq.rf h)) (law_g (g 3 (by decide) h (xEq.rf h)) (law_g (g 4 (by decide) h (xEq.rf h)) (law_g (g 5 (by decide) h (xEq.rf h)) (law_g (g 6 (by decide) h (xEq.rf h)) (law_g (g 7 (by decide) h (xEq.rf h)) (law_r e2 (law_i rfl (fin h (St_up hS) (xEq.rf h))))))))))))))))))
  refine law_b (fun _ => ?_) (fun _ => ?_)
  · refine law_g (g 1 (by decide) h (xEq.rf h)) (law_ww (P_hold _) hc hS (fun r h1 h2 e2 s x1 x2 => ?_))
    simp only [x1.1]
    exact law_g (g 1 (by decide) h1 x1) (law_e e2 (law_i rfl (fin h2 s x2)))
  refine law_b (fun _ => ?_) (fun _ => ?_)
  · refine law_g (g 1 (by decide) h (xEq.rf h)) (law_ww (P_restore _) hc hS (fun r h1 h2 e2 s x1 x2 => ?_))
    simp only [x1.1]
    exact law_g (g 1 (by decide) h1 x1) (law_e e2 (law_i rfl (fin h2 s x2)))
  refine law_b (fun _ => ?_) (fun _ => ?_)
  · exact law_g (g 1 (by decide) h (xEq.rf h)) (law_rr (P_count _) hc hS (fun r e2 => law_g (g 1 (by decide) h (xEq.rf h)) (law_r e2 (law_i rfl (fin h (St_up hS) (xEq.rf h))))))
  exact fin h (St_up hS) (xEq.rf h)
