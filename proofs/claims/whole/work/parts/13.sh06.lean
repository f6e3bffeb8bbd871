/-! shallow functions, written by program -/
def f_M_isKind_b18    (h : sh_H) : Option Int32 := (some (ai_nar 1 (0 : Int32)))
theorem x_M_isKind_b18 {d : Nat} (hd : 0 ≤ d) (h : sh_H) {Q : ai_Q} {R : Int32 → Prop} (hR : ∀ r, R r → Q (some (aI r)) (sh_E h))    {d0 d1 : Option ai_V} (H : sh_ok (f_M_isKind_b18 h) R) : wq_251 d Q 18 [d0, d1] [] (sh_E h) := by
  exact ai_WP_steps mc_251 (sh_CM d) 2 (hR (ai_nar 1 (0 : Int32)) H)
def f_M_isKind  (l1 : Int32) (h : sh_H) : Option Int32 := (if l1 < 0 then f_M_isKind_b18 h else (if ai_in (0 : Int32) 8000 then (if l1 < (h.1 13 46 (0 : Int32).toNatClampNeg) then (some (ai_nar 1 (1 : Int32))) else f_M_isKind_b18 h) else none))
theorem x_M_isKind {d : Nat} (hd : 1 ≤ d) (l1 : Int32) (h : sh_H) {Q : ai_Q} {R : Int32 → Prop} (H : sh_ok (f_M_isKind l1 h) R) (hR : ∀ r, R r → Q (some (aI r)) (sh_E h)) : ai_Ex sh_T d 251 [aR 12 0, aI l1] (sh_E h) Q := by
  obtain ⟨d, rfl⟩ : ∃ e, d = e + 1 := ⟨d - 1, by omega⟩
  replace hd : 0 ≤ d := by omega
  refine And.intro (Nat.le_of_ble_eq_true rfl) ?_
  show wq_251 d Q 0 [oR 12 0, oI l1] [] (sh_E h)
  refine ai_WP_steps mc_251 (sh_CM d) 2 (And.intro (fun c => ?_) (fun c => ?_))
  · replace H := sh_okT c H
    exact x_M_isKind_b18 hd h hR H
  · replace H := sh_okF c H
    show wq_251 d Q 4 [oR 12 0, oI l1] [] (sh_E h)
    have c := sh_okG H
    replace H := sh_okH H
    refine ai_WP_steps mc_251 (sh_CM d) 5 (And.intro c ?_)
    show wq_251 d Q 11 [oR 12 0, oI l1] [aI (h.1 13 46 (0 : Int32).toNatClampNeg), aI l1] (sh_E h)
    refine ai_WP_steps mc_251 (sh_CM d) 1 (And.intro (fun c => ?_) (fun c => ?_))
    · replace H := sh_okT c H
      show wq_251 d Q 14 [oR 12 0, oI l1] [] (sh_E h)
      exact ai_WP_steps mc_251 (sh_CM d) 3 (hR (ai_nar 1 (1 : Int32)) H)
    · replace H := sh_okF c H
      exact x_M_isKind_b18 hd h hR H
def f_M_isPlace_b18    (h : sh_H) : Option Int32 := (some (ai_nar 1 (0 : Int32)))
theorem x_M_isPlace_b18 {d : Nat} (hd : 0 ≤ d) (h : sh_H) {Q : ai_Q} {R : Int32 → Prop} (hR : ∀ r, R r → Q (some (aI r)) (sh_E h))    {d0 d1 : Option ai_V} (H : sh_ok (f_M_isPlace_b18 h) R) : wq_252 d Q 18 [d0, d1] [] (sh_E h) := by
  exact ai_WP_steps mc_252 (sh_CM d) 2 (hR (ai_nar 1 (0 : Int32)) H)
def f_M_isPlace  (l1 : Int32) (h : sh_H) : Option Int32 := (if l1 < 0 then f_M_isPlace_b18 h else (if ai_in (1 : Int32) 8000 then (if (h.1 13 46 (1 : Int32).toNatClampNeg) < l1 then f_M_isPlace_b18 h else (some (ai_nar 1 (1 : Int32)))) else none))
theorem x_M_isPlace {d : Nat} (hd : 1 ≤ d) (l1 : Int32) (h : sh_H) {Q : ai_Q} {R : Int32 → Prop} (H : sh_ok (f_M_isPlace l1 h) R) (hR : ∀ r, R r → Q (some (aI r)) (sh_E h)) : ai_Ex sh_T d 252 [aR 12 0, aI l1] (sh_E h) Q := by
  obtain ⟨d, rfl⟩ : ∃ e, d = e + 1 := ⟨d - 1, by omega⟩
  replace hd : 0 ≤ d := by omega
  refine And.intro (Nat.le_of_ble_eq_true rfl) ?_
  show wq_252 d Q 0 [oR 12 0, oI l1] [] (sh_E h)
  refine ai_WP_steps mc_252 (sh_CM d) 2 (And.intro (fun c => ?_) (fun c => ?_))
  · replace H := sh_okT c H
    exact x_M_isPlace_b18 hd h hR H
  · replace H := sh_okF c H
    show wq_252 d Q 4 [oR 12 0, oI l1] [] (sh_E h)
    have c := sh_okG H
    replace H := sh_okH H
    refine ai_WP_steps mc_252 (sh_CM d) 5 (And.intro c ?_)
    show wq_252 d Q 11 [oR 12 0, oI l1] [aI (h.1 13 46 (1 : Int32).toNatClampNeg), aI l1] (sh_E h)
    refine ai_WP_steps mc_252 (sh_CM d) 1 (And.intro (fun c => ?_) (fun c => ?_))
    · replace H := sh_okT c H
      exact x_M_isPlace_b18 hd h hR H
    · replace H := sh_okF c H
      show wq_252 d Q 14 [oR 12 0, oI l1] [] (sh_E h)
      exact ai_WP_steps mc_252 (sh_CM d) 3 (hR (ai_nar 1 (1 : Int32)) H)
def f_M_isIsland_b18    (h : sh_H) : Option Int32 := (some (ai_nar 1 (0 : Int32)))
theorem x_M_isIsland_b18 {d : Nat} (hd : 0 ≤ d) (h : sh_H) {Q : ai_Q} {R : Int32 → Prop} (hR : ∀ r, R r → Q (some (aI r)) (sh_E h))    {d0 d1 : Option ai_V} (H : sh_ok (f_M_isIsland_b18 h) R) : wq_253 d Q 18 [d0, d1] [] (sh_E h) := by
  exact ai_WP_steps mc_253 (sh_CM d) 2 (hR (ai_nar 1 (0 : Int32)) H)
def f_M_isIsland  (l1 : Int32) (h : sh_H) : Option Int32 := (if 0 < l1 then (if ai_in (1 : Int32) 8000 then (if (h.1 13 46 (1 : Int32).toNatClampNeg) < l1 then f_M_isIsland_b18 h else (some (ai_nar 1 (1 : Int32)))) else none) else f_M_isIsland_b18 h)
theorem x_M_isIsland {d : Nat} (hd : 1 ≤ d) (l1 : Int32) (h : sh_H) {Q : ai_Q} {R : Int32 → Prop} (H : sh_ok (f_M_isIsland l1 h) R) (hR : ∀ r, R r → Q (some (aI r)) (sh_E h)) : ai_Ex sh_T d 253 [aR 12 0, aI l1] (sh_E h) Q := by
  obtain ⟨d, rfl⟩ : ∃ e, d = e + 1 := ⟨d - 1, by omega⟩
  replace hd : 0 ≤ d := by omega
  refine And.intro (Nat.le_of_ble_eq_true rfl) ?_
  show wq_253 d Q 0 [oR 12 0, oI l1] [] (sh_E h)
  refine ai_WP_steps mc_253 (sh_CM d) 2 (And.intro (fun c => ?_) (fun c => ?_))
  · replace H := sh_okT c H
    show wq_253 d Q 4 [oR 12 0, oI l1] [] (sh_E h)
    have c := sh_okG H
    replace H := sh_okH H
    refine ai_WP_steps mc_253 (sh_CM d) 5 (And.intro c ?_)
    show wq_253 d Q 11 [oR 12 0, oI l1] [aI (h.1 13 46 (1 : Int32).toNatClampNeg), aI l1] (sh_E h)
    refine ai_WP_steps mc_253 (sh_CM d) 1 (And.intro (fun c => ?_) (fun c => ?_))
    · replace H := sh_okT c H
      exact x_M_isIsland_b18 hd h hR H
    · replace H := sh_okF c H
      show wq_253 d Q 14 [oR 12 0, oI l1] [] (sh_E h)
      exact ai_WP_steps mc_253 (sh_CM d) 3 (hR (ai_nar 1 (1 : Int32)) H)
  · replace H := sh_okF c H
    exact x_M_isIsland_b18 hd h hR H
def f_M_worth  (l1 : Int32) (h : sh_H) : Option Int32 := (if ai_in ((20 : Int32) + ((3 : Int32) * l1)) 8000 then (some (h.1 13 46 ((20 : Int32) + ((3 : Int32) * l1)).toNatClampNeg)) else none)
theorem x_M_worth {d : Nat} (hd : 1 ≤ d) (l1 : Int32) (h : sh_H) {Q : ai_Q} {R : Int32 → Prop} (H : sh_ok (f_M_worth l1 h) R) (hR : ∀ r, R r → Q (some (aI r)) (sh_E h)) : ai_Ex sh_T d 254 [aR 12 0, aI l1] (sh_E h) Q := by
  obtain ⟨d, rfl⟩ : ∃ e, d = e + 1 := ⟨d - 1, by omega⟩
  replace hd : 0 ≤ d := by omega
  refine And.intro (Nat.le_of_ble_eq_true rfl) ?_
  show wq_254 d Q 0 [oR 12 0, oI l1] [] (sh_E h)
  have c := sh_okG H
  replace H := sh_okH H
  refine ai_WP_steps mc_254 (sh_CM d) 8 (And.intro c ?_)
  show wq_254 d Q 11 [oR 12 0, oI l1] [aI (h.1 13 46 ((20 : Int32) + ((3 : Int32) * l1)).toNatClampNeg)] (sh_E h)
  exact ai_WP_steps mc_254 (sh_CM d) 1 (hR (h.1 13 46 ((20 : Int32) + ((3 : Int32) * l1)).toNatClampNeg) H)
def f_M_harm  (l1 : Int32) (h : sh_H) : Option Int32 := (if ai_in (((40 : Int32) + ((2 : Int32) * l1)) - (1 : Int32)) 8000 then (some (h.1 13 46 (((40 : Int32) + ((2 : Int32) * l1)) - (1 : Int32)).toNatClampNeg)) else none)
theorem x_M_harm {d : Nat} (hd : 1 ≤ d) (l1 : Int32) (h : sh_H) {Q : ai_Q} {R : Int32 → Prop} (H : sh_ok (f_M_harm l1 h) R) (hR : ∀ r, R r → Q (some (aI r)) (sh_E h)) : ai_Ex sh_T d 255 [aR 12 0, aI l1] (sh_E h) Q := by
  obtain ⟨d, rfl⟩ : ∃ e, d = e + 1 := ⟨d - 1, by omega⟩
  replace hd : 0 ≤ d := by omega
  refine And.intro (Nat.le_of_ble_eq_true rfl) ?_
  show wq_255 d Q 0 [oR 12 0, oI l1] [] (sh_E h)
  have c := sh_okG H
  replace H := sh_okH H
  refine ai_WP_steps mc_255 (sh_CM d) 10 (And.intro c ?_)
  show wq_255 d Q 13 [oR 12 0, oI l1] [aI (h.1 13 46 (((40 : Int32) + ((2 : Int32) * l1)) - (1 : Int32)).toNatClampNeg)] (sh_E h)
  exact ai_WP_steps mc_255 (sh_CM d) 1 (hR (h.1 13 46 (((40 : Int32) + ((2 : Int32) * l1)) - (1 : Int32)).toNatClampNeg) H)
def f_M_kind_b33    (h : sh_H) : Option Int32 := (some (-1 : Int32))
theorem x_M_kind_b33 {d : Nat} (hd : 1 ≤ d) (h : sh_H) {Q : ai_Q} {R : Int32 → Prop} (hR : ∀ r, R r → Q (some (aI r)) (sh_E h))    {d0 d1 d2 : Option ai_V} (H : sh_ok (f_M_kind_b33 h) R) : wq_256 d Q 33 [d0, d1, d2] [] (sh_E h) := by
  exact ai_WP_steps mc_256 (sh_CM d) 2 (hR (-1 : Int32) H)
def f_M_kind  (l1 : Int32) (l2 : Int32) (h : sh_H) : Option Int32 := (Option.bind (f_M_isKind l1 h) (fun v1 => (if v1 = 0 then f_M_kind_b33 h else (Option.bind (f_M_isIn l2 (0 : Int32) (2 : Int32) h) (fun v2 => (if v2 = 0 then f_M_kind_b33 h else (if ai_in (((20 : Int32) + ((3 : Int32) * l1)) + l2) 8000 then (some (h.1 13 46 (((20 : Int32) + ((3 : Int32) * l1)) + l2).toNatClampNeg)) else none)))))))
theorem x_M_kind {d : Nat} (hd : 2 ≤ d) (l1 : Int32) (l2 : Int32) (h : sh_H) {Q : ai_Q} {R : Int32 → Prop} (H : sh_ok (f_M_kind l1 l2 h) R) (hR : ∀ r, R r → Q (some (aI r)) (sh_E h)) : ai_Ex sh_T d 256 [aR 12 0, aI l1, aI l2] (sh_E h) Q := by
  obtain ⟨d, rfl⟩ : ∃ e, d = e + 1 := ⟨d - 1, by omega⟩
  replace hd : 1 ≤ d := by omega
  refine And.intro (Nat.le_of_ble_eq_true rfl) ?_
  show wq_256 d Q 0 [oR 12 0, oI l1, oI l2] [] (sh_E h)
  refine ai_WP_steps mc_256 (sh_CM d) 3 (And.intro (Nat.le_of_ble_eq_true rfl) (x_M_isKind (Nat.le_trans (Nat.le_of_ble_eq_true rfl) hd) l1 h (sh_okB H) (fun v1 H => ?_)))
  show wq_256 d Q 5 [oR 12 0, oI l1, oI l2] [aI v1] (sh_E h)
  refine ai_WP_steps mc_256 (sh_CM d) 1 (And.intro (fun c => ?_) (fun c => ?_))
  · replace H := sh_okT c H
    exact x_M_kind_b33 hd h hR H
  · replace H := sh_okF c H
    show wq_256 d Q 8 [oR 12 0, oI l1, oI l2] [] (sh_E h)
    refine ai_WP_steps mc_256 (sh_CM d) 4 (And.intro (Nat.le_of_ble_eq_true rfl) (x_M_isIn (Nat.le_trans (Nat.le_of_ble_eq_true rfl) hd) l2 (0 : Int32) (2 : Int32) h (sh_okB H) (fun v2 H => ?_)))
    show wq_256 d Q 14 [oR 12 0, oI l1, oI l2] [aI v2] (sh_E h)
    refine ai_WP_steps mc_256 (sh_CM d) 1 (And.intro (fun c => ?_) (fun c => ?_))
    · replace H := sh_okT c H
      exact x_M_kind_b33 hd h hR H
    · replace H := sh_okF c H
      show wq_256 d Q 17 [oR 12 0, oI l1, oI l2] [] (sh_E h)
      have c := sh_okG H
      replace H := sh_okH H
      refine ai_WP_steps mc_256 (sh_CM d) 10 (And.intro c ?_)
      show wq_256 d Q 30 [oR 12 0, oI l1, oI l2] [aI (h.1 13 46 (((20 : Int32) + ((3 : Int32) * l1)) + l2).toNatClampNeg)] (sh_E h)
      exact ai_WP_steps mc_256 (sh_CM d) 2 (hR (h.1 13 46 (((20 : Int32) + ((3 : Int32) * l1)) + l2).toNatClampNeg) H)
def f_M_island_b35    (h : sh_H) : Option Int32 := (some (-1 : Int32))
theorem x_M_island_b35 {d : Nat} (hd : 1 ≤ d) (h : sh_H) {Q : ai_Q} {R : Int32 → Prop} (hR : ∀ r, R r → Q (some (aI r)) (sh_E h))    {d0 d1 d2 : Option ai_V} (H : sh_ok (f_M_island_b35 h) R) : wq_257 d Q 35 [d0, d1, d2] [] (sh_E h) := by
  exact ai_WP_steps mc_257 (sh_CM d) 2 (hR (-1 : Int32) H)
def f_M_island  (l1 : Int32) (l2 : Int32) (h : sh_H) : Option Int32 := (Option.bind (f_M_isIsland l1 h) (fun v1 => (if v1 = 0 then f_M_island_b35 h else (Option.bind (f_M_isIn l2 (0 : Int32) (1 : Int32) h) (fun v2 => (if v2 = 0 then f_M_island_b35 h else (if ai_in (((40 : Int32) + ((2 : Int32) * (l1 - (1 : Int32)))) + l2) 8000 then (some (h.1 13 46 (((40 : Int32) + ((2 : Int32) * (l1 - (1 : Int32)))) + l2).toNatClampNeg)) else none)))))))
theorem x_M_island {d : Nat} (hd : 2 ≤ d) (l1 : Int32) (l2 : Int32) (h : sh_H) {Q : ai_Q} {R : Int32 → Prop} (H : sh_ok (f_M_island l1 l2 h) R) (hR : ∀ r, R r → Q (some (aI r)) (sh_E h)) : ai_Ex sh_T d 257 [aR 12 0, aI l1, aI l2] (sh_E h) Q := by
  obtain ⟨d, rfl⟩ : ∃ e, d = e + 1 := ⟨d - 1, by omega⟩
  replace hd : 1 ≤ d := by omega
  refine And.intro (Nat.le_of_ble_eq_true rfl) ?_
  show wq_257 d Q 0 [oR 12 0, oI l1, oI l2] [] (sh_E h)
  refine ai_WP_steps mc_257 (sh_CM d) 3 (And.intro (Nat.le_of_ble_eq_true rfl) (x_M_isIsland (Nat.le_trans (Nat.le_of_ble_eq_true rfl) hd) l1 h (sh_okB H) (fun v1 H => ?_)))
  show wq_257 d Q 5 [oR 12 0, oI l1, oI l2] [aI v1] (sh_E h)
  refine ai_WP_steps mc_257 (sh_CM d) 1 (And.intro (fun c => ?_) (fun c => ?_))
  · replace H := sh_okT c H
    exact x_M_island_b35 hd h hR H
  · replace H := sh_okF c H
    show wq_257 d Q 8 [oR 12 0, oI l1, oI l2] [] (sh_E h)
    refine ai_WP_steps mc_257 (sh_CM d) 4 (And.intro (Nat.le_of_ble_eq_true rfl) (x_M_isIn (Nat.le_trans (Nat.le_of_ble_eq_true rfl) hd) l2 (0 : Int32) (1 : Int32) h (sh_okB H) (fun v2 H => ?_)))
    show wq_257 d Q 14 [oR 12 0, oI l1, oI l2] [aI v2] (sh_E h)
    refine ai_WP_steps mc_257 (sh_CM d) 1 (And.intro (fun c => ?_) (fun c => ?_))
    · replace H := sh_okT c H
      exact x_M_island_b35 hd h hR H
    · replace H := sh_okF c H
      show wq_257 d Q 17 [oR 12 0, oI l1, oI l2] [] (sh_E h)
      have c := sh_okG H
      replace H := sh_okH H
      refine ai_WP_steps mc_257 (sh_CM d) 12 (And.intro c ?_)
      show wq_257 d Q 32 [oR 12 0, oI l1, oI l2] [aI (h.1 13 46 (((40 : Int32) + ((2 : Int32) * (l1 - (1 : Int32)))) + l2).toNatClampNeg)] (sh_E h)
      exact ai_WP_steps mc_257 (sh_CM d) 2 (hR (h.1 13 46 (((40 : Int32) + ((2 : Int32) * (l1 - (1 : Int32)))) + l2).toNatClampNeg) H)
def f_M_boatOf_b49 (N : Nat)  (k2 : Int32 → Int32 → Int32 → sh_H → Option Int32) (l1 : Int32) (l2 : Int32) (l3 : Int32) (h : sh_H) : Option Int32 := k2 l1 l2 (l3 + (1 : Int32)) h
theorem x_M_boatOf_b49 (N : Nat) {d : Nat} (hd : 0 ≤ d) (h : sh_H) {Q : ai_Q} {R : Int32 → Prop} (hR : ∀ r, R r → Q (some (aI r)) (sh_E h))  (k2 : Int32 → Int32 → Int32 → sh_H → Option Int32) (hk2 : ∀ (l1 : Int32) (l2 : Int32) (l3 : Int32), sh_ok (k2 l1 l2 l3 h) R → wq_258 d Q 2 [oR 12 0, oI l1, oI l2, oI l3] [] (sh_E h)) (l1 : Int32) (l2 : Int32) (l3 : Int32) (H : sh_ok (f_M_boatOf_b49 N k2 l1 l2 l3 h) R) : wq_258 d Q 49 [oR 12 0, oI l1, oI l2, oI l3] [] (sh_E h) := by
  refine ai_WP_steps mc_258 (sh_CM d) 2 ?_
  exact hk2 l1 l2 (l3 + (1 : Int32)) H
def f_M_boatOf_l2 (N : Nat)  (k47 : Int32 → sh_H → Option Int32) (k55 : sh_H → Option Int32) (n : Nat) : Int32 → Int32 → Int32 → sh_H → Option Int32 := Nat.rec (motive := fun _ => Int32 → Int32 → Int32 → sh_H → Option Int32) (fun _ _ _ _ => none) (fun _ k2 l1 l2 l3 h => (if ai_in (6 : Int32) 8000 then (if l3 < (h.1 13 46 (6 : Int32).toNatClampNeg) then (if ai_in ((250 : Int32) + ((5 : Int32) * l3)) 8000 then (if (h.1 13 46 ((250 : Int32) + ((5 : Int32) * l3)).toNatClampNeg) = l1 then (if ai_in (((250 : Int32) + ((5 : Int32) * l3)) + (1 : Int32)) 8000 then (if (h.1 13 46 (((250 : Int32) + ((5 : Int32) * l3)) + (1 : Int32)).toNatClampNeg) = l2 then k47 l3 h else f_M_boatOf_b49 N k2 l1 l2 l3 h) else none) else f_M_boatOf_b49 N k2 l1 l2 l3 h) else none) else k55 h) else none)) n
theorem x_M_boatOf_l2 (N : Nat) {d : Nat} (hd : 0 ≤ d) (h : sh_H) {Q : ai_Q} {R : Int32 → Prop} (hR : ∀ r, R r → Q (some (aI r)) (sh_E h))  (k47 : Int32 → sh_H → Option Int32) (hk47 : ∀ (l3 : Int32) {d0 d1 d2 : Option ai_V}, sh_ok (k47 l3 h) R → wq_258 d Q 47 [d0, d1, d2, oI l3] [] (sh_E h)) (k55 : sh_H → Option Int32) (hk55 : ∀ {d0 d1 d2 d3 : Option ai_V}, sh_ok (k55 h) R → wq_258 d Q 55 [d0, d1, d2, d3] [] (sh_E h)) (n : Nat) : ∀ (l1 : Int32) (l2 : Int32) (l3 : Int32), sh_ok (f_M_boatOf_l2 N k47 k55 n l1 l2 l3 h) R → wq_258 d Q 2 [oR 12 0, oI l1, oI l2, oI l3] [] (sh_E h) := by
  induction n with
  | zero => intro l1 l2 l3 H; exact H.elim
  | succ n ih =>
    intro l1 l2 l3 H
    have hk2 := @ih
    revert hk2 H
    show sh_ok ((fun k2 l1 l2 l3 h => (if ai_in (6 : Int32) 8000 then (if l3 < (h.1 13 46 (6 : Int32).toNatClampNeg) then (if ai_in ((250 : Int32) + ((5 : Int32) * l3)) 8000 then (if (h.1 13 46 ((250 : Int32) + ((5 : Int32) * l3)).toNatClampNeg) = l1 then (if ai_in (((250 : Int32) + ((5 : Int32) * l3)) + (1 : Int32)) 8000 then (if (h.1 13 46 (((250 : Int32) + ((5 : Int32) * l3)) + (1 : Int32)).toNatClampNeg) = l2 then k47 l3 h else f_M_boatOf_b49 N k2 l1 l2 l3 h) else none) else f_M_boatOf_b49 N k2 l1 l2 l3 h) else none) else k55 h) else none)) (f_M_boatOf_l2 N k47 k55 n) l1 l2 l3 h) R → _
    generalize f_M_boatOf_l2 N k47 k55 n = k2
    intro H hk2
    have c := sh_okG H
    replace H := sh_okH H
    refine ai_WP_steps mc_258 (sh_CM d) 5 (And.intro c ?_)
    show wq_258 d Q 10 [oR 12 0, oI l1, oI l2, oI l3] [aI (h.1 13 46 (6 : Int32).toNatClampNeg), aI l3] (sh_E h)
    refine ai_WP_steps mc_258 (sh_CM d) 1 (And.intro (fun c => ?_) (fun c => ?_))
    · replace H := sh_okT c H
      show wq_258 d Q 13 [oR 12 0, oI l1, oI l2, oI l3] [] (sh_E h)
      have c := sh_okG H
      replace H := sh_okH H
      refine ai_WP_steps mc_258 (sh_CM d) 8 (And.intro c ?_)
      show wq_258 d Q 25 [oR 12 0, oI l1, oI l2, oI l3] [aI (h.1 13 46 ((250 : Int32) + ((5 : Int32) * l3)).toNatClampNeg)] (sh_E h)
      refine ai_WP_steps mc_258 (sh_CM d) 2 (And.intro (fun c => ?_) (fun c => ?_))
      · replace H := sh_okT c H
        show wq_258 d Q 29 [oR 12 0, oI l1, oI l2, oI l3] [] (sh_E h)
        have c := sh_okG H
        replace H := sh_okH H
        refine ai_WP_steps mc_258 (sh_CM d) 10 (And.intro c ?_)
        show wq_258 d Q 43 [oR 12 0, oI l1, oI l2, oI l3] [aI (h.1 13 46 (((250 : Int32) + ((5 : Int32) * l3)) + (1 : Int32)).toNatClampNeg)] (sh_E h)
        refine ai_WP_steps mc_258 (sh_CM d) 2 (And.intro (fun c => ?_) (fun c => ?_))
        · replace H := sh_okT c H
          exact hk47 l3 H
        · replace H := sh_okF c H
          exact x_M_boatOf_b49 N hd h hR k2 hk2 l1 l2 l3 H
      · replace H := sh_okF c H
        exact x_M_boatOf_b49 N hd h hR k2 hk2 l1 l2 l3 H
    · replace H := sh_okF c H
      exact hk55 H
def f_M_boatOf_b47 (N : Nat)   (l3 : Int32) (h : sh_H) : Option Int32 := (some l3)
theorem x_M_boatOf_b47 (N : Nat) {d : Nat} (hd : 0 ≤ d) (h : sh_H) {Q : ai_Q} {R : Int32 → Prop} (hR : ∀ r, R r → Q (some (aI r)) (sh_E h))   (l3 : Int32) {d0 d1 d2 : Option ai_V} (H : sh_ok (f_M_boatOf_b47 N l3 h) R) : wq_258 d Q 47 [d0, d1, d2, oI l3] [] (sh_E h) := by
  exact ai_WP_steps mc_258 (sh_CM d) 2 (hR l3 H)
def f_M_boatOf_b55 (N : Nat)    (h : sh_H) : Option Int32 := (some (-2 : Int32))
theorem x_M_boatOf_b55 (N : Nat) {d : Nat} (hd : 0 ≤ d) (h : sh_H) {Q : ai_Q} {R : Int32 → Prop} (hR : ∀ r, R r → Q (some (aI r)) (sh_E h))    {d0 d1 d2 d3 : Option ai_V} (H : sh_ok (f_M_boatOf_b55 N h) R) : wq_258 d Q 55 [d0, d1, d2, d3] [] (sh_E h) := by
  exact ai_WP_steps mc_258 (sh_CM d) 2 (hR (-2 : Int32) H)
def f_M_boatOf (N : Nat)  (l1 : Int32) (l2 : Int32) (h : sh_H) : Option Int32 := f_M_boatOf_l2 N (f_M_boatOf_b47 N) (f_M_boatOf_b55 N) N l1 l2 (0 : Int32) h
theorem x_M_boatOf (N : Nat) {d : Nat} (hd : 1 ≤ d) (l1 : Int32) (l2 : Int32) (h : sh_H) {Q : ai_Q} {R : Int32 → Prop} (H : sh_ok (f_M_boatOf N l1 l2 h) R) (hR : ∀ r, R r → Q (some (aI r)) (sh_E h)) : ai_Ex sh_T d 258 [aR 12 0, aI l1, aI l2] (sh_E h) Q := by
  obtain ⟨d, rfl⟩ : ∃ e, d = e + 1 := ⟨d - 1, by omega⟩
  replace hd : 0 ≤ d := by omega
  refine And.intro (Nat.le_of_ble_eq_true rfl) ?_
  show wq_258 d Q 0 [oR 12 0, oI l1, oI l2, none] [] (sh_E h)
  refine ai_WP_steps mc_258 (sh_CM d) 2 ?_
  exact x_M_boatOf_l2 N hd h hR (f_M_boatOf_b47 N) (fun z0 {e0} {e1} {e2} H => x_M_boatOf_b47 N hd h hR z0 H) (f_M_boatOf_b55 N) (fun {e0} {e1} {e2} {e3} H => x_M_boatOf_b55 N hd h hR  H) N l1 l2 (0 : Int32) H
def f_M_boat_b27 (N : Nat)    (h : sh_H) : Option Int32 := (some (-1 : Int32))
theorem x_M_boat_b27 (N : Nat) {d : Nat} (hd : 1 ≤ d) (h : sh_H) {Q : ai_Q} {R : Int32 → Prop} (hR : ∀ r, R r → Q (some (aI r)) (sh_E h))    {d0 d1 d2 : Option ai_V} (H : sh_ok (f_M_boat_b27 N h) R) : wq_259 d Q 27 [d0, d1, d2] [] (sh_E h) := by
  exact ai_WP_steps mc_259 (sh_CM d) 2 (hR (-1 : Int32) H)
def f_M_boat (N : Nat)  (l1 : Int32) (l2 : Int32) (h : sh_H) : Option Int32 := (Option.bind (f_M_isIsland l1 h) (fun v1 => (if v1 = 0 then f_M_boat_b27 N h else (Option.bind (f_M_isIn l2 (0 : Int32) (11 : Int32) h) (fun v2 => (if v2 = 0 then f_M_boat_b27 N h else (Option.bind (f_M_boatOf N l1 l2 h) (fun v3 => (some v3)))))))))
theorem x_M_boat (N : Nat) {d : Nat} (hd : 2 ≤ d) (l1 : Int32) (l2 : Int32) (h : sh_H) {Q : ai_Q} {R : Int32 → Prop} (H : sh_ok (f_M_boat N l1 l2 h) R) (hR : ∀ r, R r → Q (some (aI r)) (sh_E h)) : ai_Ex sh_T d 259 [aR 12 0, aI l1, aI l2] (sh_E h) Q := by
  obtain ⟨d, rfl⟩ : ∃ e, d = e + 1 := ⟨d - 1, by omega⟩
  replace hd : 1 ≤ d := by omega
  refine And.intro (Nat.le_of_ble_eq_true rfl) ?_
  show wq_259 d Q 0 [oR 12 0, oI l1, oI l2] [] (sh_E h)
  refine ai_WP_steps mc_259 (sh_CM d) 3 (And.intro (Nat.le_of_ble_eq_true rfl) (x_M_isIsland (Nat.le_trans (Nat.le_of_ble_eq_true rfl) hd) l1 h (sh_okB H) (fun v1 H => ?_)))
  show wq_259 d Q 5 [oR 12 0, oI l1, oI l2] [aI v1] (sh_E h)
  refine ai_WP_steps mc_259 (sh_CM d) 1 (And.intro (fun c => ?_) (fun c => ?_))
  · replace H := sh_okT c H
    exact x_M_boat_b27 N hd h hR H
  · replace H := sh_okF c H
    show wq_259 d Q 8 [oR 12 0, oI l1, oI l2] [] (sh_E h)
    refine ai_WP_steps mc_259 (sh_CM d) 4 (And.intro (Nat.le_of_ble_eq_true rfl) (x_M_isIn (Nat.le_trans (Nat.le_of_ble_eq_true rfl) hd) l2 (0 : Int32) (11 : Int32) h (sh_okB H) (fun v2 H => ?_)))
    show wq_259 d Q 15 [oR 12 0, oI l1, oI l2] [aI v2] (sh_E h)
    refine ai_WP_steps mc_259 (sh_CM d) 1 (And.intro (fun c => ?_) (fun c => ?_))
    · replace H := sh_okT c H
      exact x_M_boat_b27 N hd h hR H
    · replace H := sh_okF c H
      show wq_259 d Q 18 [oR 12 0, oI l1, oI l2] [] (sh_E h)
      refine ai_WP_steps mc_259 (sh_CM d) 4 (And.intro (Nat.le_of_ble_eq_true rfl) (x_M_boatOf N (Nat.le_trans (Nat.le_of_ble_eq_true rfl) hd) l1 l2 h (sh_okB H) (fun v3 H => ?_)))
      show wq_259 d Q 24 [oR 12 0, oI l1, oI l2] [aI v3] (sh_E h)
      exact ai_WP_steps mc_259 (sh_CM d) 2 (hR v3 H)
def f_M_ask  (l1 : Int32) (l2 : Int32) (l3 : Int32) (l4 : Int32) (h : sh_H) : Option sh_H := (if ai_in (0 : Int32) 4 then (sh_let (sh_pI h 13 50 (0 : Int32).toNatClampNeg l1) (fun h1 => (if ai_in (1 : Int32) 4 then (sh_let (sh_pI h1 13 50 (1 : Int32).toNatClampNeg l2) (fun h2 => (if ai_in (2 : Int32) 4 then (sh_let (sh_pI h2 13 50 (2 : Int32).toNatClampNeg l3) (fun h3 => (if ai_in (3 : Int32) 4 then (sh_let (sh_pI h3 13 50 (3 : Int32).toNatClampNeg l4) (fun h4 => (some h4))) else none))) else none))) else none))) else none)
theorem x_M_ask {d : Nat} (hd : 1 ≤ d) (l1 : Int32) (l2 : Int32) (l3 : Int32) (l4 : Int32) (h : sh_H) {Q : ai_Q} {R : sh_H → Prop} (H : sh_ok (f_M_ask l1 l2 l3 l4 h) R) (hR : ∀ h, R h → Q none (sh_E h)) : ai_Ex sh_T d 260 [aR 12 0, aI l1, aI l2, aI l3, aI l4] (sh_E h) Q := by
  obtain ⟨d, rfl⟩ : ∃ e, d = e + 1 := ⟨d - 1, by omega⟩
  replace hd : 0 ≤ d := by omega
  refine And.intro (Nat.le_of_ble_eq_true rfl) ?_
  show wq_260 d Q 0 [oR 12 0, oI l1, oI l2, oI l3, oI l4] [] (sh_E h)
  have c := sh_okG H
  replace H := sh_okH H
  refine ai_WP_steps mc_260 (sh_CM d) 5 (And.intro c ?_)
  show wq_260 d Q 7 [oR 12 0, oI l1, oI l2, oI l3, oI l4] [] (sh_E (sh_pI h 13 50 (0 : Int32).toNatClampNeg l1))
  replace H := sh_okL H
  generalize sh_pI h 13 50 (0 : Int32).toNatClampNeg l1 = h1 at H ⊢
  have c := sh_okG H
  replace H := sh_okH H
  refine ai_WP_steps mc_260 (sh_CM d) 5 (And.intro c ?_)
  show wq_260 d Q 14 [oR 12 0, oI l1, oI l2, oI l3, oI l4] [] (sh_E (sh_pI h1 13 50 (1 : Int32).toNatClampNeg l2))
  replace H := sh_okL H
  generalize sh_pI h1 13 50 (1 : Int32).toNatClampNeg l2 = h2 at H ⊢
  have c := sh_okG H
  replace H := sh_okH H
  refine ai_WP_steps mc_260 (sh_CM d) 5 (And.intro c ?_)
  show wq_260 d Q 21 [oR 12 0, oI l1, oI l2, oI l3, oI l4] [] (sh_E (sh_pI h2 13 50 (2 : Int32).toNatClampNeg l3))
  replace H := sh_okL H
  generalize sh_pI h2 13 50 (2 : Int32).toNatClampNeg l3 = h3 at H ⊢
  have c := sh_okG H
  replace H := sh_okH H
  refine ai_WP_steps mc_260 (sh_CM d) 5 (And.intro c ?_)
  show wq_260 d Q 29 [oR 12 0, oI l1, oI l2, oI l3, oI l4] [] (sh_E (sh_pI h3 13 50 (3 : Int32).toNatClampNeg l4))
  replace H := sh_okL H
  generalize sh_pI h3 13 50 (3 : Int32).toNatClampNeg l4 = h4 at H ⊢
  exact ai_WP_steps mc_260 (sh_CM d) 1 (hR h4 H)
def f_M_joined_b55    (h : sh_H) : Option Int32 := (some (1 : Int32))
theorem x_M_joined_b55 {d : Nat} (hd : 0 ≤ d) (h : sh_H) {Q : ai_Q} {R : Int32 → Prop} (hR : ∀ r, R r → Q (some (aI r)) (sh_E h))    {d0 d1 d2 : Option ai_V} (H : sh_ok (f_M_joined_b55 h) R) : wq_262 d Q 55 [d0, d1, d2] [] (sh_E h) := by
  exact ai_WP_steps mc_262 (sh_CM d) 3 (hR (1 : Int32) H)
def f_M_joined_b59    (h : sh_H) : Option Int32 := (some (0 : Int32))
theorem x_M_joined_b59 {d : Nat} (hd : 0 ≤ d) (h : sh_H) {Q : ai_Q} {R : Int32 → Prop} (hR : ∀ r, R r → Q (some (aI r)) (sh_E h))    {d0 d1 d2 : Option ai_V} (H : sh_ok (f_M_joined_b59 h) R) : wq_262 d Q 59 [d0, d1, d2] [] (sh_E h) := by
  exact ai_WP_steps mc_262 (sh_CM d) 2 (hR (0 : Int32) H)
def f_M_joined  (l0 : Int32) (l1 : Int32) (l2 : Int32) (h : sh_H) : Option Int32 := (if l0 = (2 : Int32) then (some (l1 + l2)) else (if l0 = (3 : Int32) then (some (l1 - l2)) else (if l0 = (4 : Int32) then (some (l1 * l2)) else (if l0 = (5 : Int32) then (if ¬ l2 = 0 then (some (l1 / l2)) else none) else (if l0 = (6 : Int32) then (if l1 < l2 then f_M_joined_b55 h else f_M_joined_b59 h) else (if l1 = l2 then f_M_joined_b55 h else f_M_joined_b59 h))))))
theorem x_M_joined {d : Nat} (hd : 1 ≤ d) (l0 : Int32) (l1 : Int32) (l2 : Int32) (h : sh_H) {Q : ai_Q} {R : Int32 → Prop} (H : sh_ok (f_M_joined l0 l1 l2 h) R) (hR : ∀ r, R r → Q (some (aI r)) (sh_E h)) : ai_Ex sh_T d 262 [aI l0, aI l1, aI l2] (sh_E h) Q := by
  obtain ⟨d, rfl⟩ : ∃ e, d = e + 1 := ⟨d - 1, by omega⟩
  replace hd : 0 ≤ d := by omega
  refine And.intro (Nat.le_of_ble_eq_true rfl) ?_
  show wq_262 d Q 0 [oI l0, oI l1, oI l2] [] (sh_E h)
  refine ai_WP_steps mc_262 (sh_CM d) 3 (And.intro (fun c => ?_) (fun c => ?_))
  · replace H := sh_okT c H
    show wq_262 d Q 5 [oI l0, oI l1, oI l2] [] (sh_E h)
    exact ai_WP_steps mc_262 (sh_CM d) 4 (hR (l1 + l2) H)
  · replace H := sh_okF c H
    show wq_262 d Q 9 [oI l0, oI l1, oI l2] [] (sh_E h)
    refine ai_WP_steps mc_262 (sh_CM d) 3 (And.intro (fun c => ?_) (fun c => ?_))
    · replace H := sh_okT c H
      show wq_262 d Q 14 [oI l0, oI l1, oI l2] [] (sh_E h)
      exact ai_WP_steps mc_262 (sh_CM d) 4 (hR (l1 - l2) H)
    · replace H := sh_okF c H
      show wq_262 d Q 18 [oI l0, oI l1, oI l2] [] (sh_E h)
      refine ai_WP_steps mc_262 (sh_CM d) 3 (And.intro (fun c => ?_) (fun c => ?_))
      · replace H := sh_okT c H
        show wq_262 d Q 23 [oI l0, oI l1, oI l2] [] (sh_E h)
        exact ai_WP_steps mc_262 (sh_CM d) 4 (hR (l1 * l2) H)
      · replace H := sh_okF c H
        show wq_262 d Q 27 [oI l0, oI l1, oI l2] [] (sh_E h)
        refine ai_WP_steps mc_262 (sh_CM d) 3 (And.intro (fun c => ?_) (fun c => ?_))
        · replace H := sh_okT c H
          show wq_262 d Q 32 [oI l0, oI l1, oI l2] [] (sh_E h)
          have c := sh_okG H
          replace H := sh_okH H
          refine ai_WP_steps mc_262 (sh_CM d) 3 (And.intro c ?_)
          show wq_262 d Q 35 [oI l0, oI l1, oI l2] [aI (l1 / l2)] (sh_E h)
          exact ai_WP_steps mc_262 (sh_CM d) 1 (hR (l1 / l2) H)
        · replace H := sh_okF c H
          show wq_262 d Q 36 [oI l0, oI l1, oI l2] [] (sh_E h)
          refine ai_WP_steps mc_262 (sh_CM d) 3 (And.intro (fun c => ?_) (fun c => ?_))
          · replace H := sh_okT c H
            show wq_262 d Q 42 [oI l0, oI l1, oI l2] [] (sh_E h)
            refine ai_WP_steps mc_262 (sh_CM d) 3 (And.intro (fun c => ?_) (fun c => ?_))
            · replace H := sh_okT c H
              show wq_262 d Q 47 [oI l0, oI l1, oI l2] [] (sh_E h)
              refine ai_WP_steps mc_262 (sh_CM d) 1 ?_
              exact x_M_joined_b55 hd h hR H
            · replace H := sh_okF c H
              exact x_M_joined_b59 hd h hR H
          · replace H := sh_okF c H
            show wq_262 d Q 50 [oI l0, oI l1, oI l2] [] (sh_E h)
            refine ai_WP_steps mc_262 (sh_CM d) 3 (And.intro (fun c => ?_) (fun c => ?_))
            · replace H := sh_okT c H
              exact x_M_joined_b55 hd h hR H
            · replace H := sh_okF c H
              exact x_M_joined_b59 hd h hR H
def f_M_sum_b137 (N : Nat)  (k9 : Int32 → Int32 → Int32 → sh_H → Option (Int32 × sh_H)) (l1 : Int32) (l2 : Int32) (l3 : Int32) (h : sh_H) : Option (Int32 × sh_H) := k9 l1 l2 (l3 + (1 : Int32)) h
theorem x_M_sum_b137 (N : Nat) {d : Nat} (hd : 1 ≤ d) {Q : ai_Q} {R : Int32 × sh_H → Prop} (hR : ∀ r h, R (r, h) → Q (some (aI r)) (sh_E h))  (k9 : Int32 → Int32 → Int32 → sh_H → Option (Int32 × sh_H)) (hk9 : ∀ (l1 : Int32) (l2 : Int32) (l3 : Int32) {d4 d5 d6 : Option ai_V} (h : sh_H), sh_ok (k9 l1 l2 l3 h) R → wq_261 d Q 9 [oR 12 0, oI l1, oI l2, oI l3, d4, d5, d6] [] (sh_E h)) (l1 : Int32) (l2 : Int32) (l3 : Int32) {d4 d5 d6 : Option ai_V} (h : sh_H) (H : sh_ok (f_M_sum_b137 N k9 l1 l2 l3 h) R) : wq_261 d Q 137 [oR 12 0, oI l1, oI l2, oI l3, d4, d5, d6] [] (sh_E h) := by
  refine ai_WP_steps mc_261 (sh_CM d) 2 ?_
  exact hk9 l1 l2 (l3 + (1 : Int32)) h H
def f_M_sum_b77 (N : Nat)  (k9 : Int32 → Int32 → Int32 → sh_H → Option (Int32 × sh_H)) (l1 : Int32) (l2 : Int32) (l3 : Int32) (s0 : Nat) (s1 : Int32) (s2 : Int32) (h : sh_H) : Option (Int32 × sh_H) := (if ai_in s1 (sh_l13 s0) then (sh_let (sh_pI h 13 s0 s1.toNatClampNeg s2) (fun h1 => f_M_sum_b137 N k9 l1 (l2 + (1 : Int32)) l3 h1)) else none)
theorem x_M_sum_b77 (N : Nat) {d : Nat} (hd : 1 ≤ d) {Q : ai_Q} {R : Int32 × sh_H → Prop} (hR : ∀ r h, R (r, h) → Q (some (aI r)) (sh_E h))  (k9 : Int32 → Int32 → Int32 → sh_H → Option (Int32 × sh_H)) (hk9 : ∀ (l1 : Int32) (l2 : Int32) (l3 : Int32) {d4 d5 d6 : Option ai_V} (h : sh_H), sh_ok (k9 l1 l2 l3 h) R → wq_261 d Q 9 [oR 12 0, oI l1, oI l2, oI l3, d4, d5, d6] [] (sh_E h)) (l1 : Int32) (l2 : Int32) (l3 : Int32) (s0 : Nat) (s1 : Int32) (s2 : Int32) {d4 d5 d6 : Option ai_V} (h : sh_H) (H : sh_ok (f_M_sum_b77 N k9 l1 l2 l3 s0 s1 s2 h) R) : wq_261 d Q 77 [oR 12 0, oI l1, oI l2, oI l3, d4, d5, d6] [aI s2, aI s1, aR 13 s0] (sh_E h) := by
  have c := sh_okG H
  replace H := sh_okH H
  refine ai_WP_steps mc_261 (sh_CM d) 1 (And.intro c ?_)
  show wq_261 d Q 78 [oR 12 0, oI l1, oI l2, oI l3, _, _, _] [] (sh_E (sh_pI h 13 s0 s1.toNatClampNeg s2))
  replace H := sh_okL H
  generalize sh_pI h 13 s0 s1.toNatClampNeg s2 = h1 at H ⊢
  refine ai_WP_steps mc_261 (sh_CM d) 2 ?_
  exact x_M_sum_b137 N hd hR k9 hk9 l1 (l2 + (1 : Int32)) l3 h1 H
def f_M_sum_b120 (N : Nat)  (k9 : Int32 → Int32 → Int32 → sh_H → Option (Int32 × sh_H)) (l1 : Int32) (l2 : Int32) (l3 : Int32) (l4 : Int32) (l5 : Int32) (l6 : Int32) (h : sh_H) : Option (Int32 × sh_H) := (Option.bind (f_M_joined l4 l6 l5 h) (fun v2 => (if ai_in (l2 - (1 : Int32)) 500 then (sh_let (sh_pI h 13 51 (l2 - (1 : Int32)).toNatClampNeg v2) (fun h3 => f_M_sum_b137 N k9 l1 l2 l3 h3)) else none)))
theorem x_M_sum_b120 (N : Nat) {d : Nat} (hd : 1 ≤ d) {Q : ai_Q} {R : Int32 × sh_H → Prop} (hR : ∀ r h, R (r, h) → Q (some (aI r)) (sh_E h))  (k9 : Int32 → Int32 → Int32 → sh_H → Option (Int32 × sh_H)) (hk9 : ∀ (l1 : Int32) (l2 : Int32) (l3 : Int32) {d4 d5 d6 : Option ai_V} (h : sh_H), sh_ok (k9 l1 l2 l3 h) R → wq_261 d Q 9 [oR 12 0, oI l1, oI l2, oI l3, d4, d5, d6] [] (sh_E h)) (l1 : Int32) (l2 : Int32) (l3 : Int32) (l4 : Int32) (l5 : Int32) (l6 : Int32) (h : sh_H) (H : sh_ok (f_M_sum_b120 N k9 l1 l2 l3 l4 l5 l6 h) R) : wq_261 d Q 120 [oR 12 0, oI l1, oI l2, oI l3, oI l4, oI l5, oI l6] [] (sh_E h) := by
  refine ai_WP_steps mc_261 (sh_CM d) 9 (And.intro (Nat.le_of_ble_eq_true rfl) (x_M_joined (Nat.le_trans (Nat.le_of_ble_eq_true rfl) hd) l4 l6 l5 h (sh_okB H) (fun v2 H => ?_)))
  show wq_261 d Q 136 [oR 12 0, oI l1, oI l2, oI l3, oI l4, oI l5, oI l6] [aI v2, aI (l2 - (1 : Int32)), aR 13 51] (sh_E h)
  have c := sh_okG H
  replace H := sh_okH H
  refine ai_WP_steps mc_261 (sh_CM d) 1 (And.intro c ?_)
  show wq_261 d Q 137 [oR 12 0, oI l1, oI l2, oI l3, oI l4, oI l5, oI l6] [] (sh_E (sh_pI h 13 51 (l2 - (1 : Int32)).toNatClampNeg v2))
  replace H := sh_okL H
  generalize sh_pI h 13 51 (l2 - (1 : Int32)).toNatClampNeg v2 = h3 at H ⊢
  exact x_M_sum_b137 N hd hR k9 hk9 l1 l2 l3 h3 H
def f_M_sum_l9 (N : Nat)  (k118 : sh_H → Option (Int32 × sh_H)) (k143 : sh_H → Option (Int32 × sh_H)) (n : Nat) : Int32 → Int32 → Int32 → sh_H → Option (Int32 × sh_H) := Nat.rec (motive := fun _ => Int32 → Int32 → Int32 → sh_H → Option (Int32 × sh_H)) (fun _ _ _ _ => none) (fun _ k9 l1 l2 l3 h => (if ai_in (l1 + (1 : Int32)) 8000 then (if l3 < (h.1 13 46 (l1 + (1 : Int32)).toNatClampNeg) then (if ai_in ((1000 : Int32) + l3) 8000 then (if (h.1 13 46 ((1000 : Int32) + l3).toNatClampNeg) < (2 : Int32) then (if (h.1 13 46 ((1000 : Int32) + l3).toNatClampNeg) = 0 then (if ai_in ((1500 : Int32) + l3) 8000 then f_M_sum_b77 N k9 l1 l2 l3 51 l2 (h.1 13 46 ((1500 : Int32) + l3).toNatClampNeg) h else none) else (if ai_in ((1500 : Int32) + l3) 8000 then (if ai_in (h.1 13 46 ((1500 : Int32) + l3).toNatClampNeg) 4 then f_M_sum_b77 N k9 l1 l2 l3 51 l2 (h.1 13 50 (h.1 13 46 ((1500 : Int32) + l3).toNatClampNeg).toNatClampNeg) h else none) else none)) else (if ai_in (l2 - (1 : Int32)) 500 then (if ai_in (l2 - (2 : Int32)) 500 then (if (h.1 13 46 ((1000 : Int32) + l3).toNatClampNeg) = (5 : Int32) then (if (h.1 13 51 (l2 - (1 : Int32)).toNatClampNeg) = 0 then k118 h else f_M_sum_b120 N k9 l1 (l2 + (-1 : Int32)) l3 (h.1 13 46 ((1000 : Int32) + l3).toNatClampNeg) (h.1 13 51 (l2 - (1 : Int32)).toNatClampNeg) (h.1 13 51 (l2 - (2 : Int32)).toNatClampNeg) h) else f_M_sum_b120 N k9 l1 (l2 + (-1 : Int32)) l3 (h.1 13 46 ((1000 : Int32) + l3).toNatClampNeg) (h.1 13 51 (l2 - (1 : Int32)).toNatClampNeg) (h.1 13 51 (l2 - (2 : Int32)).toNatClampNeg) h) else none) else none)) else none) else k143 h) else none)) n
theorem x_M_sum_l9 (N : Nat) {d : Nat} (hd : 1 ≤ d) {Q : ai_Q} {R : Int32 × sh_H → Prop} (hR : ∀ r h, R (r, h) → Q (some (aI r)) (sh_E h))  (k118 : sh_H → Option (Int32 × sh_H)) (hk118 : ∀ {d0 d1 d2 d3 d4 d5 d6 : Option ai_V} (h : sh_H), sh_ok (k118 h) R → wq_261 d Q 118 [d0, d1, d2, d3, d4, d5, d6] [] (sh_E h)) (k143 : sh_H → Option (Int32 × sh_H)) (hk143 : ∀ {d1 d2 d3 d4 d5 d6 : Option ai_V} (h : sh_H), sh_ok (k143 h) R → wq_261 d Q 143 [oR 12 0, d1, d2, d3, d4, d5, d6] [] (sh_E h)) (n : Nat) : ∀ (l1 : Int32) (l2 : Int32) (l3 : Int32) {d4 d5 d6 : Option ai_V} (h : sh_H), sh_ok (f_M_sum_l9 N k118 k143 n l1 l2 l3 h) R → wq_261 d Q 9 [oR 12 0, oI l1, oI l2, oI l3, d4, d5, d6] [] (sh_E h) := by
  induction n with
  | zero => intro l1 l2 l3 d4 d5 d6 h H; exact H.elim
  | succ n ih =>
    intro l1 l2 l3 d4 d5 d6 h H
    have hk9 := @ih
    revert hk9 H
    show sh_ok ((fun k9 l1 l2 l3 h => (if ai_in (l1 + (1 : Int32)) 8000 then (if l3 < (h.1 13 46 (l1 + (1 : Int32)).toNatClampNeg) then (if ai_in ((1000 : Int32) + l3) 8000 then (if (h.1 13 46 ((1000 : Int32) + l3).toNatClampNeg) < (2 : Int32) then (if (h.1 13 46 ((1000 : Int32) + l3).toNatClampNeg) = 0 then (if ai_in ((1500 : Int32) + l3) 8000 then f_M_sum_b77 N k9 l1 l2 l3 51 l2 (h.1 13 46 ((1500 : Int32) + l3).toNatClampNeg) h else none) else (if ai_in ((1500 : Int32) + l3) 8000 then (if ai_in (h.1 13 46 ((1500 : Int32) + l3).toNatClampNeg) 4 then f_M_sum_b77 N k9 l1 l2 l3 51 l2 (h.1 13 50 (h.1 13 46 ((1500 : Int32) + l3).toNatClampNeg).toNatClampNeg) h else none) else none)) else (if ai_in (l2 - (1 : Int32)) 500 then (if ai_in (l2 - (2 : Int32)) 500 then (if (h.1 13 46 ((1000 : Int32) + l3).toNatClampNeg) = (5 : Int32) then (if (h.1 13 51 (l2 - (1 : Int32)).toNatClampNeg) = 0 then k118 h else f_M_sum_b120 N k9 l1 (l2 + (-1 : Int32)) l3 (h.1 13 46 ((1000 : Int32) + l3).toNatClampNeg) (h.1 13 51 (l2 - (1 : Int32)).toNatClampNeg) (h.1 13 51 (l2 - (2 : Int32)).toNatClampNeg) h) else f_M_sum_b120 N k9 l1 (l2 + (-1 : Int32)) l3 (h.1 13 46 ((1000 : Int32) + l3).toNatClampNeg) (h.1 13 51 (l2 - (1 : Int32)).toNatClampNeg) (h.1 13 51 (l2 - (2 : Int32)).toNatClampNeg) h) else none) else none)) else none) else k143 h) else none)) (f_M_sum_l9 N k118 k143 n) l1 l2 l3 h) R → _
    generalize f_M_sum_l9 N k118 k143 n = k9
    intro H hk9
    have c := sh_okG H
    replace H := sh_okH H
    refine ai_WP_steps mc_261 (sh_CM d) 7 (And.intro c ?_)
    show wq_261 d Q 18 [oR 12 0, oI l1, oI l2, oI l3, _, _, _] [aI (h.1 13 46 (l1 + (1 : Int32)).toNatClampNeg), aI l3] (sh_E h)
    refine ai_WP_steps mc_261 (sh_CM d) 1 (And.intro (fun c => ?_) (fun c => ?_))
    · replace H := sh_okT c H
      show wq_261 d Q 21 [oR 12 0, oI l1, oI l2, oI l3, _, _, _] [] (sh_E h)
      have c := sh_okG H
      replace H := sh_okH H
      refine ai_WP_steps mc_261 (sh_CM d) 6 (And.intro c ?_)
      show wq_261 d Q 31 [oR 12 0, oI l1, oI l2, oI l3, _, _, _] [aI (h.1 13 46 ((1000 : Int32) + l3).toNatClampNeg)] (sh_E h)
      refine ai_WP_steps mc_261 (sh_CM d) 4 (And.intro (fun c => ?_) (fun c => ?_))
      · replace H := sh_okT c H
        show wq_261 d Q 39 [oR 12 0, oI l1, oI l2, oI l3, oI (h.1 13 46 ((1000 : Int32) + l3).toNatClampNeg), _, _] [] (sh_E h)
        refine ai_WP_steps mc_261 (sh_CM d) 5 (And.intro (fun c => ?_) (fun c => ?_))
        · replace H := sh_okT c H
          show wq_261 d Q 49 [oR 12 0, oI l1, oI l2, oI l3, oI (h.1 13 46 ((1000 : Int32) + l3).toNatClampNeg), _, _] [aI l2, aR 13 51] (sh_E h)
          have c := sh_okG H
          replace H := sh_okH H
          refine ai_WP_steps mc_261 (sh_CM d) 6 (And.intro c ?_)
          show wq_261 d Q 59 [oR 12 0, oI l1, oI l2, oI l3, oI (h.1 13 46 ((1000 : Int32) + l3).toNatClampNeg), _, _] [aI (h.1 13 46 ((1500 : Int32) + l3).toNatClampNeg), aI l2, aR 13 51] (sh_E h)
          refine ai_WP_steps mc_261 (sh_CM d) 1 ?_
          exact x_M_sum_b77 N hd hR k9 hk9 l1 l2 l3 51 l2 (h.1 13 46 ((1500 : Int32) + l3).toNatClampNeg) h H
        · replace H := sh_okF c H
          show wq_261 d Q 62 [oR 12 0, oI l1, oI l2, oI l3, oI (h.1 13 46 ((1000 : Int32) + l3).toNatClampNeg), _, _] [aI l2, aR 13 51] (sh_E h)
          have c := sh_okG H
          replace H := sh_okH H
          refine ai_WP_steps mc_261 (sh_CM d) 8 (And.intro c ?_)
          show wq_261 d Q 76 [oR 12 0, oI l1, oI l2, oI l3, oI (h.1 13 46 ((1000 : Int32) + l3).toNatClampNeg), _, _] [aI (h.1 13 46 ((1500 : Int32) + l3).toNatClampNeg), aR 13 50, aI l2, aR 13 51] (sh_E h)
          have c := sh_okG H
          replace H := sh_okH H
          refine ai_WP_steps mc_261 (sh_CM d) 1 (And.intro c ?_)
          show wq_261 d Q 77 [oR 12 0, oI l1, oI l2, oI l3, oI (h.1 13 46 ((1000 : Int32) + l3).toNatClampNeg), _, _] [aI (h.1 13 50 (h.1 13 46 ((1500 : Int32) + l3).toNatClampNeg).toNatClampNeg), aI l2, aR 13 51] (sh_E h)
          exact x_M_sum_b77 N hd hR k9 hk9 l1 l2 l3 51 l2 (h.1 13 50 (h.1 13 46 ((1500 : Int32) + l3).toNatClampNeg).toNatClampNeg) h H
      · replace H := sh_okF c H
        show wq_261 d Q 84 [oR 12 0, oI l1, oI l2, oI l3, oI (h.1 13 46 ((1000 : Int32) + l3).toNatClampNeg), _, _] [] (sh_E h)
        have c := sh_okG H
        replace H := sh_okH H
        refine ai_WP_steps mc_261 (sh_CM d) 6 (And.intro c ?_)
        show wq_261 d Q 92 [oR 12 0, oI l1, oI l2, oI l3, oI (h.1 13 46 ((1000 : Int32) + l3).toNatClampNeg), _, _] [aI (h.1 13 51 (l2 - (1 : Int32)).toNatClampNeg)] (sh_E h)
        have c := sh_okG H
        replace H := sh_okH H
        refine ai_WP_steps mc_261 (sh_CM d) 7 (And.intro c ?_)
        show wq_261 d Q 102 [oR 12 0, oI l1, oI l2, oI l3, oI (h.1 13 46 ((1000 : Int32) + l3).toNatClampNeg), oI (h.1 13 51 (l2 - (1 : Int32)).toNatClampNeg), _] [aI (h.1 13 51 (l2 - (2 : Int32)).toNatClampNeg)] (sh_E h)
        refine ai_WP_steps mc_261 (sh_CM d) 5 (And.intro (fun c => ?_) (fun c => ?_))
        · replace H := sh_okT c H
          show wq_261 d Q 113 [oR 12 0, oI l1, oI (l2 + (-1 : Int32)), oI l3, oI (h.1 13 46 ((1000 : Int32) + l3).toNatClampNeg), oI (h.1 13 51 (l2 - (1 : Int32)).toNatClampNeg), oI (h.1 13 51 (l2 - (2 : Int32)).toNatClampNeg)] [] (sh_E h)
          refine ai_WP_steps mc_261 (sh_CM d) 2 (And.intro (fun c => ?_) (fun c => ?_))
          · replace H := sh_okT c H
            exact hk118 h H
          · replace H := sh_okF c H
            exact x_M_sum_b120 N hd hR k9 hk9 l1 (l2 + (-1 : Int32)) l3 (h.1 13 46 ((1000 : Int32) + l3).toNatClampNeg) (h.1 13 51 (l2 - (1 : Int32)).toNatClampNeg) (h.1 13 51 (l2 - (2 : Int32)).toNatClampNeg) h H
        · replace H := sh_okF c H
          exact x_M_sum_b120 N hd hR k9 hk9 l1 (l2 + (-1 : Int32)) l3 (h.1 13 46 ((1000 : Int32) + l3).toNatClampNeg) (h.1 13 51 (l2 - (1 : Int32)).toNatClampNeg) (h.1 13 51 (l2 - (2 : Int32)).toNatClampNeg) h H
    · replace H := sh_okF c H
      exact hk143 h H
def f_M_sum_b118 (N : Nat)    (h : sh_H) : Option (Int32 × sh_H) := (some ((0 : Int32), h))
theorem x_M_sum_b118 (N : Nat) {d : Nat} (hd : 1 ≤ d) {Q : ai_Q} {R : Int32 × sh_H → Prop} (hR : ∀ r h, R (r, h) → Q (some (aI r)) (sh_E h))    {d0 d1 d2 d3 d4 d5 d6 : Option ai_V} (h : sh_H) (H : sh_ok (f_M_sum_b118 N h) R) : wq_261 d Q 118 [d0, d1, d2, d3, d4, d5, d6] [] (sh_E h) := by
  exact ai_WP_steps mc_261 (sh_CM d) 2 (hR (0 : Int32) h H)
def f_M_sum_b143 (N : Nat)    (h : sh_H) : Option (Int32 × sh_H) := (if ai_in (0 : Int32) 500 then (some ((h.1 13 51 (0 : Int32).toNatClampNeg), h)) else none)
theorem x_M_sum_b143 (N : Nat) {d : Nat} (hd : 1 ≤ d) {Q : ai_Q} {R : Int32 × sh_H → Prop} (hR : ∀ r h, R (r, h) → Q (some (aI r)) (sh_E h))    {d1 d2 d3 d4 d5 d6 : Option ai_V} (h : sh_H) (H : sh_ok (f_M_sum_b143 N h) R) : wq_261 d Q 143 [oR 12 0, d1, d2, d3, d4, d5, d6] [] (sh_E h) := by
  have c := sh_okG H
  replace H := sh_okH H
  refine ai_WP_steps mc_261 (sh_CM d) 4 (And.intro c ?_)
  show wq_261 d Q 149 [oR 12 0, _, _, _, _, _, _] [aI (h.1 13 51 (0 : Int32).toNatClampNeg)] (sh_E h)
  exact ai_WP_steps mc_261 (sh_CM d) 1 (hR (h.1 13 51 (0 : Int32).toNatClampNeg) h H)
def f_M_sum (N : Nat)  (l1 : Int32) (h : sh_H) : Option (Int32 × sh_H) := (if ai_in l1 8000 then f_M_sum_l9 N (f_M_sum_b118 N) (f_M_sum_b143 N) N l1 (0 : Int32) (h.1 13 46 l1.toNatClampNeg) h else none)
theorem x_M_sum (N : Nat) {d : Nat} (hd : 2 ≤ d) (l1 : Int32) (h : sh_H) {Q : ai_Q} {R : Int32 × sh_H → Prop} (H : sh_ok (f_M_sum N l1 h) R) (hR : ∀ r h, R (r, h) → Q (some (aI r)) (sh_E h)) : ai_Ex sh_T d 261 [aR 12 0, aI l1] (sh_E h) Q := by
  obtain ⟨d, rfl⟩ : ∃ e, d = e + 1 := ⟨d - 1, by omega⟩
  replace hd : 1 ≤ d := by omega
  refine And.intro (Nat.le_of_ble_eq_true rfl) ?_
  show wq_261 d Q 0 [oR 12 0, oI l1, none, none, none, none, none] [] (sh_E h)
  have c := sh_okG H
  replace H := sh_okH H
  refine ai_WP_steps mc_261 (sh_CM d) 6 (And.intro c ?_)
  show wq_261 d Q 8 [oR 12 0, oI l1, oI (0 : Int32), _, _, _, _] [aI (h.1 13 46 l1.toNatClampNeg)] (sh_E h)
  refine ai_WP_steps mc_261 (sh_CM d) 1 ?_
  exact x_M_sum_l9 N hd hR (f_M_sum_b118 N) (fun {e0} {e1} {e2} {e3} {e4} {e5} {e6} h H => x_M_sum_b118 N hd hR  h H) (f_M_sum_b143 N) (fun {e1} {e2} {e3} {e4} {e5} {e6} h H => x_M_sum_b143 N hd hR  h H) N l1 (0 : Int32) (h.1 13 46 l1.toNatClampNeg) h H
def f_M_isLast_b70 (N : Nat)  (k5 : Int32 → Int32 → Int32 → Int32 → sh_H → Option Int32) (l1 : Int32) (l2 : Int32) (l3 : Int32) (l4 : Int32) (h : sh_H) : Option Int32 := k5 l1 l2 l3 (l4 + (1 : Int32)) h
theorem x_M_isLast_b70 (N : Nat) {d : Nat} (hd : 0 ≤ d) (h : sh_H) {Q : ai_Q} {R : Int32 → Prop} (hR : ∀ r, R r → Q (some (aI r)) (sh_E h))  (k5 : Int32 → Int32 → Int32 → Int32 → sh_H → Option Int32) (hk5 : ∀ (l1 : Int32) (l2 : Int32) (l3 : Int32) (l4 : Int32), sh_ok (k5 l1 l2 l3 l4 h) R → wq_263 d Q 5 [oR 12 0, oI l1, oI l2, oI l3, oI l4] [] (sh_E h)) (l1 : Int32) (l2 : Int32) (l3 : Int32) (l4 : Int32) (H : sh_ok (f_M_isLast_b70 N k5 l1 l2 l3 l4 h) R) : wq_263 d Q 70 [oR 12 0, oI l1, oI l2, oI l3, oI l4] [] (sh_E h) := by
  refine ai_WP_steps mc_263 (sh_CM d) 2 ?_
  exact hk5 l1 l2 l3 (l4 + (1 : Int32)) H
def f_M_isLast_l5 (N : Nat)  (k68 : sh_H → Option Int32) (k76 : sh_H → Option Int32) (n : Nat) : Int32 → Int32 → Int32 → Int32 → sh_H → Option Int32 := Nat.rec (motive := fun _ => Int32 → Int32 → Int32 → Int32 → sh_H → Option Int32) (fun _ _ _ _ _ => none) (fun _ k5 l1 l2 l3 l4 h => (if ai_in l1 8000 then (if l4 < (h.1 13 46 l1.toNatClampNeg) then (if ai_in (l2 + ((4 : Int32) * l4)) 8000 then (if ai_in (l2 + ((4 : Int32) * l3)) 8000 then (if (h.1 13 46 (l2 + ((4 : Int32) * l4)).toNatClampNeg) = (h.1 13 46 (l2 + ((4 : Int32) * l3)).toNatClampNeg) then (if ai_in ((l2 + ((4 : Int32) * l4)) + (1 : Int32)) 8000 then (if ai_in ((l2 + ((4 : Int32) * l3)) + (1 : Int32)) 8000 then (if (h.1 13 46 ((l2 + ((4 : Int32) * l4)) + (1 : Int32)).toNatClampNeg) = (h.1 13 46 ((l2 + ((4 : Int32) * l3)) + (1 : Int32)).toNatClampNeg) then k68 h else f_M_isLast_b70 N k5 l1 l2 l3 l4 h) else none) else none) else f_M_isLast_b70 N k5 l1 l2 l3 l4 h) else none) else none) else k76 h) else none)) n
theorem x_M_isLast_l5 (N : Nat) {d : Nat} (hd : 0 ≤ d) (h : sh_H) {Q : ai_Q} {R : Int32 → Prop} (hR : ∀ r, R r → Q (some (aI r)) (sh_E h))  (k68 : sh_H → Option Int32) (hk68 : ∀ {d0 d1 d2 d3 d4 : Option ai_V}, sh_ok (k68 h) R → wq_263 d Q 68 [d0, d1, d2, d3, d4] [] (sh_E h)) (k76 : sh_H → Option Int32) (hk76 : ∀ {d0 d1 d2 d3 d4 : Option ai_V}, sh_ok (k76 h) R → wq_263 d Q 76 [d0, d1, d2, d3, d4] [] (sh_E h)) (n : Nat) : ∀ (l1 : Int32) (l2 : Int32) (l3 : Int32) (l4 : Int32), sh_ok (f_M_isLast_l5 N k68 k76 n l1 l2 l3 l4 h) R → wq_263 d Q 5 [oR 12 0, oI l1, oI l2, oI l3, oI l4] [] (sh_E h) := by
  induction n with
  | zero => intro l1 l2 l3 l4 H; exact H.elim
  | succ n ih =>
    intro l1 l2 l3 l4 H
    have hk5 := @ih
    revert hk5 H
    show sh_ok ((fun k5 l1 l2 l3 l4 h => (if ai_in l1 8000 then (if l4 < (h.1 13 46 l1.toNatClampNeg) then (if ai_in (l2 + ((4 : Int32) * l4)) 8000 then (if ai_in (l2 + ((4 : Int32) * l3)) 8000 then (if (h.1 13 46 (l2 + ((4 : Int32) * l4)).toNatClampNeg) = (h.1 13 46 (l2 + ((4 : Int32) * l3)).toNatClampNeg) then (if ai_in ((l2 + ((4 : Int32) * l4)) + (1 : Int32)) 8000 then (if ai_in ((l2 + ((4 : Int32) * l3)) + (1 : Int32)) 8000 then (if (h.1 13 46 ((l2 + ((4 : Int32) * l4)) + (1 : Int32)).toNatClampNeg) = (h.1 13 46 ((l2 + ((4 : Int32) * l3)) + (1 : Int32)).toNatClampNeg) then k68 h else f_M_isLast_b70 N k5 l1 l2 l3 l4 h) else none) else none) else f_M_isLast_b70 N k5 l1 l2 l3 l4 h) else none) else none) else k76 h) else none)) (f_M_isLast_l5 N k68 k76 n) l1 l2 l3 l4 h) R → _
    generalize f_M_isLast_l5 N k68 k76 n = k5
    intro H hk5
    have c := sh_okG H
    replace H := sh_okH H
    refine ai_WP_steps mc_263 (sh_CM d) 5 (And.intro c ?_)
    show wq_263 d Q 13 [oR 12 0, oI l1, oI l2, oI l3, oI l4] [aI (h.1 13 46 l1.toNatClampNeg), aI l4] (sh_E h)
    refine ai_WP_steps mc_263 (sh_CM d) 1 (And.intro (fun c => ?_) (fun c => ?_))
    · replace H := sh_okT c H
      show wq_263 d Q 16 [oR 12 0, oI l1, oI l2, oI l3, oI l4] [] (sh_E h)
      have c := sh_okG H
      replace H := sh_okH H
      refine ai_WP_steps mc_263 (sh_CM d) 8 (And.intro c ?_)
      show wq_263 d Q 27 [oR 12 0, oI l1, oI l2, oI l3, oI l4] [aI (h.1 13 46 (l2 + ((4 : Int32) * l4)).toNatClampNeg)] (sh_E h)
      have c := sh_okG H
      replace H := sh_okH H
      refine ai_WP_steps mc_263 (sh_CM d) 8 (And.intro c ?_)
      show wq_263 d Q 37 [oR 12 0, oI l1, oI l2, oI l3, oI l4] [aI (h.1 13 46 (l2 + ((4 : Int32) * l3)).toNatClampNeg), aI (h.1 13 46 (l2 + ((4 : Int32) * l4)).toNatClampNeg)] (sh_E h)
      refine ai_WP_steps mc_263 (sh_CM d) 1 (And.intro (fun c => ?_) (fun c => ?_))
      · replace H := sh_okT c H
        show wq_263 d Q 40 [oR 12 0, oI l1, oI l2, oI l3, oI l4] [] (sh_E h)
        have c := sh_okG H
        replace H := sh_okH H
        refine ai_WP_steps mc_263 (sh_CM d) 10 (And.intro c ?_)
        show wq_263 d Q 53 [oR 12 0, oI l1, oI l2, oI l3, oI l4] [aI (h.1 13 46 ((l2 + ((4 : Int32) * l4)) + (1 : Int32)).toNatClampNeg)] (sh_E h)
        have c := sh_okG H
        replace H := sh_okH H
        refine ai_WP_steps mc_263 (sh_CM d) 10 (And.intro c ?_)
        show wq_263 d Q 65 [oR 12 0, oI l1, oI l2, oI l3, oI l4] [aI (h.1 13 46 ((l2 + ((4 : Int32) * l3)) + (1 : Int32)).toNatClampNeg), aI (h.1 13 46 ((l2 + ((4 : Int32) * l4)) + (1 : Int32)).toNatClampNeg)] (sh_E h)
        refine ai_WP_steps mc_263 (sh_CM d) 1 (And.intro (fun c => ?_) (fun c => ?_))
        · replace H := sh_okT c H
          exact hk68 H
        · replace H := sh_okF c H
          exact x_M_isLast_b70 N hd h hR k5 hk5 l1 l2 l3 l4 H
      · replace H := sh_okF c H
        exact x_M_isLast_b70 N hd h hR k5 hk5 l1 l2 l3 l4 H
    · replace H := sh_okF c H
      exact hk76 H
def f_M_isLast_b68 (N : Nat)    (h : sh_H) : Option Int32 := (some (ai_nar 1 (0 : Int32)))
theorem x_M_isLast_b68 (N : Nat) {d : Nat} (hd : 0 ≤ d) (h : sh_H) {Q : ai_Q} {R : Int32 → Prop} (hR : ∀ r, R r → Q (some (aI r)) (sh_E h))    {d0 d1 d2 d3 d4 : Option ai_V} (H : sh_ok (f_M_isLast_b68 N h) R) : wq_263 d Q 68 [d0, d1, d2, d3, d4] [] (sh_E h) := by
  exact ai_WP_steps mc_263 (sh_CM d) 2 (hR (ai_nar 1 (0 : Int32)) H)
def f_M_isLast_b76 (N : Nat)    (h : sh_H) : Option Int32 := (some (ai_nar 1 (1 : Int32)))
theorem x_M_isLast_b76 (N : Nat) {d : Nat} (hd : 0 ≤ d) (h : sh_H) {Q : ai_Q} {R : Int32 → Prop} (hR : ∀ r, R r → Q (some (aI r)) (sh_E h))    {d0 d1 d2 d3 d4 : Option ai_V} (H : sh_ok (f_M_isLast_b76 N h) R) : wq_263 d Q 76 [d0, d1, d2, d3, d4] [] (sh_E h) := by
  exact ai_WP_steps mc_263 (sh_CM d) 2 (hR (ai_nar 1 (1 : Int32)) H)
def f_M_isLast (N : Nat)  (l1 : Int32) (l2 : Int32) (l3 : Int32) (h : sh_H) : Option Int32 := f_M_isLast_l5 N (f_M_isLast_b68 N) (f_M_isLast_b76 N) N l1 l2 l3 (l3 + (1 : Int32)) h
theorem x_M_isLast (N : Nat) {d : Nat} (hd : 1 ≤ d) (l1 : Int32) (l2 : Int32) (l3 : Int32) (h : sh_H) {Q : ai_Q} {R : Int32 → Prop} (H : sh_ok (f_M_isLast N l1 l2 l3 h) R) (hR : ∀ r, R r → Q (some (aI r)) (sh_E h)) : ai_Ex sh_T d 263 [aR 12 0, aI l1, aI l2, aI l3] (sh_E h) Q := by
  obtain ⟨d, rfl⟩ : ∃ e, d = e + 1 := ⟨d - 1, by omega⟩
  replace hd : 0 ≤ d := by omega
  refine And.intro (Nat.le_of_ble_eq_true rfl) ?_
  show wq_263 d Q 0 [oR 12 0, oI l1, oI l2, oI l3, none] [] (sh_E h)
  refine ai_WP_steps mc_263 (sh_CM d) 4 ?_
  exact x_M_isLast_l5 N hd h hR (f_M_isLast_b68 N) (fun {e0} {e1} {e2} {e3} {e4} H => x_M_isLast_b68 N hd h hR  H) (f_M_isLast_b76 N) (fun {e0} {e1} {e2} {e3} {e4} H => x_M_isLast_b76 N hd h hR  H) N l1 l2 l3 (l3 + (1 : Int32)) H
def f_M_within  (l0 : Int32) (l1 : Int32) (l2 : Int32) (h : sh_H) : Option Int32 := (if l0 < l1 then (some l1) else (if l2 < l0 then (some l2) else (some l0)))
theorem x_M_within {d : Nat} (hd : 1 ≤ d) (l0 : Int32) (l1 : Int32) (l2 : Int32) (h : sh_H) {Q : ai_Q} {R : Int32 → Prop} (H : sh_ok (f_M_within l0 l1 l2 h) R) (hR : ∀ r, R r → Q (some (aI r)) (sh_E h)) : ai_Ex sh_T d 264 [aI l0, aI l1, aI l2] (sh_E h) Q := by
  obtain ⟨d, rfl⟩ : ∃ e, d = e + 1 := ⟨d - 1, by omega⟩
  replace hd : 0 ≤ d := by omega
  refine And.intro (Nat.le_of_ble_eq_true rfl) ?_
  show wq_264 d Q 0 [oI l0, oI l1, oI l2] [] (sh_E h)
  refine ai_WP_steps mc_264 (sh_CM d) 3 (And.intro (fun c => ?_) (fun c => ?_))
  · replace H := sh_okT c H
    show wq_264 d Q 5 [oI l0, oI l1, oI l2] [] (sh_E h)
    exact ai_WP_steps mc_264 (sh_CM d) 3 (hR l1 H)
  · replace H := sh_okF c H
    show wq_264 d Q 9 [oI l0, oI l1, oI l2] [] (sh_E h)
    refine ai_WP_steps mc_264 (sh_CM d) 3 (And.intro (fun c => ?_) (fun c => ?_))
    · replace H := sh_okT c H
      show wq_264 d Q 14 [oI l0, oI l1, oI l2] [] (sh_E h)
      exact ai_WP_steps mc_264 (sh_CM d) 3 (hR l2 H)
    · replace H := sh_okF c H
      show wq_264 d Q 18 [oI l0, oI l1, oI l2] [] (sh_E h)
      exact ai_WP_steps mc_264 (sh_CM d) 2 (hR l0 H)
def f_M_wanted_b81 (N : Nat)  (k10 : Int32 → Int32 → Int32 → Int32 → sh_H → Option (Int32 × sh_H)) (l1 : Int32) (l2 : Int32) (l3 : Int32) (l4 : Int32) (h : sh_H) : Option (Int32 × sh_H) := k10 l1 l2 l3 (l4 + (-1 : Int32)) h
theorem x_M_wanted_b81 (N : Nat) {d : Nat} (hd : 2 ≤ d) {Q : ai_Q} {R : Int32 × sh_H → Prop} (hR : ∀ r h, R (r, h) → Q (some (aI r)) (sh_E h))  (k10 : Int32 → Int32 → Int32 → Int32 → sh_H → Option (Int32 × sh_H)) (hk10 : ∀ (l1 : Int32) (l2 : Int32) (l3 : Int32) (l4 : Int32) (h : sh_H), sh_ok (k10 l1 l2 l3 l4 h) R → wq_265 d Q 10 [oR 12 0, oI l1, oI l2, oI l3, oI l4] [] (sh_E h)) (l1 : Int32) (l2 : Int32) (l3 : Int32) (l4 : Int32) (h : sh_H) (H : sh_ok (f_M_wanted_b81 N k10 l1 l2 l3 l4 h) R) : wq_265 d Q 81 [oR 12 0, oI l1, oI l2, oI l3, oI l4] [] (sh_E h) := by
  refine ai_WP_steps mc_265 (sh_CM d) 2 ?_
  exact hk10 l1 l2 l3 (l4 + (-1 : Int32)) h H
def f_M_wanted_l10 (N : Nat)  (k52 : Int32 → Int32 → sh_H → Option (Int32 × sh_H)) (k87 : sh_H → Option (Int32 × sh_H)) (n : Nat) : Int32 → Int32 → Int32 → Int32 → sh_H → Option (Int32 × sh_H) := Nat.rec (motive := fun _ => Int32 → Int32 → Int32 → Int32 → sh_H → Option (Int32 × sh_H)) (fun _ _ _ _ _ => none) (fun _ k10 l1 l2 l3 l4 h => (if l4 < 0 then k87 h else (if ai_in ((50 : Int32) + ((4 : Int32) * l4)) 8000 then (if (h.1 13 46 ((50 : Int32) + ((4 : Int32) * l4)).toNatClampNeg) = l1 then (if ai_in (((50 : Int32) + ((4 : Int32) * l4)) + (1 : Int32)) 8000 then (if (h.1 13 46 (((50 : Int32) + ((4 : Int32) * l4)) + (1 : Int32)).toNatClampNeg) = l2 then k52 l3 l4 h else f_M_wanted_b81 N k10 l1 l2 l3 l4 h) else none) else f_M_wanted_b81 N k10 l1 l2 l3 l4 h) else none))) n
theorem x_M_wanted_l10 (N : Nat) {d : Nat} (hd : 2 ≤ d) {Q : ai_Q} {R : Int32 × sh_H → Prop} (hR : ∀ r h, R (r, h) → Q (some (aI r)) (sh_E h))  (k52 : Int32 → Int32 → sh_H → Option (Int32 × sh_H)) (hk52 : ∀ (l3 : Int32) (l4 : Int32) {d1 d2 : Option ai_V} (h : sh_H), sh_ok (k52 l3 l4 h) R → wq_265 d Q 52 [oR 12 0, d1, d2, oI l3, oI l4] [] (sh_E h)) (k87 : sh_H → Option (Int32 × sh_H)) (hk87 : ∀ {d0 d1 d2 d3 d4 : Option ai_V} (h : sh_H), sh_ok (k87 h) R → wq_265 d Q 87 [d0, d1, d2, d3, d4] [] (sh_E h)) (n : Nat) : ∀ (l1 : Int32) (l2 : Int32) (l3 : Int32) (l4 : Int32) (h : sh_H), sh_ok (f_M_wanted_l10 N k52 k87 n l1 l2 l3 l4 h) R → wq_265 d Q 10 [oR 12 0, oI l1, oI l2, oI l3, oI l4] [] (sh_E h) := by
  induction n with
  | zero => intro l1 l2 l3 l4 h H; exact H.elim
  | succ n ih =>
    intro l1 l2 l3 l4 h H
    have hk10 := @ih
    revert hk10 H
    show sh_ok ((fun k10 l1 l2 l3 l4 h => (if l4 < 0 then k87 h else (if ai_in ((50 : Int32) + ((4 : Int32) * l4)) 8000 then (if (h.1 13 46 ((50 : Int32) + ((4 : Int32) * l4)).toNatClampNeg) = l1 then (if ai_in (((50 : Int32) + ((4 : Int32) * l4)) + (1 : Int32)) 8000 then (if (h.1 13 46 (((50 : Int32) + ((4 : Int32) * l4)) + (1 : Int32)).toNatClampNeg) = l2 then k52 l3 l4 h else f_M_wanted_b81 N k10 l1 l2 l3 l4 h) else none) else f_M_wanted_b81 N k10 l1 l2 l3 l4 h) else none))) (f_M_wanted_l10 N k52 k87 n) l1 l2 l3 l4 h) R → _
    generalize f_M_wanted_l10 N k52 k87 n = k10
    intro H hk10
    refine ai_WP_steps mc_265 (sh_CM d) 2 (And.intro (fun c => ?_) (fun c => ?_))
    · replace H := sh_okT c H
      exact hk87 h H
    · replace H := sh_okF c H
      show wq_265 d Q 15 [oR 12 0, oI l1, oI l2, oI l3, oI l4] [] (sh_E h)
      have c := sh_okG H
      replace H := sh_okH H
      refine ai_WP_steps mc_265 (sh_CM d) 8 (And.intro c ?_)
      show wq_265 d Q 27 [oR 12 0, oI l1, oI l2, oI l3, oI l4] [aI (h.1 13 46 ((50 : Int32) + ((4 : Int32) * l4)).toNatClampNeg)] (sh_E h)
      refine ai_WP_steps mc_265 (sh_CM d) 2 (And.intro (fun c => ?_) (fun c => ?_))
      · replace H := sh_okT c H
        show wq_265 d Q 31 [oR 12 0, oI l1, oI l2, oI l3, oI l4] [] (sh_E h)
        have c := sh_okG H
        replace H := sh_okH H
        refine ai_WP_steps mc_265 (sh_CM d) 10 (And.intro c ?_)
        show wq_265 d Q 45 [oR 12 0, oI l1, oI l2, oI l3, oI l4] [aI (h.1 13 46 (((50 : Int32) + ((4 : Int32) * l4)) + (1 : Int32)).toNatClampNeg)] (sh_E h)
        refine ai_WP_steps mc_265 (sh_CM d) 2 (And.intro (fun c => ?_) (fun c => ?_))
        · replace H := sh_okT c H
          exact hk52 l3 l4 h H
        · replace H := sh_okF c H
          show wq_265 d Q 49 [oR 12 0, oI l1, oI l2, oI l3, oI l4] [] (sh_E h)
          refine ai_WP_steps mc_265 (sh_CM d) 1 ?_
          exact x_M_wanted_b81 N hd hR k10 hk10 l1 l2 l3 l4 h H
      · replace H := sh_okF c H
        exact x_M_wanted_b81 N hd hR k10 hk10 l1 l2 l3 l4 h H
def f_M_wanted_b52 (N : Nat)   (l3 : Int32) (l4 : Int32) (h : sh_H) : Option (Int32 × sh_H) := (Option.bind (f_M_ask l3 (0 : Int32) (0 : Int32) (0 : Int32) h) (fun h1 => (sh_b2 (f_M_sum N (((50 : Int32) + ((4 : Int32) * l4)) + (2 : Int32)) h1) (fun v2 h3 => (Option.bind (f_M_within v2 (0 : Int32) (9999 : Int32) h3) (fun v4 => (some (v4, h3))))))))
theorem x_M_wanted_b52 (N : Nat) {d : Nat} (hd : 2 ≤ d) {Q : ai_Q} {R : Int32 × sh_H → Prop} (hR : ∀ r h, R (r, h) → Q (some (aI r)) (sh_E h))   (l3 : Int32) (l4 : Int32) {d1 d2 : Option ai_V} (h : sh_H) (H : sh_ok (f_M_wanted_b52 N l3 l4 h) R) : wq_265 d Q 52 [oR 12 0, d1, d2, oI l3, oI l4] [] (sh_E h) := by
  refine ai_WP_steps mc_265 (sh_CM d) 6 (And.intro (Nat.le_of_ble_eq_true rfl) (x_M_ask (Nat.le_trans (Nat.le_of_ble_eq_true rfl) hd) l3 (0 : Int32) (0 : Int32) (0 : Int32) h (sh_okB H) (fun h1 H => ?_)))
  show wq_265 d Q 60 [oR 12 0, _, _, oI l3, oI l4] [] (sh_E h1)
  refine ai_WP_steps mc_265 (sh_CM d) 9 (And.intro (Nat.le_of_ble_eq_true rfl) (x_M_sum N (Nat.le_trans (Nat.le_of_ble_eq_true rfl) hd) (((50 : Int32) + ((4 : Int32) * l4)) + (2 : Int32)) h1 (sh_okB H) (fun v2 h3 H => ?_)))
  show wq_265 d Q 73 [oR 12 0, _, _, oI l3, oI l4] [aI v2] (sh_E h3)
  refine ai_WP_steps mc_265 (sh_CM d) 3 (And.intro (Nat.le_of_ble_eq_true rfl) (x_M_within (Nat.le_trans (Nat.le_of_ble_eq_true rfl) hd) v2 (0 : Int32) (9999 : Int32) h3 (sh_okB H) (fun v4 H => ?_)))
  show wq_265 d Q 80 [oR 12 0, _, _, oI l3, oI l4] [aI v4] (sh_E h3)
  exact ai_WP_steps mc_265 (sh_CM d) 1 (hR v4 h3 H)
def f_M_wanted_b87 (N : Nat)    (h : sh_H) : Option (Int32 × sh_H) := (some ((0 : Int32), h))
theorem x_M_wanted_b87 (N : Nat) {d : Nat} (hd : 2 ≤ d) {Q : ai_Q} {R : Int32 × sh_H → Prop} (hR : ∀ r h, R (r, h) → Q (some (aI r)) (sh_E h))    {d0 d1 d2 d3 d4 : Option ai_V} (h : sh_H) (H : sh_ok (f_M_wanted_b87 N h) R) : wq_265 d Q 87 [d0, d1, d2, d3, d4] [] (sh_E h) := by
  exact ai_WP_steps mc_265 (sh_CM d) 2 (hR (0 : Int32) h H)
def f_M_wanted (N : Nat)  (l1 : Int32) (l2 : Int32) (l3 : Int32) (h : sh_H) : Option (Int32 × sh_H) := (if ai_in (2 : Int32) 8000 then f_M_wanted_l10 N (f_M_wanted_b52 N) (f_M_wanted_b87 N) N l1 l2 l3 ((h.1 13 46 (2 : Int32).toNatClampNeg) - (1 : Int32)) h else none)
theorem x_M_wanted (N : Nat) {d : Nat} (hd : 3 ≤ d) (l1 : Int32) (l2 : Int32) (l3 : Int32) (h : sh_H) {Q : ai_Q} {R : Int32 × sh_H → Prop} (H : sh_ok (f_M_wanted N l1 l2 l3 h) R) (hR : ∀ r h, R (r, h) → Q (some (aI r)) (sh_E h)) : ai_Ex sh_T d 265 [aR 12 0, aI l1, aI l2, aI l3] (sh_E h) Q := by
  obtain ⟨d, rfl⟩ : ∃ e, d = e + 1 := ⟨d - 1, by omega⟩
  replace hd : 2 ≤ d := by omega
  refine And.intro (Nat.le_of_ble_eq_true rfl) ?_
  show wq_265 d Q 0 [oR 12 0, oI l1, oI l2, oI l3, none] [] (sh_E h)
  have c := sh_okG H
  replace H := sh_okH H
  refine ai_WP_steps mc_265 (sh_CM d) 4 (And.intro c ?_)
  show wq_265 d Q 6 [oR 12 0, oI l1, oI l2, oI l3, _] [aI (h.1 13 46 (2 : Int32).toNatClampNeg)] (sh_E h)
  refine ai_WP_steps mc_265 (sh_CM d) 3 ?_
  exact x_M_wanted_l10 N hd hR (f_M_wanted_b52 N) (fun z0 z1 {e1} {e2} h H => x_M_wanted_b52 N hd hR z0 z1 h H) (f_M_wanted_b87 N) (fun {e0} {e1} {e2} {e3} {e4} h H => x_M_wanted_b87 N hd hR  h H) N l1 l2 l3 ((h.1 13 46 (2 : Int32).toNatClampNeg) - (1 : Int32)) h H
def f_M_want_b36 (N : Nat)    (h : sh_H) : Option (Int32 × sh_H) := (some ((-1 : Int32), h))
theorem x_M_want_b36 (N : Nat) {d : Nat} (hd : 3 ≤ d) {Q : ai_Q} {R : Int32 × sh_H → Prop} (hR : ∀ r h, R (r, h) → Q (some (aI r)) (sh_E h))    {d0 d1 d2 d3 : Option ai_V} (h : sh_H) (H : sh_ok (f_M_want_b36 N h) R) : wq_266 d Q 36 [d0, d1, d2, d3] [] (sh_E h) := by
  exact ai_WP_steps mc_266 (sh_CM d) 2 (hR (-1 : Int32) h H)
def f_M_want (N : Nat)  (l1 : Int32) (l2 : Int32) (l3 : Int32) (h : sh_H) : Option (Int32 × sh_H) := (Option.bind (f_M_isIsland l1 h) (fun v1 => (if v1 = 0 then f_M_want_b36 N h else (Option.bind (f_M_isKind l2 h) (fun v2 => (if v2 = 0 then f_M_want_b36 N h else (Option.bind (f_M_isIn l3 (0 : Int32) (11 : Int32) h) (fun v3 => (if v3 = 0 then f_M_want_b36 N h else (sh_b2 (f_M_wanted N l1 l2 l3 h) (fun v4 h5 => (some (v4, h5)))))))))))))
theorem x_M_want (N : Nat) {d : Nat} (hd : 4 ≤ d) (l1 : Int32) (l2 : Int32) (l3 : Int32) (h : sh_H) {Q : ai_Q} {R : Int32 × sh_H → Prop} (H : sh_ok (f_M_want N l1 l2 l3 h) R) (hR : ∀ r h, R (r, h) → Q (some (aI r)) (sh_E h)) : ai_Ex sh_T d 266 [aR 12 0, aI l1, aI l2, aI l3] (sh_E h) Q := by
  obtain ⟨d, rfl⟩ : ∃ e, d = e + 1 := ⟨d - 1, by omega⟩
  replace hd : 3 ≤ d := by omega
  refine And.intro (Nat.le_of_ble_eq_true rfl) ?_
  show wq_266 d Q 0 [oR 12 0, oI l1, oI l2, oI l3] [] (sh_E h)
  refine ai_WP_steps mc_266 (sh_CM d) 3 (And.intro (Nat.le_of_ble_eq_true rfl) (x_M_isIsland (Nat.le_trans (Nat.le_of_ble_eq_true rfl) hd) l1 h (sh_okB H) (fun v1 H => ?_)))
  show wq_266 d Q 5 [oR 12 0, oI l1, oI l2, oI l3] [aI v1] (sh_E h)
  refine ai_WP_steps mc_266 (sh_CM d) 1 (And.intro (fun c => ?_) (fun c => ?_))
  · replace H := sh_okT c H
    exact x_M_want_b36 N hd hR h H
  · replace H := sh_okF c H
    show wq_266 d Q 8 [oR 12 0, oI l1, oI l2, oI l3] [] (sh_E h)
    refine ai_WP_steps mc_266 (sh_CM d) 3 (And.intro (Nat.le_of_ble_eq_true rfl) (x_M_isKind (Nat.le_trans (Nat.le_of_ble_eq_true rfl) hd) l2 h (sh_okB H) (fun v2 H => ?_)))
    show wq_266 d Q 13 [oR 12 0, oI l1, oI l2, oI l3] [aI v2] (sh_E h)
    refine ai_WP_steps mc_266 (sh_CM d) 1 (And.intro (fun c => ?_) (fun c => ?_))
    · replace H := sh_okT c H
      exact x_M_want_b36 N hd hR h H
    · replace H := sh_okF c H
      show wq_266 d Q 16 [oR 12 0, oI l1, oI l2, oI l3] [] (sh_E h)
      refine ai_WP_steps mc_266 (sh_CM d) 4 (And.intro (Nat.le_of_ble_eq_true rfl) (x_M_isIn (Nat.le_trans (Nat.le_of_ble_eq_true rfl) hd) l3 (0 : Int32) (11 : Int32) h (sh_okB H) (fun v3 H => ?_)))
      show wq_266 d Q 23 [oR 12 0, oI l1, oI l2, oI l3] [aI v3] (sh_E h)
      refine ai_WP_steps mc_266 (sh_CM d) 1 (And.intro (fun c => ?_) (fun c => ?_))
      · replace H := sh_okT c H
        exact x_M_want_b36 N hd hR h H
      · replace H := sh_okF c H
        show wq_266 d Q 26 [oR 12 0, oI l1, oI l2, oI l3] [] (sh_E h)
        refine ai_WP_steps mc_266 (sh_CM d) 5 (And.intro (Nat.le_of_ble_eq_true rfl) (x_M_wanted N (Nat.le_trans (Nat.le_of_ble_eq_true rfl) hd) l1 l2 l3 h (sh_okB H) (fun v4 h5 H => ?_)))
        show wq_266 d Q 33 [oR 12 0, oI l1, oI l2, oI l3] [aI v4] (sh_E h5)
        exact ai_WP_steps mc_266 (sh_CM d) 2 (hR v4 h5 H)
def f_M_cell  (l0 : Int32) (l1 : Int32) (l2 : Int32) (h : sh_H) : Option Int32 := (some (((800 : Int32) + ((((6 : Int32) * l0) + l1) * (4 : Int32))) + l2))
theorem x_M_cell {d : Nat} (hd : 1 ≤ d) (l0 : Int32) (l1 : Int32) (l2 : Int32) (h : sh_H) {Q : ai_Q} {R : Int32 → Prop} (H : sh_ok (f_M_cell l0 l1 l2 h) R) (hR : ∀ r, R r → Q (some (aI r)) (sh_E h)) : ai_Ex sh_T d 267 [aI l0, aI l1, aI l2] (sh_E h) Q := by
  obtain ⟨d, rfl⟩ : ∃ e, d = e + 1 := ⟨d - 1, by omega⟩
  replace hd : 0 ≤ d := by omega
  refine And.intro (Nat.le_of_ble_eq_true rfl) ?_
  show wq_267 d Q 0 [oI l0, oI l1, oI l2] [] (sh_E h)
  exact ai_WP_steps mc_267 (sh_CM d) 12 (hR (((800 : Int32) + ((((6 : Int32) * l0) + l1) * (4 : Int32))) + l2) H)
def f_M_all_l5 (N : Nat)  (k32 : Int32 → sh_H → Option Int32) (n : Nat) : Int32 → Int32 → Int32 → Int32 → sh_H → Option Int32 := Nat.rec (motive := fun _ => Int32 → Int32 → Int32 → Int32 → sh_H → Option Int32) (fun _ _ _ _ _ => none) (fun _ k5 l1 l2 l3 l4 h => (if l4 < (4 : Int32) then (Option.bind (f_M_cell l1 l2 l4 h) (fun v1 => (if ai_in v1 8000 then k5 l1 l2 (l3 + (h.1 13 46 v1.toNatClampNeg)) (l4 + (1 : Int32)) h else none))) else k32 l3 h)) n
theorem x_M_all_l5 (N : Nat) {d : Nat} (hd : 1 ≤ d) (h : sh_H) {Q : ai_Q} {R : Int32 → Prop} (hR : ∀ r, R r → Q (some (aI r)) (sh_E h))  (k32 : Int32 → sh_H → Option Int32) (hk32 : ∀ (l3 : Int32) {d0 d1 d2 d4 : Option ai_V}, sh_ok (k32 l3 h) R → wq_268 d Q 32 [d0, d1, d2, oI l3, d4] [] (sh_E h)) (n : Nat) : ∀ (l1 : Int32) (l2 : Int32) (l3 : Int32) (l4 : Int32), sh_ok (f_M_all_l5 N k32 n l1 l2 l3 l4 h) R → wq_268 d Q 5 [oR 12 0, oI l1, oI l2, oI l3, oI l4] [] (sh_E h) := by
  induction n with
  | zero => intro l1 l2 l3 l4 H; exact H.elim
  | succ n ih =>
    intro l1 l2 l3 l4 H
    have hk5 := @ih
    revert hk5 H
    show sh_ok ((fun k5 l1 l2 l3 l4 h => (if l4 < (4 : Int32) then (Option.bind (f_M_cell l1 l2 l4 h) (fun v1 => (if ai_in v1 8000 then k5 l1 l2 (l3 + (h.1 13 46 v1.toNatClampNeg)) (l4 + (1 : Int32)) h else none))) else k32 l3 h)) (f_M_all_l5 N k32 n) l1 l2 l3 l4 h) R → _
    generalize f_M_all_l5 N k32 n = k5
    intro H hk5
    refine ai_WP_steps mc_268 (sh_CM d) 3 (And.intro (fun c => ?_) (fun c => ?_))
    · replace H := sh_okT c H
      show wq_268 d Q 11 [oR 12 0, oI l1, oI l2, oI l3, oI l4] [] (sh_E h)
      refine ai_WP_steps mc_268 (sh_CM d) 7 (And.intro (Nat.le_of_ble_eq_true rfl) (x_M_cell (Nat.le_trans (Nat.le_of_ble_eq_true rfl) hd) l1 l2 l4 h (sh_okB H) (fun v1 H => ?_)))
      show wq_268 d Q 23 [oR 12 0, oI l1, oI l2, oI l3, oI l4] [aI v1, aR 13 46, aI l3] (sh_E h)
      have c := sh_okG H
      replace H := sh_okH H
      refine ai_WP_steps mc_268 (sh_CM d) 1 (And.intro c ?_)
      show wq_268 d Q 24 [oR 12 0, oI l1, oI l2, oI l3, oI l4] [aI (h.1 13 46 v1.toNatClampNeg), aI l3] (sh_E h)
      refine ai_WP_steps mc_268 (sh_CM d) 4 ?_
      exact hk5 l1 l2 (l3 + (h.1 13 46 v1.toNatClampNeg)) (l4 + (1 : Int32)) H
    · replace H := sh_okF c H
      exact hk32 l3 H
def f_M_all_b32 (N : Nat)   (l3 : Int32) (h : sh_H) : Option Int32 := (some l3)
theorem x_M_all_b32 (N : Nat) {d : Nat} (hd : 1 ≤ d) (h : sh_H) {Q : ai_Q} {R : Int32 → Prop} (hR : ∀ r, R r → Q (some (aI r)) (sh_E h))   (l3 : Int32) {d0 d1 d2 d4 : Option ai_V} (H : sh_ok (f_M_all_b32 N l3 h) R) : wq_268 d Q 32 [d0, d1, d2, oI l3, d4] [] (sh_E h) := by
  exact ai_WP_steps mc_268 (sh_CM d) 2 (hR l3 H)
def f_M_all (N : Nat)  (l1 : Int32) (l2 : Int32) (h : sh_H) : Option Int32 := f_M_all_l5 N (f_M_all_b32 N) N l1 l2 (0 : Int32) (0 : Int32) h
theorem x_M_all (N : Nat) {d : Nat} (hd : 2 ≤ d) (l1 : Int32) (l2 : Int32) (h : sh_H) {Q : ai_Q} {R : Int32 → Prop} (H : sh_ok (f_M_all N l1 l2 h) R) (hR : ∀ r, R r → Q (some (aI r)) (sh_E h)) : ai_Ex sh_T d 268 [aR 12 0, aI l1, aI l2] (sh_E h) Q := by
  obtain ⟨d, rfl⟩ : ∃ e, d = e + 1 := ⟨d - 1, by omega⟩
  replace hd : 1 ≤ d := by omega
  refine And.intro (Nat.le_of_ble_eq_true rfl) ?_
  show wq_268 d Q 0 [oR 12 0, oI l1, oI l2, none, none] [] (sh_E h)
  refine ai_WP_steps mc_268 (sh_CM d) 4 ?_
  exact x_M_all_l5 N hd h hR (f_M_all_b32 N) (fun z0 {e0} {e1} {e2} {e4} H => x_M_all_b32 N hd h hR z0 H) N l1 l2 (0 : Int32) (0 : Int32) H
def f_M_strike (N : Nat)  (l1 : Int32) (l2 : Int32) (h : sh_H) : Option (Int32 × sh_H) := (Option.bind (f_M_isKind l1 h) (fun v1 => (if v1 = 0 then (some ((-1 : Int32), h)) else (Option.bind (f_M_isIn l2 (1 : Int32) (9999 : Int32) h) (fun v2 => (if v2 = 0 then (some ((-1 : Int32), h)) else (Option.bind (f_M_cell (0 : Int32) l1 (0 : Int32) h) (fun v3 => (if ai_in v3 8000 then (if (999999 : Int32) < ((h.1 13 46 v3.toNatClampNeg) + l2) then (some ((-1 : Int32), h)) else (Option.bind (f_M_cell (0 : Int32) l1 (0 : Int32) h) (fun v4 => (if ai_in v4 8000 then (if ai_in v4 8000 then (sh_let (sh_pI h 13 46 v4.toNatClampNeg ((h.1 13 46 v4.toNatClampNeg) + l2)) (fun h5 => (if ai_in (2 : Int32) 12 then (if ai_in (((20 : Int32) + ((3 : Int32) * l1)) + (2 : Int32)) 8000 then (if ai_in (2 : Int32) 12 then (sh_let (sh_pJ h5 14 6 (2 : Int32).toNatClampNeg ((h5.2.1 14 6 (2 : Int32).toNatClampNeg) + (l2.toInt64 * (h5.1 13 46 (((20 : Int32) + ((3 : Int32) * l1)) + (2 : Int32)).toNatClampNeg).toInt64))) (fun h6 => (Option.bind (f_M_all N (0 : Int32) l1 h6) (fun v7 => (some (v7, h6)))))) else none) else none) else none))) else none) else none)))) else none)))))))))
theorem x_M_strike (N : Nat) {d : Nat} (hd : 3 ≤ d) (l1 : Int32) (l2 : Int32) (h : sh_H) {Q : ai_Q} {R : Int32 × sh_H → Prop} (H : sh_ok (f_M_strike N l1 l2 h) R) (hR : ∀ r h, R (r, h) → Q (some (aI r)) (sh_E h)) : ai_Ex sh_T d 269 [aR 12 0, aI l1, aI l2] (sh_E h) Q := by
  obtain ⟨d, rfl⟩ : ∃ e, d = e + 1 := ⟨d - 1, by omega⟩
  replace hd : 2 ≤ d := by omega
  refine And.intro (Nat.le_of_ble_eq_true rfl) ?_
  show wq_269 d Q 0 [oR 12 0, oI l1, oI l2] [] (sh_E h)
  refine ai_WP_steps mc_269 (sh_CM d) 3 (And.intro (Nat.le_of_ble_eq_true rfl) (x_M_isKind (Nat.le_trans (Nat.le_of_ble_eq_true rfl) hd) l1 h (sh_okB H) (fun v1 H => ?_)))
  show wq_269 d Q 5 [oR 12 0, oI l1, oI l2] [aI v1] (sh_E h)
  refine ai_WP_steps mc_269 (sh_CM d) 1 (And.intro (fun c => ?_) (fun c => ?_))
  · replace H := sh_okT c H
    show wq_269 d Q 38 [oR 12 0, oI l1, oI l2] [] (sh_E h)
    exact ai_WP_steps mc_269 (sh_CM d) 2 (hR (-1 : Int32) h H)
  · replace H := sh_okF c H
    show wq_269 d Q 8 [oR 12 0, oI l1, oI l2] [] (sh_E h)
    refine ai_WP_steps mc_269 (sh_CM d) 4 (And.intro (Nat.le_of_ble_eq_true rfl) (x_M_isIn (Nat.le_trans (Nat.le_of_ble_eq_true rfl) hd) l2 (1 : Int32) (9999 : Int32) h (sh_okB H) (fun v2 H => ?_)))
    show wq_269 d Q 16 [oR 12 0, oI l1, oI l2] [aI v2] (sh_E h)
    refine ai_WP_steps mc_269 (sh_CM d) 1 (And.intro (fun c => ?_) (fun c => ?_))
    · replace H := sh_okT c H
      show wq_269 d Q 38 [oR 12 0, oI l1, oI l2] [] (sh_E h)
      exact ai_WP_steps mc_269 (sh_CM d) 2 (hR (-1 : Int32) h H)
    · replace H := sh_okF c H
      show wq_269 d Q 19 [oR 12 0, oI l1, oI l2] [] (sh_E h)
      refine ai_WP_steps mc_269 (sh_CM d) 6 (And.intro (Nat.le_of_ble_eq_true rfl) (x_M_cell (Nat.le_trans (Nat.le_of_ble_eq_true rfl) hd) (0 : Int32) l1 (0 : Int32) h (sh_okB H) (fun v3 H => ?_)))
      show wq_269 d Q 29 [oR 12 0, oI l1, oI l2] [aI v3, aR 13 46] (sh_E h)
      have c := sh_okG H
      replace H := sh_okH H
      refine ai_WP_steps mc_269 (sh_CM d) 1 (And.intro c ?_)
      show wq_269 d Q 30 [oR 12 0, oI l1, oI l2] [aI (h.1 13 46 v3.toNatClampNeg)] (sh_E h)
      refine ai_WP_steps mc_269 (sh_CM d) 4 (And.intro (fun c => ?_) (fun c => ?_))
      · replace H := sh_okT c H
        show wq_269 d Q 38 [oR 12 0, oI l1, oI l2] [] (sh_E h)
        exact ai_WP_steps mc_269 (sh_CM d) 2 (hR (-1 : Int32) h H)
      · replace H := sh_okF c H
        show wq_269 d Q 40 [oR 12 0, oI l1, oI l2] [] (sh_E h)
        refine ai_WP_steps mc_269 (sh_CM d) 6 (And.intro (Nat.le_of_ble_eq_true rfl) (x_M_cell (Nat.le_trans (Nat.le_of_ble_eq_true rfl) hd) (0 : Int32) l1 (0 : Int32) h (sh_okB H) (fun v4 H => ?_)))
        show wq_269 d Q 50 [oR 12 0, oI l1, oI l2] [aI v4, aR 13 46] (sh_E h)
        have c := sh_okG H
        replace H := sh_okH H
        refine ai_WP_steps mc_269 (sh_CM d) 2 (And.intro c ?_)
        show wq_269 d Q 52 [oR 12 0, oI l1, oI l2] [aI (h.1 13 46 v4.toNatClampNeg), aI v4, aR 13 46] (sh_E h)
        have c := sh_okG H
        replace H := sh_okH H
        refine ai_WP_steps mc_269 (sh_CM d) 3 (And.intro c ?_)
        show wq_269 d Q 55 [oR 12 0, oI l1, oI l2] [] (sh_E (sh_pI h 13 46 v4.toNatClampNeg ((h.1 13 46 v4.toNatClampNeg) + l2)))
        replace H := sh_okL H
        generalize sh_pI h 13 46 v4.toNatClampNeg ((h.1 13 46 v4.toNatClampNeg) + l2) = h5 at H ⊢
        have c := sh_okG H
        replace H := sh_okH H
        refine ai_WP_steps mc_269 (sh_CM d) 5 (And.intro c ?_)
        show wq_269 d Q 62 [oR 12 0, oI l1, oI l2] [aL (h5.2.1 14 6 (2 : Int32).toNatClampNeg), aI (2 : Int32), aR 14 6] (sh_E h5)
        have c := sh_okG H
        replace H := sh_okH H
        refine ai_WP_steps mc_269 (sh_CM d) 12 (And.intro c ?_)
        show wq_269 d Q 77 [oR 12 0, oI l1, oI l2] [aI (h5.1 13 46 (((20 : Int32) + ((3 : Int32) * l1)) + (2 : Int32)).toNatClampNeg), aL l2.toInt64, aL (h5.2.1 14 6 (2 : Int32).toNatClampNeg), aI (2 : Int32), aR 14 6] (sh_E h5)
        have c := sh_okG H
        replace H := sh_okH H
        refine ai_WP_steps mc_269 (sh_CM d) 4 (And.intro c ?_)
        show wq_269 d Q 81 [oR 12 0, oI l1, oI l2] [] (sh_E (sh_pJ h5 14 6 (2 : Int32).toNatClampNeg ((h5.2.1 14 6 (2 : Int32).toNatClampNeg) + (l2.toInt64 * (h5.1 13 46 (((20 : Int32) + ((3 : Int32) * l1)) + (2 : Int32)).toNatClampNeg).toInt64))))
        replace H := sh_okL H
        generalize sh_pJ h5 14 6 (2 : Int32).toNatClampNeg ((h5.2.1 14 6 (2 : Int32).toNatClampNeg) + (l2.toInt64 * (h5.1 13 46 (((20 : Int32) + ((3 : Int32) * l1)) + (2 : Int32)).toNatClampNeg).toInt64)) = h6 at H ⊢
        refine ai_WP_steps mc_269 (sh_CM d) 4 (And.intro (Nat.le_of_ble_eq_true rfl) (x_M_all N (Nat.le_trans (Nat.le_of_ble_eq_true rfl) hd) (0 : Int32) l1 h6 (sh_okB H) (fun v7 H => ?_)))
        show wq_269 d Q 87 [oR 12 0, oI l1, oI l2] [aI v7] (sh_E h6)
        exact ai_WP_steps mc_269 (sh_CM d) 1 (hR v7 h6 H)
def f_M_burn_l24 (N : Nat)  (k64 : Int32 → sh_H → Option (Int32 × sh_H)) (n : Nat) : Int32 → Int32 → Int32 → sh_H → Option (Int32 × sh_H) := Nat.rec (motive := fun _ => Int32 → Int32 → Int32 → sh_H → Option (Int32 × sh_H)) (fun _ _ _ _ => none) (fun _ k24 l1 l3 l4 h => (if l4 < (4 : Int32) then (Option.bind (f_M_cell (0 : Int32) l1 l4 h) (fun v1 => (if ai_in v1 8000 then (Option.bind (f_M_cell (0 : Int32) l1 l4 h) (fun v2 => (if ai_in v2 8000 then (sh_let (sh_pI h 13 46 v2.toNatClampNeg (0 : Int32)) (fun h3 => k24 l1 (l3 + (h.1 13 46 v1.toNatClampNeg)) (l4 + (1 : Int32)) h3)) else none))) else none))) else k64 l3 h)) n
theorem x_M_burn_l24 (N : Nat) {d : Nat} (hd : 1 ≤ d) {Q : ai_Q} {R : Int32 × sh_H → Prop} (hR : ∀ r h, R (r, h) → Q (some (aI r)) (sh_E h))  (k64 : Int32 → sh_H → Option (Int32 × sh_H)) (hk64 : ∀ (l3 : Int32) {d0 d1 d2 d4 : Option ai_V} (h : sh_H), sh_ok (k64 l3 h) R → wq_270 d Q 64 [d0, d1, d2, oI l3, d4] [] (sh_E h)) (n : Nat) : ∀ (l1 : Int32) (l3 : Int32) (l4 : Int32) {d2 : Option ai_V} (h : sh_H), sh_ok (f_M_burn_l24 N k64 n l1 l3 l4 h) R → wq_270 d Q 24 [oR 12 0, oI l1, d2, oI l3, oI l4] [] (sh_E h) := by
  induction n with
  | zero => intro l1 l3 l4 d2 h H; exact H.elim
  | succ n ih =>
    intro l1 l3 l4 d2 h H
    have hk24 := @ih
    revert hk24 H
    show sh_ok ((fun k24 l1 l3 l4 h => (if l4 < (4 : Int32) then (Option.bind (f_M_cell (0 : Int32) l1 l4 h) (fun v1 => (if ai_in v1 8000 then (Option.bind (f_M_cell (0 : Int32) l1 l4 h) (fun v2 => (if ai_in v2 8000 then (sh_let (sh_pI h 13 46 v2.toNatClampNeg (0 : Int32)) (fun h3 => k24 l1 (l3 + (h.1 13 46 v1.toNatClampNeg)) (l4 + (1 : Int32)) h3)) else none))) else none))) else k64 l3 h)) (f_M_burn_l24 N k64 n) l1 l3 l4 h) R → _
    generalize f_M_burn_l24 N k64 n = k24
    intro H hk24
    refine ai_WP_steps mc_270 (sh_CM d) 3 (And.intro (fun c => ?_) (fun c => ?_))
    · replace H := sh_okT c H
      show wq_270 d Q 30 [oR 12 0, oI l1, _, oI l3, oI l4] [] (sh_E h)
      refine ai_WP_steps mc_270 (sh_CM d) 7 (And.intro (Nat.le_of_ble_eq_true rfl) (x_M_cell (Nat.le_trans (Nat.le_of_ble_eq_true rfl) hd) (0 : Int32) l1 l4 h (sh_okB H) (fun v1 H => ?_)))
      show wq_270 d Q 42 [oR 12 0, oI l1, _, oI l3, oI l4] [aI v1, aR 13 46, aI l3] (sh_E h)
      have c := sh_okG H
      replace H := sh_okH H
      refine ai_WP_steps mc_270 (sh_CM d) 1 (And.intro c ?_)
      show wq_270 d Q 43 [oR 12 0, oI l1, _, oI l3, oI l4] [aI (h.1 13 46 v1.toNatClampNeg), aI l3] (sh_E h)
      refine ai_WP_steps mc_270 (sh_CM d) 8 (And.intro (Nat.le_of_ble_eq_true rfl) (x_M_cell (Nat.le_trans (Nat.le_of_ble_eq_true rfl) hd) (0 : Int32) l1 l4 h (sh_okB H) (fun v2 H => ?_)))
      show wq_270 d Q 56 [oR 12 0, oI l1, _, oI (l3 + (h.1 13 46 v1.toNatClampNeg)), oI l4] [aI v2, aR 13 46] (sh_E h)
      have c := sh_okG H
      replace H := sh_okH H
      refine ai_WP_steps mc_270 (sh_CM d) 2 (And.intro c ?_)
      show wq_270 d Q 58 [oR 12 0, oI l1, _, oI (l3 + (h.1 13 46 v1.toNatClampNeg)), oI l4] [] (sh_E (sh_pI h 13 46 v2.toNatClampNeg (0 : Int32)))
      replace H := sh_okL H
      generalize sh_pI h 13 46 v2.toNatClampNeg (0 : Int32) = h3 at H ⊢
      refine ai_WP_steps mc_270 (sh_CM d) 2 ?_
      exact hk24 l1 (l3 + (h.1 13 46 v1.toNatClampNeg)) (l4 + (1 : Int32)) h3 H
    · replace H := sh_okF c H
      exact hk64 l3 h H
def f_M_burn_b64 (N : Nat)   (l3 : Int32) (h : sh_H) : Option (Int32 × sh_H) := (some (l3, h))
theorem x_M_burn_b64 (N : Nat) {d : Nat} (hd : 1 ≤ d) {Q : ai_Q} {R : Int32 × sh_H → Prop} (hR : ∀ r h, R (r, h) → Q (some (aI r)) (sh_E h))   (l3 : Int32) {d0 d1 d2 d4 : Option ai_V} (h : sh_H) (H : sh_ok (f_M_burn_b64 N l3 h) R) : wq_270 d Q 64 [d0, d1, d2, oI l3, d4] [] (sh_E h) := by
  exact ai_WP_steps mc_270 (sh_CM d) 2 (hR l3 h H)
def f_M_burn (N : Nat)  (l1 : Int32) (l2 : Int32) (h : sh_H) : Option (Int32 × sh_H) := (Option.bind (f_M_isKind l1 h) (fun v4 => (if v4 = 0 then (some ((-1 : Int32), h)) else (Option.bind (f_M_isIn l2 (0 : Int32) (3 : Int32) h) (fun v5 => (if v5 = 0 then (some ((-1 : Int32), h)) else f_M_burn_l24 N (f_M_burn_b64 N) N l1 (0 : Int32) l2 h))))))
theorem x_M_burn (N : Nat) {d : Nat} (hd : 2 ≤ d) (l1 : Int32) (l2 : Int32) (h : sh_H) {Q : ai_Q} {R : Int32 × sh_H → Prop} (H : sh_ok (f_M_burn N l1 l2 h) R) (hR : ∀ r h, R (r, h) → Q (some (aI r)) (sh_E h)) : ai_Ex sh_T d 270 [aR 12 0, aI l1, aI l2] (sh_E h) Q := by
  obtain ⟨d, rfl⟩ : ∃ e, d = e + 1 := ⟨d - 1, by omega⟩
  replace hd : 1 ≤ d := by omega
  refine And.intro (Nat.le_of_ble_eq_true rfl) ?_
  show wq_270 d Q 0 [oR 12 0, oI l1, oI l2, none, none] [] (sh_E h)
  refine ai_WP_steps mc_270 (sh_CM d) 3 (And.intro (Nat.le_of_ble_eq_true rfl) (x_M_isKind (Nat.le_trans (Nat.le_of_ble_eq_true rfl) hd) l1 h (sh_okB H) (fun v4 H => ?_)))
  show wq_270 d Q 5 [oR 12 0, oI l1, oI l2, _, _] [aI v4] (sh_E h)
  refine ai_WP_steps mc_270 (sh_CM d) 1 (And.intro (fun c => ?_) (fun c => ?_))
  · replace H := sh_okT c H
    show wq_270 d Q 17 [oR 12 0, oI l1, oI l2, _, _] [] (sh_E h)
    exact ai_WP_steps mc_270 (sh_CM d) 2 (hR (-1 : Int32) h H)
  · replace H := sh_okF c H
    show wq_270 d Q 8 [oR 12 0, oI l1, oI l2, _, _] [] (sh_E h)
    refine ai_WP_steps mc_270 (sh_CM d) 4 (And.intro (Nat.le_of_ble_eq_true rfl) (x_M_isIn (Nat.le_trans (Nat.le_of_ble_eq_true rfl) hd) l2 (0 : Int32) (3 : Int32) h (sh_okB H) (fun v5 H => ?_)))
    show wq_270 d Q 14 [oR 12 0, oI l1, oI l2, _, _] [aI v5] (sh_E h)
    refine ai_WP_steps mc_270 (sh_CM d) 1 (And.intro (fun c => ?_) (fun c => ?_))
    · replace H := sh_okT c H
      show wq_270 d Q 17 [oR 12 0, oI l1, oI l2, _, _] [] (sh_E h)
      exact ai_WP_steps mc_270 (sh_CM d) 2 (hR (-1 : Int32) h H)
    · replace H := sh_okF c H
      show wq_270 d Q 19 [oR 12 0, oI l1, oI l2, _, _] [] (sh_E h)
      refine ai_WP_steps mc_270 (sh_CM d) 4 ?_
      exact x_M_burn_l24 N hd hR (f_M_burn_b64 N) (fun z0 {e0} {e1} {e2} {e4} h H => x_M_burn_b64 N hd hR z0 h H) N l1 (0 : Int32) l2 h H
def f_M_lay  (l1 : Int32) (l2 : Int32) (l3 : Int32) (l4 : Int32) (h : sh_H) : Option (Int32 × sh_H) := (Option.bind (f_M_isPlace l1 h) (fun v1 => (if v1 = 0 then (some ((-1 : Int32), h)) else (Option.bind (f_M_isKind l2 h) (fun v2 => (if v2 = 0 then (some ((-1 : Int32), h)) else (Option.bind (f_M_isIn l3 (0 : Int32) (3 : Int32) h) (fun v3 => (if v3 = 0 then (some ((-1 : Int32), h)) else (Option.bind (f_M_isIn l4 (0 : Int32) (9999 : Int32) h) (fun v4 => (if v4 = 0 then (some ((-1 : Int32), h)) else (Option.bind (f_M_cell l1 l2 l3 h) (fun v5 => (if ai_in v5 8000 then (if (999999 : Int32) < ((h.1 13 46 v5.toNatClampNeg) + l4) then (some ((-1 : Int32), h)) else (Option.bind (f_M_cell l1 l2 l3 h) (fun v6 => (if ai_in v6 8000 then (if ai_in v6 8000 then (sh_let (sh_pI h 13 46 v6.toNatClampNeg ((h.1 13 46 v6.toNatClampNeg) + l4)) (fun h7 => (Option.bind (f_M_cell l1 l2 l3 h7) (fun v8 => (if ai_in v8 8000 then (some ((h7.1 13 46 v8.toNatClampNeg), h7)) else none))))) else none) else none)))) else none)))))))))))))))
theorem x_M_lay {d : Nat} (hd : 2 ≤ d) (l1 : Int32) (l2 : Int32) (l3 : Int32) (l4 : Int32) (h : sh_H) {Q : ai_Q} {R : Int32 × sh_H → Prop} (H : sh_ok (f_M_lay l1 l2 l3 l4 h) R) (hR : ∀ r h, R (r, h) → Q (some (aI r)) (sh_E h)) : ai_Ex sh_T d 271 [aR 12 0, aI l1, aI l2, aI l3, aI l4] (sh_E h) Q := by
  obtain ⟨d, rfl⟩ : ∃ e, d = e + 1 := ⟨d - 1, by omega⟩
  replace hd : 1 ≤ d := by omega
  refine And.intro (Nat.le_of_ble_eq_true rfl) ?_
  show wq_271 d Q 0 [oR 12 0, oI l1, oI l2, oI l3, oI l4] [] (sh_E h)
  refine ai_WP_steps mc_271 (sh_CM d) 3 (And.intro (Nat.le_of_ble_eq_true rfl) (x_M_isPlace (Nat.le_trans (Nat.le_of_ble_eq_true rfl) hd) l1 h (sh_okB H) (fun v1 H => ?_)))
  show wq_271 d Q 5 [oR 12 0, oI l1, oI l2, oI l3, oI l4] [aI v1] (sh_E h)
  refine ai_WP_steps mc_271 (sh_CM d) 1 (And.intro (fun c => ?_) (fun c => ?_))
  · replace H := sh_okT c H
    show wq_271 d Q 57 [oR 12 0, oI l1, oI l2, oI l3, oI l4] [] (sh_E h)
    exact ai_WP_steps mc_271 (sh_CM d) 2 (hR (-1 : Int32) h H)
  · replace H := sh_okF c H
    show wq_271 d Q 8 [oR 12 0, oI l1, oI l2, oI l3, oI l4] [] (sh_E h)
    refine ai_WP_steps mc_271 (sh_CM d) 3 (And.intro (Nat.le_of_ble_eq_true rfl) (x_M_isKind (Nat.le_trans (Nat.le_of_ble_eq_true rfl) hd) l2 h (sh_okB H) (fun v2 H => ?_)))
    show wq_271 d Q 13 [oR 12 0, oI l1, oI l2, oI l3, oI l4] [aI v2] (sh_E h)
    refine ai_WP_steps mc_271 (sh_CM d) 1 (And.intro (fun c => ?_) (fun c => ?_))
    · replace H := sh_okT c H
      show wq_271 d Q 57 [oR 12 0, oI l1, oI l2, oI l3, oI l4] [] (sh_E h)
      exact ai_WP_steps mc_271 (sh_CM d) 2 (hR (-1 : Int32) h H)
    · replace H := sh_okF c H
      show wq_271 d Q 16 [oR 12 0, oI l1, oI l2, oI l3, oI l4] [] (sh_E h)
      refine ai_WP_steps mc_271 (sh_CM d) 4 (And.intro (Nat.le_of_ble_eq_true rfl) (x_M_isIn (Nat.le_trans (Nat.le_of_ble_eq_true rfl) hd) l3 (0 : Int32) (3 : Int32) h (sh_okB H) (fun v3 H => ?_)))
      show wq_271 d Q 22 [oR 12 0, oI l1, oI l2, oI l3, oI l4] [aI v3] (sh_E h)
      refine ai_WP_steps mc_271 (sh_CM d) 1 (And.intro (fun c => ?_) (fun c => ?_))
      · replace H := sh_okT c H
        show wq_271 d Q 57 [oR 12 0, oI l1, oI l2, oI l3, oI l4] [] (sh_E h)
        exact ai_WP_steps mc_271 (sh_CM d) 2 (hR (-1 : Int32) h H)
      · replace H := sh_okF c H
        show wq_271 d Q 25 [oR 12 0, oI l1, oI l2, oI l3, oI l4] [] (sh_E h)
        refine ai_WP_steps mc_271 (sh_CM d) 4 (And.intro (Nat.le_of_ble_eq_true rfl) (x_M_isIn (Nat.le_trans (Nat.le_of_ble_eq_true rfl) hd) l4 (0 : Int32) (9999 : Int32) h (sh_okB H) (fun v4 H => ?_)))
        show wq_271 d Q 34 [oR 12 0, oI l1, oI l2, oI l3, oI l4] [aI v4] (sh_E h)
        refine ai_WP_steps mc_271 (sh_CM d) 1 (And.intro (fun c => ?_) (fun c => ?_))
        · replace H := sh_okT c H
          show wq_271 d Q 57 [oR 12 0, oI l1, oI l2, oI l3, oI l4] [] (sh_E h)
          exact ai_WP_steps mc_271 (sh_CM d) 2 (hR (-1 : Int32) h H)
        · replace H := sh_okF c H
          show wq_271 d Q 37 [oR 12 0, oI l1, oI l2, oI l3, oI l4] [] (sh_E h)
          refine ai_WP_steps mc_271 (sh_CM d) 6 (And.intro (Nat.le_of_ble_eq_true rfl) (x_M_cell (Nat.le_trans (Nat.le_of_ble_eq_true rfl) hd) l1 l2 l3 h (sh_okB H) (fun v5 H => ?_)))
          show wq_271 d Q 47 [oR 12 0, oI l1, oI l2, oI l3, oI l4] [aI v5, aR 13 46] (sh_E h)
          have c := sh_okG H
          replace H := sh_okH H
          refine ai_WP_steps mc_271 (sh_CM d) 1 (And.intro c ?_)
          show wq_271 d Q 48 [oR 12 0, oI l1, oI l2, oI l3, oI l4] [aI (h.1 13 46 v5.toNatClampNeg)] (sh_E h)
          refine ai_WP_steps mc_271 (sh_CM d) 4 (And.intro (fun c => ?_) (fun c => ?_))
          · replace H := sh_okT c H
            show wq_271 d Q 57 [oR 12 0, oI l1, oI l2, oI l3, oI l4] [] (sh_E h)
            exact ai_WP_steps mc_271 (sh_CM d) 2 (hR (-1 : Int32) h H)
          · replace H := sh_okF c H
            show wq_271 d Q 59 [oR 12 0, oI l1, oI l2, oI l3, oI l4] [] (sh_E h)
            refine ai_WP_steps mc_271 (sh_CM d) 6 (And.intro (Nat.le_of_ble_eq_true rfl) (x_M_cell (Nat.le_trans (Nat.le_of_ble_eq_true rfl) hd) l1 l2 l3 h (sh_okB H) (fun v6 H => ?_)))
            show wq_271 d Q 69 [oR 12 0, oI l1, oI l2, oI l3, oI l4] [aI v6, aR 13 46] (sh_E h)
            have c := sh_okG H
            replace H := sh_okH H
            refine ai_WP_steps mc_271 (sh_CM d) 2 (And.intro c ?_)
            show wq_271 d Q 71 [oR 12 0, oI l1, oI l2, oI l3, oI l4] [aI (h.1 13 46 v6.toNatClampNeg), aI v6, aR 13 46] (sh_E h)
            have c := sh_okG H
            replace H := sh_okH H
            refine ai_WP_steps mc_271 (sh_CM d) 3 (And.intro c ?_)
            show wq_271 d Q 75 [oR 12 0, oI l1, oI l2, oI l3, oI l4] [] (sh_E (sh_pI h 13 46 v6.toNatClampNeg ((h.1 13 46 v6.toNatClampNeg) + l4)))
            replace H := sh_okL H
            generalize sh_pI h 13 46 v6.toNatClampNeg ((h.1 13 46 v6.toNatClampNeg) + l4) = h7 at H ⊢
            refine ai_WP_steps mc_271 (sh_CM d) 6 (And.intro (Nat.le_of_ble_eq_true rfl) (x_M_cell (Nat.le_trans (Nat.le_of_ble_eq_true rfl) hd) l1 l2 l3 h7 (sh_okB H) (fun v8 H => ?_)))
            show wq_271 d Q 85 [oR 12 0, oI l1, oI l2, oI l3, oI l4] [aI v8, aR 13 46] (sh_E h7)
            have c := sh_okG H
            replace H := sh_okH H
            refine ai_WP_steps mc_271 (sh_CM d) 1 (And.intro c ?_)
            show wq_271 d Q 86 [oR 12 0, oI l1, oI l2, oI l3, oI l4] [aI (h7.1 13 46 v8.toNatClampNeg)] (sh_E h7)
            exact ai_WP_steps mc_271 (sh_CM d) 1 (hR (h7.1 13 46 v8.toNatClampNeg) h7 H)
def f_M_has (N : Nat)  (l1 : Int32) (l2 : Int32) (l3 : Int32) (h : sh_H) : Option Int32 := (Option.bind (f_M_isPlace l1 h) (fun v1 => (if v1 = 0 then (some (-1 : Int32)) else (Option.bind (f_M_isKind l2 h) (fun v2 => (if v2 = 0 then (some (-1 : Int32)) else (Option.bind (f_M_isIn l3 (-1 : Int32) (3 : Int32) h) (fun v3 => (if v3 = 0 then (some (-1 : Int32)) else (if l3 < 0 then (Option.bind (f_M_all N l1 l2 h) (fun v4 => (some v4))) else (Option.bind (f_M_cell l1 l2 l3 h) (fun v5 => (if ai_in v5 8000 then (some (h.1 13 46 v5.toNatClampNeg)) else none)))))))))))))
theorem x_M_has (N : Nat) {d : Nat} (hd : 3 ≤ d) (l1 : Int32) (l2 : Int32) (l3 : Int32) (h : sh_H) {Q : ai_Q} {R : Int32 → Prop} (H : sh_ok (f_M_has N l1 l2 l3 h) R) (hR : ∀ r, R r → Q (some (aI r)) (sh_E h)) : ai_Ex sh_T d 272 [aR 12 0, aI l1, aI l2, aI l3] (sh_E h) Q := by
  obtain ⟨d, rfl⟩ : ∃ e, d = e + 1 := ⟨d - 1, by omega⟩
  replace hd : 2 ≤ d := by omega
  refine And.intro (Nat.le_of_ble_eq_true rfl) ?_
  show wq_272 d Q 0 [oR 12 0, oI l1, oI l2, oI l3] [] (sh_E h)
  refine ai_WP_steps mc_272 (sh_CM d) 3 (And.intro (Nat.le_of_ble_eq_true rfl) (x_M_isPlace (Nat.le_trans (Nat.le_of_ble_eq_true rfl) hd) l1 h (sh_okB H) (fun v1 H => ?_)))
  show wq_272 d Q 5 [oR 12 0, oI l1, oI l2, oI l3] [aI v1] (sh_E h)
  refine ai_WP_steps mc_272 (sh_CM d) 1 (And.intro (fun c => ?_) (fun c => ?_))
  · replace H := sh_okT c H
    show wq_272 d Q 25 [oR 12 0, oI l1, oI l2, oI l3] [] (sh_E h)
    exact ai_WP_steps mc_272 (sh_CM d) 2 (hR (-1 : Int32) H)
  · replace H := sh_okF c H
    show wq_272 d Q 8 [oR 12 0, oI l1, oI l2, oI l3] [] (sh_E h)
    refine ai_WP_steps mc_272 (sh_CM d) 3 (And.intro (Nat.le_of_ble_eq_true rfl) (x_M_isKind (Nat.le_trans (Nat.le_of_ble_eq_true rfl) hd) l2 h (sh_okB H) (fun v2 H => ?_)))
    show wq_272 d Q 13 [oR 12 0, oI l1, oI l2, oI l3] [aI v2] (sh_E h)
    refine ai_WP_steps mc_272 (sh_CM d) 1 (And.intro (fun c => ?_) (fun c => ?_))
    · replace H := sh_okT c H
      show wq_272 d Q 25 [oR 12 0, oI l1, oI l2, oI l3] [] (sh_E h)
      exact ai_WP_steps mc_272 (sh_CM d) 2 (hR (-1 : Int32) H)
    · replace H := sh_okF c H
      show wq_272 d Q 16 [oR 12 0, oI l1, oI l2, oI l3] [] (sh_E h)
      refine ai_WP_steps mc_272 (sh_CM d) 4 (And.intro (Nat.le_of_ble_eq_true rfl) (x_M_isIn (Nat.le_trans (Nat.le_of_ble_eq_true rfl) hd) l3 (-1 : Int32) (3 : Int32) h (sh_okB H) (fun v3 H => ?_)))
      show wq_272 d Q 22 [oR 12 0, oI l1, oI l2, oI l3] [aI v3] (sh_E h)
      refine ai_WP_steps mc_272 (sh_CM d) 1 (And.intro (fun c => ?_) (fun c => ?_))
      · replace H := sh_okT c H
        show wq_272 d Q 25 [oR 12 0, oI l1, oI l2, oI l3] [] (sh_E h)
        exact ai_WP_steps mc_272 (sh_CM d) 2 (hR (-1 : Int32) H)
      · replace H := sh_okF c H
        show wq_272 d Q 27 [oR 12 0, oI l1, oI l2, oI l3] [] (sh_E h)
        refine ai_WP_steps mc_272 (sh_CM d) 2 (And.intro (fun c => ?_) (fun c => ?_))
        · replace H := sh_okT c H
          show wq_272 d Q 31 [oR 12 0, oI l1, oI l2, oI l3] [] (sh_E h)
          refine ai_WP_steps mc_272 (sh_CM d) 4 (And.intro (Nat.le_of_ble_eq_true rfl) (x_M_all N (Nat.le_trans (Nat.le_of_ble_eq_true rfl) hd) l1 l2 h (sh_okB H) (fun v4 H => ?_)))
          show wq_272 d Q 37 [oR 12 0, oI l1, oI l2, oI l3] [aI v4] (sh_E h)
          exact ai_WP_steps mc_272 (sh_CM d) 2 (hR v4 H)
        · replace H := sh_okF c H
          show wq_272 d Q 40 [oR 12 0, oI l1, oI l2, oI l3] [] (sh_E h)
          refine ai_WP_steps mc_272 (sh_CM d) 6 (And.intro (Nat.le_of_ble_eq_true rfl) (x_M_cell (Nat.le_trans (Nat.le_of_ble_eq_true rfl) hd) l1 l2 l3 h (sh_okB H) (fun v5 H => ?_)))
          show wq_272 d Q 50 [oR 12 0, oI l1, oI l2, oI l3] [aI v5, aR 13 46] (sh_E h)
          have c := sh_okG H
          replace H := sh_okH H
          refine ai_WP_steps mc_272 (sh_CM d) 1 (And.intro c ?_)
          show wq_272 d Q 51 [oR 12 0, oI l1, oI l2, oI l3] [aI (h.1 13 46 v5.toNatClampNeg)] (sh_E h)
          exact ai_WP_steps mc_272 (sh_CM d) 1 (hR (h.1 13 46 v5.toNatClampNeg) H)
def f_M_go_b103 (N : Nat)  (k7 : Int32 → Int32 → Int32 → Int32 → Int32 → Int32 → sh_H → Option sh_H) (l1 : Int32) (l2 : Int32) (l3 : Int32) (l5 : Int32) (l6 : Int32) (l7 : Int32) (l9 : Int32) (h : sh_H) : Option sh_H := k7 l1 l2 l3 l5 (l6 - l9) (l7 + (1 : Int32)) h
theorem x_M_go_b103 (N : Nat) {d : Nat} (hd : 1 ≤ d) {Q : ai_Q} {R : sh_H → Prop} (hR : ∀ h, R h → Q none (sh_E h))  (k7 : Int32 → Int32 → Int32 → Int32 → Int32 → Int32 → sh_H → Option sh_H) (hk7 : ∀ (l1 : Int32) (l2 : Int32) (l3 : Int32) (l5 : Int32) (l6 : Int32) (l7 : Int32) {d4 d8 d9 : Option ai_V} (h : sh_H), sh_ok (k7 l1 l2 l3 l5 l6 l7 h) R → wq_273 d Q 7 [oR 12 0, oI l1, oI l2, oI l3, d4, oI l5, oI l6, oI l7, d8, d9] [] (sh_E h)) (l1 : Int32) (l2 : Int32) (l3 : Int32) (l5 : Int32) (l6 : Int32) (l7 : Int32) (l9 : Int32) {d4 d8 : Option ai_V} (h : sh_H) (H : sh_ok (f_M_go_b103 N k7 l1 l2 l3 l5 l6 l7 l9 h) R) : wq_273 d Q 103 [oR 12 0, oI l1, oI l2, oI l3, d4, oI l5, oI l6, oI l7, d8, oI l9] [] (sh_E h) := by
  refine ai_WP_steps mc_273 (sh_CM d) 6 ?_
  exact hk7 l1 l2 l3 l5 (l6 - l9) (l7 + (1 : Int32)) h H
def f_M_go_b63 (N : Nat)  (k7 : Int32 → Int32 → Int32 → Int32 → Int32 → Int32 → sh_H → Option sh_H) (l1 : Int32) (l2 : Int32) (l3 : Int32) (l5 : Int32) (l6 : Int32) (l7 : Int32) (l8 : Int32) (s0 : Int32) (h : sh_H) : Option sh_H := (Option.bind (f_M_cell l1 l3 l8 h) (fun v1 => (if ai_in v1 8000 then (if ai_in v1 8000 then (sh_let (sh_pI h 13 46 v1.toNatClampNeg ((h.1 13 46 v1.toNatClampNeg) - s0)) (fun h2 => (if l2 < 0 then f_M_go_b103 N k7 l1 l2 l3 l5 l6 l7 s0 h2 else (Option.bind (f_M_cell l2 l3 l8 h2) (fun v3 => (if ai_in v3 8000 then (if ai_in v3 8000 then (sh_let (sh_pI h2 13 46 v3.toNatClampNeg ((h2.1 13 46 v3.toNatClampNeg) + s0)) (fun h4 => f_M_go_b103 N k7 l1 l2 l3 l5 l6 l7 s0 h4)) else none) else none)))))) else none) else none)))
theorem x_M_go_b63 (N : Nat) {d : Nat} (hd : 1 ≤ d) {Q : ai_Q} {R : sh_H → Prop} (hR : ∀ h, R h → Q none (sh_E h))  (k7 : Int32 → Int32 → Int32 → Int32 → Int32 → Int32 → sh_H → Option sh_H) (hk7 : ∀ (l1 : Int32) (l2 : Int32) (l3 : Int32) (l5 : Int32) (l6 : Int32) (l7 : Int32) {d4 d8 d9 : Option ai_V} (h : sh_H), sh_ok (k7 l1 l2 l3 l5 l6 l7 h) R → wq_273 d Q 7 [oR 12 0, oI l1, oI l2, oI l3, d4, oI l5, oI l6, oI l7, d8, d9] [] (sh_E h)) (l1 : Int32) (l2 : Int32) (l3 : Int32) (l5 : Int32) (l6 : Int32) (l7 : Int32) (l8 : Int32) (s0 : Int32) {d4 d9 : Option ai_V} (h : sh_H) (H : sh_ok (f_M_go_b63 N k7 l1 l2 l3 l5 l6 l7 l8 s0 h) R) : wq_273 d Q 63 [oR 12 0, oI l1, oI l2, oI l3, d4, oI l5, oI l6, oI l7, oI l8, d9] [aI s0] (sh_E h) := by
  refine ai_WP_steps mc_273 (sh_CM d) 7 (And.intro (Nat.le_of_ble_eq_true rfl) (x_M_cell (Nat.le_trans (Nat.le_of_ble_eq_true rfl) hd) l1 l3 l8 h (sh_okB H) (fun v1 H => ?_)))
  show wq_273 d Q 76 [oR 12 0, oI l1, oI l2, oI l3, _, oI l5, oI l6, oI l7, oI l8, oI s0] [aI v1, aR 13 46] (sh_E h)
  have c := sh_okG H
  replace H := sh_okH H
  refine ai_WP_steps mc_273 (sh_CM d) 2 (And.intro c ?_)
  show wq_273 d Q 78 [oR 12 0, oI l1, oI l2, oI l3, _, oI l5, oI l6, oI l7, oI l8, oI s0] [aI (h.1 13 46 v1.toNatClampNeg), aI v1, aR 13 46] (sh_E h)
  have c := sh_okG H
  replace H := sh_okH H
  refine ai_WP_steps mc_273 (sh_CM d) 3 (And.intro c ?_)
  show wq_273 d Q 82 [oR 12 0, oI l1, oI l2, oI l3, _, oI l5, oI l6, oI l7, oI l8, oI s0] [] (sh_E (sh_pI h 13 46 v1.toNatClampNeg ((h.1 13 46 v1.toNatClampNeg) - s0)))
  replace H := sh_okL H
  generalize sh_pI h 13 46 v1.toNatClampNeg ((h.1 13 46 v1.toNatClampNeg) - s0) = h2 at H ⊢
  refine ai_WP_steps mc_273 (sh_CM d) 2 (And.intro (fun c => ?_) (fun c => ?_))
  · replace H := sh_okT c H
    exact x_M_go_b103 N hd hR k7 hk7 l1 l2 l3 l5 l6 l7 s0 h2 H
  · replace H := sh_okF c H
    show wq_273 d Q 86 [oR 12 0, oI l1, oI l2, oI l3, _, oI l5, oI l6, oI l7, oI l8, oI s0] [] (sh_E h2)
    refine ai_WP_steps mc_273 (sh_CM d) 6 (And.intro (Nat.le_of_ble_eq_true rfl) (x_M_cell (Nat.le_trans (Nat.le_of_ble_eq_true rfl) hd) l2 l3 l8 h2 (sh_okB H) (fun v3 H => ?_)))
    show wq_273 d Q 97 [oR 12 0, oI l1, oI l2, oI l3, _, oI l5, oI l6, oI l7, oI l8, oI s0] [aI v3, aR 13 46] (sh_E h2)
    have c := sh_okG H
    replace H := sh_okH H
    refine ai_WP_steps mc_273 (sh_CM d) 2 (And.intro c ?_)
    show wq_273 d Q 99 [oR 12 0, oI l1, oI l2, oI l3, _, oI l5, oI l6, oI l7, oI l8, oI s0] [aI (h2.1 13 46 v3.toNatClampNeg), aI v3, aR 13 46] (sh_E h2)
    have c := sh_okG H
    replace H := sh_okH H
    refine ai_WP_steps mc_273 (sh_CM d) 3 (And.intro c ?_)
    show wq_273 d Q 103 [oR 12 0, oI l1, oI l2, oI l3, _, oI l5, oI l6, oI l7, oI l8, oI s0] [] (sh_E (sh_pI h2 13 46 v3.toNatClampNeg ((h2.1 13 46 v3.toNatClampNeg) + s0)))
    replace H := sh_okL H
    generalize sh_pI h2 13 46 v3.toNatClampNeg ((h2.1 13 46 v3.toNatClampNeg) + s0) = h4 at H ⊢
    exact x_M_go_b103 N hd hR k7 hk7 l1 l2 l3 l5 l6 l7 s0 h4 H
def f_M_go_b27 (N : Nat)  (k7 : Int32 → Int32 → Int32 → Int32 → Int32 → Int32 → sh_H → Option sh_H) (l1 : Int32) (l2 : Int32) (l3 : Int32) (l5 : Int32) (l6 : Int32) (l7 : Int32) (s0 : Int32) (h : sh_H) : Option sh_H := (Option.bind (f_M_cell l1 l3 s0 h) (fun v5 => (if ai_in v5 8000 then (if (h.1 13 46 v5.toNatClampNeg) < l6 then (Option.bind (f_M_cell l1 l3 s0 h) (fun v6 => (if ai_in v6 8000 then f_M_go_b63 N k7 l1 l2 l3 l5 l6 l7 s0 (h.1 13 46 v6.toNatClampNeg) h else none))) else f_M_go_b63 N k7 l1 l2 l3 l5 l6 l7 s0 l6 h) else none)))
theorem x_M_go_b27 (N : Nat) {d : Nat} (hd : 1 ≤ d) {Q : ai_Q} {R : sh_H → Prop} (hR : ∀ h, R h → Q none (sh_E h))  (k7 : Int32 → Int32 → Int32 → Int32 → Int32 → Int32 → sh_H → Option sh_H) (hk7 : ∀ (l1 : Int32) (l2 : Int32) (l3 : Int32) (l5 : Int32) (l6 : Int32) (l7 : Int32) {d4 d8 d9 : Option ai_V} (h : sh_H), sh_ok (k7 l1 l2 l3 l5 l6 l7 h) R → wq_273 d Q 7 [oR 12 0, oI l1, oI l2, oI l3, d4, oI l5, oI l6, oI l7, d8, d9] [] (sh_E h)) (l1 : Int32) (l2 : Int32) (l3 : Int32) (l5 : Int32) (l6 : Int32) (l7 : Int32) (s0 : Int32) {d4 d8 d9 : Option ai_V} (h : sh_H) (H : sh_ok (f_M_go_b27 N k7 l1 l2 l3 l5 l6 l7 s0 h) R) : wq_273 d Q 27 [oR 12 0, oI l1, oI l2, oI l3, d4, oI l5, oI l6, oI l7, d8, d9] [aI s0] (sh_E h) := by
  refine ai_WP_steps mc_273 (sh_CM d) 7 (And.intro (Nat.le_of_ble_eq_true rfl) (x_M_cell (Nat.le_trans (Nat.le_of_ble_eq_true rfl) hd) l1 l3 s0 h (sh_okB H) (fun v5 H => ?_)))
  show wq_273 d Q 40 [oR 12 0, oI l1, oI l2, oI l3, _, oI l5, oI l6, oI l7, oI s0, _] [aI v5, aR 13 46] (sh_E h)
  have c := sh_okG H
  replace H := sh_okH H
  refine ai_WP_steps mc_273 (sh_CM d) 1 (And.intro c ?_)
  show wq_273 d Q 41 [oR 12 0, oI l1, oI l2, oI l3, _, oI l5, oI l6, oI l7, oI s0, _] [aI (h.1 13 46 v5.toNatClampNeg)] (sh_E h)
  refine ai_WP_steps mc_273 (sh_CM d) 2 (And.intro (fun c => ?_) (fun c => ?_))
  · replace H := sh_okT c H
    show wq_273 d Q 46 [oR 12 0, oI l1, oI l2, oI l3, _, oI l5, oI l6, oI l7, oI s0, _] [] (sh_E h)
    refine ai_WP_steps mc_273 (sh_CM d) 6 (And.intro (Nat.le_of_ble_eq_true rfl) (x_M_cell (Nat.le_trans (Nat.le_of_ble_eq_true rfl) hd) l1 l3 s0 h (sh_okB H) (fun v6 H => ?_)))
    show wq_273 d Q 57 [oR 12 0, oI l1, oI l2, oI l3, _, oI l5, oI l6, oI l7, oI s0, _] [aI v6, aR 13 46] (sh_E h)
    have c := sh_okG H
    replace H := sh_okH H
    refine ai_WP_steps mc_273 (sh_CM d) 1 (And.intro c ?_)
    show wq_273 d Q 58 [oR 12 0, oI l1, oI l2, oI l3, _, oI l5, oI l6, oI l7, oI s0, _] [aI (h.1 13 46 v6.toNatClampNeg)] (sh_E h)
    refine ai_WP_steps mc_273 (sh_CM d) 1 ?_
    exact x_M_go_b63 N hd hR k7 hk7 l1 l2 l3 l5 l6 l7 s0 (h.1 13 46 v6.toNatClampNeg) h H
  · replace H := sh_okF c H
    show wq_273 d Q 61 [oR 12 0, oI l1, oI l2, oI l3, _, oI l5, oI l6, oI l7, oI s0, _] [] (sh_E h)
    refine ai_WP_steps mc_273 (sh_CM d) 1 ?_
    exact x_M_go_b63 N hd hR k7 hk7 l1 l2 l3 l5 l6 l7 s0 l6 h H
def f_M_go_l7 (N : Nat)  (k116 : sh_H → Option sh_H) (n : Nat) : Int32 → Int32 → Int32 → Int32 → Int32 → Int32 → sh_H → Option sh_H := Nat.rec (motive := fun _ => Int32 → Int32 → Int32 → Int32 → Int32 → Int32 → sh_H → Option sh_H) (fun _ _ _ _ _ _ _ => none) (fun _ k7 l1 l2 l3 l5 l6 l7 h => (if l7 < (4 : Int32) then (if l5 = 0 then f_M_go_b27 N k7 l1 l2 l3 l5 l6 l7 l7 h else f_M_go_b27 N k7 l1 l2 l3 l5 l6 l7 ((3 : Int32) - l7) h) else k116 h)) n
theorem x_M_go_l7 (N : Nat) {d : Nat} (hd : 1 ≤ d) {Q : ai_Q} {R : sh_H → Prop} (hR : ∀ h, R h → Q none (sh_E h))  (k116 : sh_H → Option sh_H) (hk116 : ∀ {d0 d1 d2 d3 d4 d5 d6 d7 d8 d9 : Option ai_V} (h : sh_H), sh_ok (k116 h) R → wq_273 d Q 116 [d0, d1, d2, d3, d4, d5, d6, d7, d8, d9] [] (sh_E h)) (n : Nat) : ∀ (l1 : Int32) (l2 : Int32) (l3 : Int32) (l5 : Int32) (l6 : Int32) (l7 : Int32) {d4 d8 d9 : Option ai_V} (h : sh_H), sh_ok (f_M_go_l7 N k116 n l1 l2 l3 l5 l6 l7 h) R → wq_273 d Q 7 [oR 12 0, oI l1, oI l2, oI l3, d4, oI l5, oI l6, oI l7, d8, d9] [] (sh_E h) := by
  induction n with
  | zero => intro l1 l2 l3 l5 l6 l7 d4 d8 d9 h H; exact H.elim
  | succ n ih =>
    intro l1 l2 l3 l5 l6 l7 d4 d8 d9 h H
    have hk7 := @ih
    revert hk7 H
    show sh_ok ((fun k7 l1 l2 l3 l5 l6 l7 h => (if l7 < (4 : Int32) then (if l5 = 0 then f_M_go_b27 N k7 l1 l2 l3 l5 l6 l7 l7 h else f_M_go_b27 N k7 l1 l2 l3 l5 l6 l7 ((3 : Int32) - l7) h) else k116 h)) (f_M_go_l7 N k116 n) l1 l2 l3 l5 l6 l7 h) R → _
    generalize f_M_go_l7 N k116 n = k7
    intro H hk7
    refine ai_WP_steps mc_273 (sh_CM d) 3 (And.intro (fun c => ?_) (fun c => ?_))
    · replace H := sh_okT c H
      show wq_273 d Q 13 [oR 12 0, oI l1, oI l2, oI l3, _, oI l5, oI l6, oI l7, _, _] [] (sh_E h)
      refine ai_WP_steps mc_273 (sh_CM d) 2 (And.intro (fun c => ?_) (fun c => ?_))
      · replace H := sh_okT c H
        show wq_273 d Q 25 [oR 12 0, oI l1, oI l2, oI l3, _, oI l5, oI l6, oI l7, _, _] [] (sh_E h)
        refine ai_WP_steps mc_273 (sh_CM d) 1 ?_
        exact x_M_go_b27 N hd hR k7 hk7 l1 l2 l3 l5 l6 l7 l7 h H
      · replace H := sh_okF c H
        show wq_273 d Q 18 [oR 12 0, oI l1, oI l2, oI l3, _, oI l5, oI l6, oI l7, _, _] [] (sh_E h)
        refine ai_WP_steps mc_273 (sh_CM d) 4 ?_
        exact x_M_go_b27 N hd hR k7 hk7 l1 l2 l3 l5 l6 l7 ((3 : Int32) - l7) h H
    · replace H := sh_okF c H
      exact hk116 h H
def f_M_go_b116 (N : Nat)    (h : sh_H) : Option sh_H := (some h)
theorem x_M_go_b116 (N : Nat) {d : Nat} (hd : 1 ≤ d) {Q : ai_Q} {R : sh_H → Prop} (hR : ∀ h, R h → Q none (sh_E h))    {d0 d1 d2 d3 d4 d5 d6 d7 d8 d9 : Option ai_V} (h : sh_H) (H : sh_ok (f_M_go_b116 N h) R) : wq_273 d Q 116 [d0, d1, d2, d3, d4, d5, d6, d7, d8, d9] [] (sh_E h) := by
  exact ai_WP_steps mc_273 (sh_CM d) 1 (hR h H)
def f_M_go (N : Nat)  (l1 : Int32) (l2 : Int32) (l3 : Int32) (l4 : Int32) (l5 : Int32) (h : sh_H) : Option sh_H := f_M_go_l7 N (f_M_go_b116 N) N l1 l2 l3 l5 l4 (0 : Int32) h
theorem x_M_go (N : Nat) {d : Nat} (hd : 2 ≤ d) (l1 : Int32) (l2 : Int32) (l3 : Int32) (l4 : Int32) (l5 : Int32) (h : sh_H) {Q : ai_Q} {R : sh_H → Prop} (H : sh_ok (f_M_go N l1 l2 l3 l4 l5 h) R) (hR : ∀ h, R h → Q none (sh_E h)) : ai_Ex sh_T d 273 [aR 12 0, aI l1, aI l2, aI l3, aI l4, aI l5] (sh_E h) Q := by
  obtain ⟨d, rfl⟩ : ∃ e, d = e + 1 := ⟨d - 1, by omega⟩
  replace hd : 1 ≤ d := by omega
  refine And.intro (Nat.le_of_ble_eq_true rfl) ?_
  show wq_273 d Q 0 [oR 12 0, oI l1, oI l2, oI l3, oI l4, oI l5, none, none, none, none] [] (sh_E h)
  refine ai_WP_steps mc_273 (sh_CM d) 4 ?_
  exact x_M_go_l7 N hd hR (f_M_go_b116 N) (fun {e0} {e1} {e2} {e3} {e4} {e5} {e6} {e7} {e8} {e9} h H => x_M_go_b116 N hd hR  h H) N l1 l2 l3 l5 l4 (0 : Int32) h H
def f_M_send_b132   (l6 : Int32) (s0 : Nat) (s1 : Int32) (s2 : Int32) (h : sh_H) : Option (Int32 × sh_H) := (if ai_in s1 (sh_l13 s0) then (sh_let (sh_pI h 13 s0 s1.toNatClampNeg s2) (fun h1 => (if ai_in (l6 + (5 : Int32)) 8000 then (sh_let (sh_pI h1 13 46 (l6 + (5 : Int32)).toNatClampNeg (-2 : Int32)) (fun h2 => (if ai_in (7 : Int32) 8000 then (if ai_in (7 : Int32) 8000 then (sh_let (sh_pI h2 13 46 (7 : Int32).toNatClampNeg ((h2.1 13 46 (7 : Int32).toNatClampNeg) + (1 : Int32))) (fun h3 => (if ai_in (7 : Int32) 8000 then (some (((h3.1 13 46 (7 : Int32).toNatClampNeg) - (1 : Int32)), h3)) else none))) else none) else none))) else none))) else none)
theorem x_M_send_b132 {d : Nat} (hd : 1 ≤ d) {Q : ai_Q} {R : Int32 × sh_H → Prop} (hR : ∀ r h, R (r, h) → Q (some (aI r)) (sh_E h))   (l6 : Int32) (s0 : Nat) (s1 : Int32) (s2 : Int32) {d1 d2 d3 d4 d5 : Option ai_V} (h : sh_H) (H : sh_ok (f_M_send_b132 l6 s0 s1 s2 h) R) : wq_274 d Q 132 [oR 12 0, d1, d2, d3, d4, d5, oI l6] [aI s2, aI s1, aR 13 s0] (sh_E h) := by
  have c := sh_okG H
  replace H := sh_okH H
  refine ai_WP_steps mc_274 (sh_CM d) 1 (And.intro c ?_)
  show wq_274 d Q 133 [oR 12 0, _, _, _, _, _, oI l6] [] (sh_E (sh_pI h 13 s0 s1.toNatClampNeg s2))
  replace H := sh_okL H
  generalize sh_pI h 13 s0 s1.toNatClampNeg s2 = h1 at H ⊢
  have c := sh_okG H
  replace H := sh_okH H
  refine ai_WP_steps mc_274 (sh_CM d) 7 (And.intro c ?_)
  show wq_274 d Q 144 [oR 12 0, _, _, _, _, _, oI l6] [] (sh_E (sh_pI h1 13 46 (l6 + (5 : Int32)).toNatClampNeg (-2 : Int32)))
  replace H := sh_okL H
  generalize sh_pI h1 13 46 (l6 + (5 : Int32)).toNatClampNeg (-2 : Int32) = h2 at H ⊢
  have c := sh_okG H
  replace H := sh_okH H
  refine ai_WP_steps mc_274 (sh_CM d) 5 (And.intro c ?_)
  show wq_274 d Q 152 [oR 12 0, _, _, _, _, _, oI l6] [aI (h2.1 13 46 (7 : Int32).toNatClampNeg), aI (7 : Int32), aR 13 46] (sh_E h2)
  have c := sh_okG H
  replace H := sh_okH H
  refine ai_WP_steps mc_274 (sh_CM d) 3 (And.intro c ?_)
  show wq_274 d Q 155 [oR 12 0, _, _, _, _, _, oI l6] [] (sh_E (sh_pI h2 13 46 (7 : Int32).toNatClampNeg ((h2.1 13 46 (7 : Int32).toNatClampNeg) + (1 : Int32))))
  replace H := sh_okL H
  generalize sh_pI h2 13 46 (7 : Int32).toNatClampNeg ((h2.1 13 46 (7 : Int32).toNatClampNeg) + (1 : Int32)) = h3 at H ⊢
  have c := sh_okG H
  replace H := sh_okH H
  refine ai_WP_steps mc_274 (sh_CM d) 4 (And.intro c ?_)
  show wq_274 d Q 162 [oR 12 0, _, _, _, _, _, oI l6] [aI (h3.1 13 46 (7 : Int32).toNatClampNeg)] (sh_E h3)
  exact ai_WP_steps mc_274 (sh_CM d) 3 (hR ((h3.1 13 46 (7 : Int32).toNatClampNeg) - (1 : Int32)) h3 H)
def f_M_send  (l1 : Int32) (l2 : Int32) (l3 : Int32) (l4 : Int32) (l5 : Int32) (h : sh_H) : Option (Int32 × sh_H) := (if ai_in (7 : Int32) 8000 then (if (h.1 13 46 (7 : Int32).toNatClampNeg) = (40 : Int32) then (some ((-1 : Int32), h)) else (if ai_in (9 : Int32) 8000 then (Option.bind (f_M_isIn l1 (h.1 13 46 (9 : Int32).toNatClampNeg) (239 : Int32) h) (fun v4 => (if v4 = 0 then (some ((-1 : Int32), h)) else (Option.bind (f_M_isIsland l2 h) (fun v5 => (if v5 = 0 then (some ((-1 : Int32), h)) else (Option.bind (f_M_isKind l3 h) (fun v6 => (if v6 = 0 then (some ((-1 : Int32), h)) else (Option.bind (f_M_isIn l4 (1 : Int32) (9999 : Int32) h) (fun v7 => (if v7 = 0 then (some ((-1 : Int32), h)) else (if ai_in (7 : Int32) 8000 then (if ai_in ((310 : Int32) + ((6 : Int32) * (h.1 13 46 (7 : Int32).toNatClampNeg))) 8000 then (sh_let (sh_pI h 13 46 ((310 : Int32) + ((6 : Int32) * (h.1 13 46 (7 : Int32).toNatClampNeg))).toNatClampNeg l1) (fun h8 => (if ai_in (((310 : Int32) + ((6 : Int32) * (h.1 13 46 (7 : Int32).toNatClampNeg))) + (1 : Int32)) 8000 then (sh_let (sh_pI h8 13 46 (((310 : Int32) + ((6 : Int32) * (h.1 13 46 (7 : Int32).toNatClampNeg))) + (1 : Int32)).toNatClampNeg l2) (fun h9 => (if ai_in (((310 : Int32) + ((6 : Int32) * (h.1 13 46 (7 : Int32).toNatClampNeg))) + (2 : Int32)) 8000 then (sh_let (sh_pI h9 13 46 (((310 : Int32) + ((6 : Int32) * (h.1 13 46 (7 : Int32).toNatClampNeg))) + (2 : Int32)).toNatClampNeg l3) (fun h10 => (if ai_in (((310 : Int32) + ((6 : Int32) * (h.1 13 46 (7 : Int32).toNatClampNeg))) + (3 : Int32)) 8000 then (sh_let (sh_pI h10 13 46 (((310 : Int32) + ((6 : Int32) * (h.1 13 46 (7 : Int32).toNatClampNeg))) + (3 : Int32)).toNatClampNeg l4) (fun h11 => (if l5 = 0 then f_M_send_b132 ((310 : Int32) + ((6 : Int32) * (h.1 13 46 (7 : Int32).toNatClampNeg))) 46 (((310 : Int32) + ((6 : Int32) * (h.1 13 46 (7 : Int32).toNatClampNeg))) + (4 : Int32)) (0 : Int32) h11 else f_M_send_b132 ((310 : Int32) + ((6 : Int32) * (h.1 13 46 (7 : Int32).toNatClampNeg))) 46 (((310 : Int32) + ((6 : Int32) * (h.1 13 46 (7 : Int32).toNatClampNeg))) + (4 : Int32)) (1 : Int32) h11))) else none))) else none))) else none))) else none) else none))))))))))))) else none)) else none)
theorem x_M_send {d : Nat} (hd : 2 ≤ d) (l1 : Int32) (l2 : Int32) (l3 : Int32) (l4 : Int32) (l5 : Int32) (h : sh_H) {Q : ai_Q} {R : Int32 × sh_H → Prop} (H : sh_ok (f_M_send l1 l2 l3 l4 l5 h) R) (hR : ∀ r h, R (r, h) → Q (some (aI r)) (sh_E h)) : ai_Ex sh_T d 274 [aR 12 0, aI l1, aI l2, aI l3, aI l4, aI l5] (sh_E h) Q := by
  obtain ⟨d, rfl⟩ : ∃ e, d = e + 1 := ⟨d - 1, by omega⟩
  replace hd : 1 ≤ d := by omega
  refine And.intro (Nat.le_of_ble_eq_true rfl) ?_
  show wq_274 d Q 0 [oR 12 0, oI l1, oI l2, oI l3, oI l4, oI l5, none] [] (sh_E h)
  have c := sh_okG H
  replace H := sh_okH H
  refine ai_WP_steps mc_274 (sh_CM d) 4 (And.intro c ?_)
  show wq_274 d Q 7 [oR 12 0, oI l1, oI l2, oI l3, oI l4, oI l5, _] [aI (h.1 13 46 (7 : Int32).toNatClampNeg)] (sh_E h)
  refine ai_WP_steps mc_274 (sh_CM d) 2 (And.intro (fun c => ?_) (fun c => ?_))
  · replace H := sh_okT c H
    show wq_274 d Q 57 [oR 12 0, oI l1, oI l2, oI l3, oI l4, oI l5, _] [] (sh_E h)
    exact ai_WP_steps mc_274 (sh_CM d) 2 (hR (-1 : Int32) h H)
  · replace H := sh_okF c H
    show wq_274 d Q 12 [oR 12 0, oI l1, oI l2, oI l3, oI l4, oI l5, _] [] (sh_E h)
    have c := sh_okG H
    replace H := sh_okH H
    refine ai_WP_steps mc_274 (sh_CM d) 5 (And.intro c ?_)
    show wq_274 d Q 20 [oR 12 0, oI l1, oI l2, oI l3, oI l4, oI l5, _] [aI (h.1 13 46 (9 : Int32).toNatClampNeg), aI l1] (sh_E h)
    refine ai_WP_steps mc_274 (sh_CM d) 2 (And.intro (Nat.le_of_ble_eq_true rfl) (x_M_isIn (Nat.le_trans (Nat.le_of_ble_eq_true rfl) hd) l1 (h.1 13 46 (9 : Int32).toNatClampNeg) (239 : Int32) h (sh_okB H) (fun v4 H => ?_)))
    show wq_274 d Q 26 [oR 12 0, oI l1, oI l2, oI l3, oI l4, oI l5, _] [aI v4] (sh_E h)
    refine ai_WP_steps mc_274 (sh_CM d) 1 (And.intro (fun c => ?_) (fun c => ?_))
    · replace H := sh_okT c H
      show wq_274 d Q 57 [oR 12 0, oI l1, oI l2, oI l3, oI l4, oI l5, _] [] (sh_E h)
      exact ai_WP_steps mc_274 (sh_CM d) 2 (hR (-1 : Int32) h H)
    · replace H := sh_okF c H
      show wq_274 d Q 29 [oR 12 0, oI l1, oI l2, oI l3, oI l4, oI l5, _] [] (sh_E h)
      refine ai_WP_steps mc_274 (sh_CM d) 3 (And.intro (Nat.le_of_ble_eq_true rfl) (x_M_isIsland (Nat.le_trans (Nat.le_of_ble_eq_true rfl) hd) l2 h (sh_okB H) (fun v5 H => ?_)))
      show wq_274 d Q 34 [oR 12 0, oI l1, oI l2, oI l3, oI l4, oI l5, _] [aI v5] (sh_E h)
      refine ai_WP_steps mc_274 (sh_CM d) 1 (And.intro (fun c => ?_) (fun c => ?_))
      · replace H := sh_okT c H
        show wq_274 d Q 57 [oR 12 0, oI l1, oI l2, oI l3, oI l4, oI l5, _] [] (sh_E h)
        exact ai_WP_steps mc_274 (sh_CM d) 2 (hR (-1 : Int32) h H)
      · replace H := sh_okF c H
        show wq_274 d Q 37 [oR 12 0, oI l1, oI l2, oI l3, oI l4, oI l5, _] [] (sh_E h)
        refine ai_WP_steps mc_274 (sh_CM d) 3 (And.intro (Nat.le_of_ble_eq_true rfl) (x_M_isKind (Nat.le_trans (Nat.le_of_ble_eq_true rfl) hd) l3 h (sh_okB H) (fun v6 H => ?_)))
        show wq_274 d Q 42 [oR 12 0, oI l1, oI l2, oI l3, oI l4, oI l5, _] [aI v6] (sh_E h)
        refine ai_WP_steps mc_274 (sh_CM d) 1 (And.intro (fun c => ?_) (fun c => ?_))
        · replace H := sh_okT c H
          show wq_274 d Q 57 [oR 12 0, oI l1, oI l2, oI l3, oI l4, oI l5, _] [] (sh_E h)
          exact ai_WP_steps mc_274 (sh_CM d) 2 (hR (-1 : Int32) h H)
        · replace H := sh_okF c H
          show wq_274 d Q 45 [oR 12 0, oI l1, oI l2, oI l3, oI l4, oI l5, _] [] (sh_E h)
          refine ai_WP_steps mc_274 (sh_CM d) 4 (And.intro (Nat.le_of_ble_eq_true rfl) (x_M_isIn (Nat.le_trans (Nat.le_of_ble_eq_true rfl) hd) l4 (1 : Int32) (9999 : Int32) h (sh_okB H) (fun v7 H => ?_)))
          show wq_274 d Q 54 [oR 12 0, oI l1, oI l2, oI l3, oI l4, oI l5, _] [aI v7] (sh_E h)
          refine ai_WP_steps mc_274 (sh_CM d) 1 (And.intro (fun c => ?_) (fun c => ?_))
          · replace H := sh_okT c H
            show wq_274 d Q 57 [oR 12 0, oI l1, oI l2, oI l3, oI l4, oI l5, _] [] (sh_E h)
            exact ai_WP_steps mc_274 (sh_CM d) 2 (hR (-1 : Int32) h H)
          · replace H := sh_okF c H
            show wq_274 d Q 59 [oR 12 0, oI l1, oI l2, oI l3, oI l4, oI l5, _] [] (sh_E h)
            have c := sh_okG H
            replace H := sh_okH H
            refine ai_WP_steps mc_274 (sh_CM d) 6 (And.intro c ?_)
            show wq_274 d Q 71 [oR 12 0, oI l1, oI l2, oI l3, oI l4, oI l5, _] [aI (h.1 13 46 (7 : Int32).toNatClampNeg), aI (6 : Int32), aI (310 : Int32)] (sh_E h)
            have c := sh_okG H
            replace H := sh_okH H
            refine ai_WP_steps mc_274 (sh_CM d) 8 (And.intro c ?_)
            show wq_274 d Q 83 [oR 12 0, oI l1, oI l2, oI l3, oI l4, oI l5, oI ((310 : Int32) + ((6 : Int32) * (h.1 13 46 (7 : Int32).toNatClampNeg)))] [] (sh_E (sh_pI h 13 46 ((310 : Int32) + ((6 : Int32) * (h.1 13 46 (7 : Int32).toNatClampNeg))).toNatClampNeg l1))
            replace H := sh_okL H
            generalize sh_pI h 13 46 ((310 : Int32) + ((6 : Int32) * (h.1 13 46 (7 : Int32).toNatClampNeg))).toNatClampNeg l1 = h8 at H ⊢
            have c := sh_okG H
            replace H := sh_okH H
            refine ai_WP_steps mc_274 (sh_CM d) 7 (And.intro c ?_)
            show wq_274 d Q 93 [oR 12 0, oI l1, oI l2, oI l3, oI l4, oI l5, oI ((310 : Int32) + ((6 : Int32) * (h.1 13 46 (7 : Int32).toNatClampNeg)))] [] (sh_E (sh_pI h8 13 46 (((310 : Int32) + ((6 : Int32) * (h.1 13 46 (7 : Int32).toNatClampNeg))) + (1 : Int32)).toNatClampNeg l2))
            replace H := sh_okL H
            generalize sh_pI h8 13 46 (((310 : Int32) + ((6 : Int32) * (h.1 13 46 (7 : Int32).toNatClampNeg))) + (1 : Int32)).toNatClampNeg l2 = h9 at H ⊢
            have c := sh_okG H
            replace H := sh_okH H
            refine ai_WP_steps mc_274 (sh_CM d) 7 (And.intro c ?_)
            show wq_274 d Q 103 [oR 12 0, oI l1, oI l2, oI l3, oI l4, oI l5, oI ((310 : Int32) + ((6 : Int32) * (h.1 13 46 (7 : Int32).toNatClampNeg)))] [] (sh_E (sh_pI h9 13 46 (((310 : Int32) + ((6 : Int32) * (h.1 13 46 (7 : Int32).toNatClampNeg))) + (2 : Int32)).toNatClampNeg l3))
            replace H := sh_okL H
            generalize sh_pI h9 13 46 (((310 : Int32) + ((6 : Int32) * (h.1 13 46 (7 : Int32).toNatClampNeg))) + (2 : Int32)).toNatClampNeg l3 = h10 at H ⊢
            have c := sh_okG H
            replace H := sh_okH H
            refine ai_WP_steps mc_274 (sh_CM d) 7 (And.intro c ?_)
            show wq_274 d Q 114 [oR 12 0, oI l1, oI l2, oI l3, oI l4, oI l5, oI ((310 : Int32) + ((6 : Int32) * (h.1 13 46 (7 : Int32).toNatClampNeg)))] [] (sh_E (sh_pI h10 13 46 (((310 : Int32) + ((6 : Int32) * (h.1 13 46 (7 : Int32).toNatClampNeg))) + (3 : Int32)).toNatClampNeg l4))
            replace H := sh_okL H
            generalize sh_pI h10 13 46 (((310 : Int32) + ((6 : Int32) * (h.1 13 46 (7 : Int32).toNatClampNeg))) + (3 : Int32)).toNatClampNeg l4 = h11 at H ⊢
            refine ai_WP_steps mc_274 (sh_CM d) 7 (And.intro (fun c => ?_) (fun c => ?_))
            · replace H := sh_okT c H
              show wq_274 d Q 131 [oR 12 0, oI l1, oI l2, oI l3, oI l4, oI l5, oI ((310 : Int32) + ((6 : Int32) * (h.1 13 46 (7 : Int32).toNatClampNeg)))] [aI (((310 : Int32) + ((6 : Int32) * (h.1 13 46 (7 : Int32).toNatClampNeg))) + (4 : Int32)), aR 13 46] (sh_E h11)
              refine ai_WP_steps mc_274 (sh_CM d) 1 ?_
              exact x_M_send_b132 hd hR ((310 : Int32) + ((6 : Int32) * (h.1 13 46 (7 : Int32).toNatClampNeg))) 46 (((310 : Int32) + ((6 : Int32) * (h.1 13 46 (7 : Int32).toNatClampNeg))) + (4 : Int32)) (0 : Int32) h11 H
            · replace H := sh_okF c H
              show wq_274 d Q 127 [oR 12 0, oI l1, oI l2, oI l3, oI l4, oI l5, oI ((310 : Int32) + ((6 : Int32) * (h.1 13 46 (7 : Int32).toNatClampNeg)))] [aI (((310 : Int32) + ((6 : Int32) * (h.1 13 46 (7 : Int32).toNatClampNeg))) + (4 : Int32)), aR 13 46] (sh_E h11)
              refine ai_WP_steps mc_274 (sh_CM d) 2 ?_
              exact x_M_send_b132 hd hR ((310 : Int32) + ((6 : Int32) * (h.1 13 46 (7 : Int32).toNatClampNeg))) 46 (((310 : Int32) + ((6 : Int32) * (h.1 13 46 (7 : Int32).toNatClampNeg))) + (4 : Int32)) (1 : Int32) h11 H
def f_M_done  (l1 : Int32) (h : sh_H) : Option Int32 := (if ai_in (7 : Int32) 8000 then (Option.bind (f_M_isIn l1 (0 : Int32) ((h.1 13 46 (7 : Int32).toNatClampNeg) - (1 : Int32)) h) (fun v1 => (if v1 = 0 then (some (-1 : Int32)) else (if ai_in (((310 : Int32) + ((6 : Int32) * l1)) + (5 : Int32)) 8000 then (some (h.1 13 46 (((310 : Int32) + ((6 : Int32) * l1)) + (5 : Int32)).toNatClampNeg)) else none)))) else none)
theorem x_M_done {d : Nat} (hd : 2 ≤ d) (l1 : Int32) (h : sh_H) {Q : ai_Q} {R : Int32 → Prop} (H : sh_ok (f_M_done l1 h) R) (hR : ∀ r, R r → Q (some (aI r)) (sh_E h)) : ai_Ex sh_T d 275 [aR 12 0, aI l1] (sh_E h) Q := by
  obtain ⟨d, rfl⟩ : ∃ e, d = e + 1 := ⟨d - 1, by omega⟩
  replace hd : 1 ≤ d := by omega
  refine And.intro (Nat.le_of_ble_eq_true rfl) ?_
  show wq_275 d Q 0 [oR 12 0, oI l1] [] (sh_E h)
  have c := sh_okG H
  replace H := sh_okH H
  refine ai_WP_steps mc_275 (sh_CM d) 6 (And.intro c ?_)
  show wq_275 d Q 9 [oR 12 0, oI l1] [aI (h.1 13 46 (7 : Int32).toNatClampNeg), aI (0 : Int32), aI l1] (sh_E h)
  refine ai_WP_steps mc_275 (sh_CM d) 3 (And.intro (Nat.le_of_ble_eq_true rfl) (x_M_isIn (Nat.le_trans (Nat.le_of_ble_eq_true rfl) hd) l1 (0 : Int32) ((h.1 13 46 (7 : Int32).toNatClampNeg) - (1 : Int32)) h (sh_okB H) (fun v1 H => ?_)))
  show wq_275 d Q 14 [oR 12 0, oI l1] [aI v1] (sh_E h)
  refine ai_WP_steps mc_275 (sh_CM d) 1 (And.intro (fun c => ?_) (fun c => ?_))
  · replace H := sh_okT c H
    show wq_275 d Q 35 [oR 12 0, oI l1] [] (sh_E h)
    exact ai_WP_steps mc_275 (sh_CM d) 2 (hR (-1 : Int32) H)
  · replace H := sh_okF c H
    show wq_275 d Q 17 [oR 12 0, oI l1] [] (sh_E h)
    have c := sh_okG H
    replace H := sh_okH H
    refine ai_WP_steps mc_275 (sh_CM d) 10 (And.intro c ?_)
    show wq_275 d Q 32 [oR 12 0, oI l1] [aI (h.1 13 46 (((310 : Int32) + ((6 : Int32) * l1)) + (5 : Int32)).toNatClampNeg)] (sh_E h)
    exact ai_WP_steps mc_275 (sh_CM d) 2 (hR (h.1 13 46 (((310 : Int32) + ((6 : Int32) * l1)) + (5 : Int32)).toNatClampNeg) H)
def f_M_reason_b107 (N : Nat)   (l1 : Int32) (l4 : Int32) (s0 : Nat) (s1 : Int32) (s2 : Int32) (h : sh_H) : Option Int32 := (if ai_in ((s1 * s2) + l4) (sh_l13 s0) then (if ai_in (l1 + (3 : Int32)) 8000 then (if (h.1 13 s0 ((s1 * s2) + l4).toNatClampNeg) < (h.1 13 46 (l1 + (3 : Int32)).toNatClampNeg) then (some (4 : Int32)) else (some (0 : Int32))) else none) else none)
theorem x_M_reason_b107 (N : Nat) {d : Nat} (hd : 1 ≤ d) (h : sh_H) {Q : ai_Q} {R : Int32 → Prop} (hR : ∀ r, R r → Q (some (aI r)) (sh_E h))   (l1 : Int32) (l4 : Int32) (s0 : Nat) (s1 : Int32) (s2 : Int32) {d2 d3 d5 : Option ai_V} (H : sh_ok (f_M_reason_b107 N l1 l4 s0 s1 s2 h) R) : wq_276 d Q 107 [oR 12 0, oI l1, d2, d3, oI l4, d5] [aI s2, aI s1, aR 13 s0] (sh_E h) := by
  have c := sh_okG H
  replace H := sh_okH H
  refine ai_WP_steps mc_276 (sh_CM d) 4 (And.intro c ?_)
  show wq_276 d Q 112 [oR 12 0, oI l1, _, _, oI l4, _] [aI (h.1 13 s0 ((s1 * s2) + l4).toNatClampNeg)] (sh_E h)
  have c := sh_okG H
  replace H := sh_okH H
  refine ai_WP_steps mc_276 (sh_CM d) 6 (And.intro c ?_)
  show wq_276 d Q 120 [oR 12 0, oI l1, _, _, oI l4, _] [aI (h.1 13 46 (l1 + (3 : Int32)).toNatClampNeg), aI (h.1 13 s0 ((s1 * s2) + l4).toNatClampNeg)] (sh_E h)
  refine ai_WP_steps mc_276 (sh_CM d) 1 (And.intro (fun c => ?_) (fun c => ?_))
  · replace H := sh_okT c H
    show wq_276 d Q 123 [oR 12 0, oI l1, _, _, oI l4, _] [] (sh_E h)
    exact ai_WP_steps mc_276 (sh_CM d) 3 (hR (4 : Int32) H)
  · replace H := sh_okF c H
    show wq_276 d Q 127 [oR 12 0, oI l1, _, _, oI l4, _] [] (sh_E h)
    exact ai_WP_steps mc_276 (sh_CM d) 2 (hR (0 : Int32) H)
def f_M_reason (N : Nat)  (l1 : Int32) (l2 : Int32) (h : sh_H) : Option Int32 := (if ai_in (l1 + (1 : Int32)) 8000 then (if ai_in (l1 + (2 : Int32)) 8000 then (Option.bind (f_M_boatOf N (h.1 13 46 (l1 + (1 : Int32)).toNatClampNeg) l2 h) (fun v1 => (if v1 < 0 then (some (1 : Int32)) else (if ai_in (h.1 13 46 (l1 + (1 : Int32)).toNatClampNeg) 5 then (if ai_in (l1 + (3 : Int32)) 8000 then (if ai_in (((20 : Int32) + ((3 : Int32) * (h.1 13 46 (l1 + (2 : Int32)).toNatClampNeg))) + (1 : Int32)) 8000 then (if ai_in (((250 : Int32) + ((5 : Int32) * v1)) + (2 : Int32)) 8000 then (if (h.1 13 46 (((250 : Int32) + ((5 : Int32) * v1)) + (2 : Int32)).toNatClampNeg) < ((h.1 13 52 (h.1 13 46 (l1 + (1 : Int32)).toNatClampNeg).toNatClampNeg) + ((h.1 13 46 (l1 + (3 : Int32)).toNatClampNeg) * (h.1 13 46 (((20 : Int32) + ((3 : Int32) * (h.1 13 46 (l1 + (2 : Int32)).toNatClampNeg))) + (1 : Int32)).toNatClampNeg))) then (some (3 : Int32)) else (if ai_in (l1 + (4 : Int32)) 8000 then (if (h.1 13 46 (l1 + (4 : Int32)).toNatClampNeg) = (1 : Int32) then f_M_reason_b107 N l1 (h.1 13 46 (l1 + (2 : Int32)).toNatClampNeg) 53 (6 : Int32) (h.1 13 46 (l1 + (1 : Int32)).toNatClampNeg) h else f_M_reason_b107 N l1 (h.1 13 46 (l1 + (2 : Int32)).toNatClampNeg) 53 (6 : Int32) (0 : Int32) h) else none)) else none) else none) else none) else none)))) else none) else none)
theorem x_M_reason (N : Nat) {d : Nat} (hd : 2 ≤ d) (l1 : Int32) (l2 : Int32) (h : sh_H) {Q : ai_Q} {R : Int32 → Prop} (H : sh_ok (f_M_reason N l1 l2 h) R) (hR : ∀ r, R r → Q (some (aI r)) (sh_E h)) : ai_Ex sh_T d 276 [aR 12 0, aI l1, aI l2] (sh_E h) Q := by
  obtain ⟨d, rfl⟩ : ∃ e, d = e + 1 := ⟨d - 1, by omega⟩
  replace hd : 1 ≤ d := by omega
  refine And.intro (Nat.le_of_ble_eq_true rfl) ?_
  show wq_276 d Q 0 [oR 12 0, oI l1, oI l2, none, none, none] [] (sh_E h)
  have c := sh_okG H
  replace H := sh_okH H
  refine ai_WP_steps mc_276 (sh_CM d) 6 (And.intro c ?_)
  show wq_276 d Q 8 [oR 12 0, oI l1, oI l2, _, _, _] [aI (h.1 13 46 (l1 + (1 : Int32)).toNatClampNeg)] (sh_E h)
  have c := sh_okG H
  replace H := sh_okH H
  refine ai_WP_steps mc_276 (sh_CM d) 7 (And.intro c ?_)
  show wq_276 d Q 17 [oR 12 0, oI l1, oI l2, oI (h.1 13 46 (l1 + (1 : Int32)).toNatClampNeg), _, _] [aI (h.1 13 46 (l1 + (2 : Int32)).toNatClampNeg)] (sh_E h)
  refine ai_WP_steps mc_276 (sh_CM d) 5 (And.intro (Nat.le_of_ble_eq_true rfl) (x_M_boatOf N (Nat.le_trans (Nat.le_of_ble_eq_true rfl) hd) (h.1 13 46 (l1 + (1 : Int32)).toNatClampNeg) l2 h (sh_okB H) (fun v1 H => ?_)))
  show wq_276 d Q 25 [oR 12 0, oI l1, oI l2, oI (h.1 13 46 (l1 + (1 : Int32)).toNatClampNeg), oI (h.1 13 46 (l1 + (2 : Int32)).toNatClampNeg), _] [aI v1] (sh_E h)
  refine ai_WP_steps mc_276 (sh_CM d) 3 (And.intro (fun c => ?_) (fun c => ?_))
  · replace H := sh_okT c H
    show wq_276 d Q 32 [oR 12 0, oI l1, oI l2, oI (h.1 13 46 (l1 + (1 : Int32)).toNatClampNeg), oI (h.1 13 46 (l1 + (2 : Int32)).toNatClampNeg), oI v1] [] (sh_E h)
    exact ai_WP_steps mc_276 (sh_CM d) 2 (hR (1 : Int32) H)
  · replace H := sh_okF c H
    show wq_276 d Q 34 [oR 12 0, oI l1, oI l2, oI (h.1 13 46 (l1 + (1 : Int32)).toNatClampNeg), oI (h.1 13 46 (l1 + (2 : Int32)).toNatClampNeg), oI v1] [] (sh_E h)
    have c := sh_okG H
    replace H := sh_okH H
    refine ai_WP_steps mc_276 (sh_CM d) 4 (And.intro c ?_)
    show wq_276 d Q 40 [oR 12 0, oI l1, oI l2, oI (h.1 13 46 (l1 + (1 : Int32)).toNatClampNeg), oI (h.1 13 46 (l1 + (2 : Int32)).toNatClampNeg), oI v1] [aI (h.1 13 52 (h.1 13 46 (l1 + (1 : Int32)).toNatClampNeg).toNatClampNeg)] (sh_E h)
    have c := sh_okG H
    replace H := sh_okH H
    refine ai_WP_steps mc_276 (sh_CM d) 6 (And.intro c ?_)
    show wq_276 d Q 48 [oR 12 0, oI l1, oI l2, oI (h.1 13 46 (l1 + (1 : Int32)).toNatClampNeg), oI (h.1 13 46 (l1 + (2 : Int32)).toNatClampNeg), oI v1] [aI (h.1 13 46 (l1 + (3 : Int32)).toNatClampNeg), aI (h.1 13 52 (h.1 13 46 (l1 + (1 : Int32)).toNatClampNeg).toNatClampNeg)] (sh_E h)
    have c := sh_okG H
    replace H := sh_okH H
    refine ai_WP_steps mc_276 (sh_CM d) 10 (And.intro c ?_)
    show wq_276 d Q 62 [oR 12 0, oI l1, oI l2, oI (h.1 13 46 (l1 + (1 : Int32)).toNatClampNeg), oI (h.1 13 46 (l1 + (2 : Int32)).toNatClampNeg), oI v1] [aI (h.1 13 46 (((20 : Int32) + ((3 : Int32) * (h.1 13 46 (l1 + (2 : Int32)).toNatClampNeg))) + (1 : Int32)).toNatClampNeg), aI (h.1 13 46 (l1 + (3 : Int32)).toNatClampNeg), aI (h.1 13 52 (h.1 13 46 (l1 + (1 : Int32)).toNatClampNeg).toNatClampNeg)] (sh_E h)
    have c := sh_okG H
    replace H := sh_okH H
    refine ai_WP_steps mc_276 (sh_CM d) 12 (And.intro c ?_)
    show wq_276 d Q 79 [oR 12 0, oI l1, oI l2, oI (h.1 13 46 (l1 + (1 : Int32)).toNatClampNeg), oI (h.1 13 46 (l1 + (2 : Int32)).toNatClampNeg), oI v1] [aI (h.1 13 46 (((250 : Int32) + ((5 : Int32) * v1)) + (2 : Int32)).toNatClampNeg), aI ((h.1 13 52 (h.1 13 46 (l1 + (1 : Int32)).toNatClampNeg).toNatClampNeg) + ((h.1 13 46 (l1 + (3 : Int32)).toNatClampNeg) * (h.1 13 46 (((20 : Int32) + ((3 : Int32) * (h.1 13 46 (l1 + (2 : Int32)).toNatClampNeg))) + (1 : Int32)).toNatClampNeg)))] (sh_E h)
    refine ai_WP_steps mc_276 (sh_CM d) 1 (And.intro (fun c => ?_) (fun c => ?_))
    · replace H := sh_okT c H
      show wq_276 d Q 82 [oR 12 0, oI l1, oI l2, oI (h.1 13 46 (l1 + (1 : Int32)).toNatClampNeg), oI (h.1 13 46 (l1 + (2 : Int32)).toNatClampNeg), oI v1] [] (sh_E h)
      exact ai_WP_steps mc_276 (sh_CM d) 2 (hR (3 : Int32) H)
    · replace H := sh_okF c H
      show wq_276 d Q 84 [oR 12 0, oI l1, oI l2, oI (h.1 13 46 (l1 + (1 : Int32)).toNatClampNeg), oI (h.1 13 46 (l1 + (2 : Int32)).toNatClampNeg), oI v1] [] (sh_E h)
      have c := sh_okG H
      replace H := sh_okH H
      refine ai_WP_steps mc_276 (sh_CM d) 9 (And.intro c ?_)
      show wq_276 d Q 98 [oR 12 0, oI l1, oI l2, oI (h.1 13 46 (l1 + (1 : Int32)).toNatClampNeg), oI (h.1 13 46 (l1 + (2 : Int32)).toNatClampNeg), oI v1] [aI (h.1 13 46 (l1 + (4 : Int32)).toNatClampNeg), aI (6 : Int32), aR 13 53] (sh_E h)
      refine ai_WP_steps mc_276 (sh_CM d) 2 (And.intro (fun c => ?_) (fun c => ?_))
      · replace H := sh_okT c H
        show wq_276 d Q 102 [oR 12 0, oI l1, oI l2, oI (h.1 13 46 (l1 + (1 : Int32)).toNatClampNeg), oI (h.1 13 46 (l1 + (2 : Int32)).toNatClampNeg), oI v1] [aI (6 : Int32), aR 13 53] (sh_E h)
        refine ai_WP_steps mc_276 (sh_CM d) 2 ?_
        exact x_M_reason_b107 N hd h hR l1 (h.1 13 46 (l1 + (2 : Int32)).toNatClampNeg) 53 (6 : Int32) (h.1 13 46 (l1 + (1 : Int32)).toNatClampNeg) H
      · replace H := sh_okF c H
        show wq_276 d Q 106 [oR 12 0, oI l1, oI l2, oI (h.1 13 46 (l1 + (1 : Int32)).toNatClampNeg), oI (h.1 13 46 (l1 + (2 : Int32)).toNatClampNeg), oI v1] [aI (6 : Int32), aR 13 53] (sh_E h)
        refine ai_WP_steps mc_276 (sh_CM d) 1 ?_
        exact x_M_reason_b107 N hd h hR l1 (h.1 13 46 (l1 + (2 : Int32)).toNatClampNeg) 53 (6 : Int32) (0 : Int32) H
def f_M_layTills_l9 (N : Nat)  (k38 : Int32 → sh_H → Option sh_H) (n : Nat) : Int32 → Int32 → sh_H → Option sh_H := Nat.rec (motive := fun _ => Int32 → Int32 → sh_H → Option sh_H) (fun _ _ _ => none) (fun _ k9 l1 l2 h => (if l2 < (6 : Int32) then (Option.bind (f_M_all N l1 l2 h) (fun v1 => (if ai_in (((6 : Int32) * l1) + l2) 30 then (sh_let (sh_pI h 13 53 (((6 : Int32) * l1) + l2).toNatClampNeg v1) (fun h2 => k9 l1 (l2 + (1 : Int32)) h2)) else none))) else k38 l1 h)) n
theorem x_M_layTills_l9 (N : Nat) {d : Nat} (hd : 2 ≤ d) {Q : ai_Q} {R : sh_H → Prop} (hR : ∀ h, R h → Q none (sh_E h))  (k38 : Int32 → sh_H → Option sh_H) (hk38 : ∀ (l1 : Int32) {d2 : Option ai_V} (h : sh_H), sh_ok (k38 l1 h) R → wq_277 d Q 38 [oR 12 0, oI l1, d2] [] (sh_E h)) (n : Nat) : ∀ (l1 : Int32) (l2 : Int32) (h : sh_H), sh_ok (f_M_layTills_l9 N k38 n l1 l2 h) R → wq_277 d Q 9 [oR 12 0, oI l1, oI l2] [] (sh_E h) := by
  induction n with
  | zero => intro l1 l2 h H; exact H.elim
  | succ n ih =>
    intro l1 l2 h H
    have hk9 := @ih
    revert hk9 H
    show sh_ok ((fun k9 l1 l2 h => (if l2 < (6 : Int32) then (Option.bind (f_M_all N l1 l2 h) (fun v1 => (if ai_in (((6 : Int32) * l1) + l2) 30 then (sh_let (sh_pI h 13 53 (((6 : Int32) * l1) + l2).toNatClampNeg v1) (fun h2 => k9 l1 (l2 + (1 : Int32)) h2)) else none))) else k38 l1 h)) (f_M_layTills_l9 N k38 n) l1 l2 h) R → _
    generalize f_M_layTills_l9 N k38 n = k9
    intro H hk9
    refine ai_WP_steps mc_277 (sh_CM d) 3 (And.intro (fun c => ?_) (fun c => ?_))
    · replace H := sh_okT c H
      show wq_277 d Q 15 [oR 12 0, oI l1, oI l2] [] (sh_E h)
      refine ai_WP_steps mc_277 (sh_CM d) 11 (And.intro (Nat.le_of_ble_eq_true rfl) (x_M_all N (Nat.le_trans (Nat.le_of_ble_eq_true rfl) hd) l1 l2 h (sh_okB H) (fun v1 H => ?_)))
      show wq_277 d Q 31 [oR 12 0, oI l1, oI l2] [aI v1, aI (((6 : Int32) * l1) + l2), aR 13 53] (sh_E h)
      have c := sh_okG H
      replace H := sh_okH H
      refine ai_WP_steps mc_277 (sh_CM d) 1 (And.intro c ?_)
      show wq_277 d Q 32 [oR 12 0, oI l1, oI l2] [] (sh_E (sh_pI h 13 53 (((6 : Int32) * l1) + l2).toNatClampNeg v1))
      replace H := sh_okL H
      generalize sh_pI h 13 53 (((6 : Int32) * l1) + l2).toNatClampNeg v1 = h2 at H ⊢
      refine ai_WP_steps mc_277 (sh_CM d) 2 ?_
      exact hk9 l1 (l2 + (1 : Int32)) h2 H
    · replace H := sh_okF c H
      exact hk38 l1 h H
def f_M_layTills_b38 (N : Nat)  (k2 : Int32 → sh_H → Option sh_H) (l1 : Int32) (h : sh_H) : Option sh_H := k2 (l1 + (1 : Int32)) h
theorem x_M_layTills_b38 (N : Nat) {d : Nat} (hd : 2 ≤ d) {Q : ai_Q} {R : sh_H → Prop} (hR : ∀ h, R h → Q none (sh_E h))  (k2 : Int32 → sh_H → Option sh_H) (hk2 : ∀ (l1 : Int32) {d2 : Option ai_V} (h : sh_H), sh_ok (k2 l1 h) R → wq_277 d Q 2 [oR 12 0, oI l1, d2] [] (sh_E h)) (l1 : Int32) {d2 : Option ai_V} (h : sh_H) (H : sh_ok (f_M_layTills_b38 N k2 l1 h) R) : wq_277 d Q 38 [oR 12 0, oI l1, d2] [] (sh_E h) := by
  refine ai_WP_steps mc_277 (sh_CM d) 2 ?_
  exact hk2 (l1 + (1 : Int32)) h H
def f_M_layTills_l2 (N : Nat)  (k44 : sh_H → Option sh_H) (n : Nat) : Int32 → sh_H → Option sh_H := Nat.rec (motive := fun _ => Int32 → sh_H → Option sh_H) (fun _ _ => none) (fun _ k2 l1 h => (if l1 < (5 : Int32) then f_M_layTills_l9 N (f_M_layTills_b38 N k2) N l1 (0 : Int32) h else k44 h)) n
theorem x_M_layTills_l2 (N : Nat) {d : Nat} (hd : 2 ≤ d) {Q : ai_Q} {R : sh_H → Prop} (hR : ∀ h, R h → Q none (sh_E h))  (k44 : sh_H → Option sh_H) (hk44 : ∀ {d0 d1 d2 : Option ai_V} (h : sh_H), sh_ok (k44 h) R → wq_277 d Q 44 [d0, d1, d2] [] (sh_E h)) (n : Nat) : ∀ (l1 : Int32) {d2 : Option ai_V} (h : sh_H), sh_ok (f_M_layTills_l2 N k44 n l1 h) R → wq_277 d Q 2 [oR 12 0, oI l1, d2] [] (sh_E h) := by
  induction n with
  | zero => intro l1 d2 h H; exact H.elim
  | succ n ih =>
    intro l1 d2 h H
    have hk2 := @ih
    revert hk2 H
    show sh_ok ((fun k2 l1 h => (if l1 < (5 : Int32) then f_M_layTills_l9 N (f_M_layTills_b38 N k2) N l1 (0 : Int32) h else k44 h)) (f_M_layTills_l2 N k44 n) l1 h) R → _
    generalize f_M_layTills_l2 N k44 n = k2
    intro H hk2
    refine ai_WP_steps mc_277 (sh_CM d) 3 (And.intro (fun c => ?_) (fun c => ?_))
    · replace H := sh_okT c H
      show wq_277 d Q 7 [oR 12 0, oI l1, _] [] (sh_E h)
      refine ai_WP_steps mc_277 (sh_CM d) 2 ?_
      exact x_M_layTills_l9 N hd hR (f_M_layTills_b38 N k2) (fun z0 {e2} h H => x_M_layTills_b38 N hd hR k2 hk2 z0 h H) N l1 (0 : Int32) h H
    · replace H := sh_okF c H
      exact hk44 h H
def f_M_layTills_b44 (N : Nat)    (h : sh_H) : Option sh_H := (some h)
theorem x_M_layTills_b44 (N : Nat) {d : Nat} (hd : 2 ≤ d) {Q : ai_Q} {R : sh_H → Prop} (hR : ∀ h, R h → Q none (sh_E h))    {d0 d1 d2 : Option ai_V} (h : sh_H) (H : sh_ok (f_M_layTills_b44 N h) R) : wq_277 d Q 44 [d0, d1, d2] [] (sh_E h) := by
  exact ai_WP_steps mc_277 (sh_CM d) 1 (hR h H)
def f_M_layTills (N : Nat)   (h : sh_H) : Option sh_H := f_M_layTills_l2 N (f_M_layTills_b44 N) N (0 : Int32) h
theorem x_M_layTills (N : Nat) {d : Nat} (hd : 3 ≤ d)  (h : sh_H) {Q : ai_Q} {R : sh_H → Prop} (H : sh_ok (f_M_layTills N h) R) (hR : ∀ h, R h → Q none (sh_E h)) : ai_Ex sh_T d 277 [aR 12 0] (sh_E h) Q := by
  obtain ⟨d, rfl⟩ : ∃ e, d = e + 1 := ⟨d - 1, by omega⟩
  replace hd : 2 ≤ d := by omega
  refine And.intro (Nat.le_of_ble_eq_true rfl) ?_
  show wq_277 d Q 0 [oR 12 0, none, none] [] (sh_E h)
  refine ai_WP_steps mc_277 (sh_CM d) 2 ?_
  exact x_M_layTills_l2 N hd hR (f_M_layTills_b44 N) (fun {e0} {e1} {e2} h H => x_M_layTills_b44 N hd hR  h H) N (0 : Int32) h H
def f_M_judgeAll_l32 (N : Nat)  (k50 : Int32 → sh_H → Option sh_H) (n : Nat) : Int32 → Int32 → sh_H → Option sh_H := Nat.rec (motive := fun _ => Int32 → Int32 → sh_H → Option sh_H) (fun _ _ _ => none) (fun _ k32 l1 l2 h => (if l2 < (5 : Int32) then (if ai_in l2 5 then (sh_let (sh_pI h 13 52 l2.toNatClampNeg (0 : Int32)) (fun h1 => k32 l1 (l2 + (1 : Int32)) h1)) else none) else k50 l1 h)) n
theorem x_M_judgeAll_l32 (N : Nat) {d : Nat} (hd : 3 ≤ d) {Q : ai_Q} {R : sh_H → Prop} (hR : ∀ h, R h → Q none (sh_E h))  (k50 : Int32 → sh_H → Option sh_H) (hk50 : ∀ (l1 : Int32) {d2 d3 d4 d5 d6 : Option ai_V} (h : sh_H), sh_ok (k50 l1 h) R → wq_278 d Q 50 [oR 12 0, oI l1, d2, d3, d4, d5, d6] [] (sh_E h)) (n : Nat) : ∀ (l1 : Int32) (l2 : Int32) {d3 d4 d5 d6 : Option ai_V} (h : sh_H), sh_ok (f_M_judgeAll_l32 N k50 n l1 l2 h) R → wq_278 d Q 32 [oR 12 0, oI l1, oI l2, d3, d4, d5, d6] [] (sh_E h) := by
  induction n with
  | zero => intro l1 l2 d3 d4 d5 d6 h H; exact H.elim
  | succ n ih =>
    intro l1 l2 d3 d4 d5 d6 h H
    have hk32 := @ih
    revert hk32 H
    show sh_ok ((fun k32 l1 l2 h => (if l2 < (5 : Int32) then (if ai_in l2 5 then (sh_let (sh_pI h 13 52 l2.toNatClampNeg (0 : Int32)) (fun h1 => k32 l1 (l2 + (1 : Int32)) h1)) else none) else k50 l1 h)) (f_M_judgeAll_l32 N k50 n) l1 l2 h) R → _
    generalize f_M_judgeAll_l32 N k50 n = k32
    intro H hk32
    refine ai_WP_steps mc_278 (sh_CM d) 3 (And.intro (fun c => ?_) (fun c => ?_))
    · replace H := sh_okT c H
      show wq_278 d Q 37 [oR 12 0, oI l1, oI l2, _, _, _, _] [] (sh_E h)
      have c := sh_okG H
      replace H := sh_okH H
      refine ai_WP_steps mc_278 (sh_CM d) 5 (And.intro c ?_)
      show wq_278 d Q 44 [oR 12 0, oI l1, oI l2, _, _, _, _] [] (sh_E (sh_pI h 13 52 l2.toNatClampNeg (0 : Int32)))
      replace H := sh_okL H
      generalize sh_pI h 13 52 l2.toNatClampNeg (0 : Int32) = h1 at H ⊢
      refine ai_WP_steps mc_278 (sh_CM d) 2 ?_
      exact hk32 l1 (l2 + (1 : Int32)) h1 H
    · replace H := sh_okF c H
      exact hk50 l1 h H
def f_M_judgeAll_b270 (N : Nat)  (k52 : Int32 → Int32 → sh_H → Option sh_H) (l1 : Int32) (l2 : Int32) (h : sh_H) : Option sh_H := k52 l1 (l2 + (1 : Int32)) h
theorem x_M_judgeAll_b270 (N : Nat) {d : Nat} (hd : 3 ≤ d) {Q : ai_Q} {R : sh_H → Prop} (hR : ∀ h, R h → Q none (sh_E h))  (k52 : Int32 → Int32 → sh_H → Option sh_H) (hk52 : ∀ (l1 : Int32) (l2 : Int32) {d3 d4 d5 d6 : Option ai_V} (h : sh_H), sh_ok (k52 l1 l2 h) R → wq_278 d Q 52 [oR 12 0, oI l1, oI l2, d3, d4, d5, d6] [] (sh_E h)) (l1 : Int32) (l2 : Int32) {d3 d4 d5 d6 : Option ai_V} (h : sh_H) (H : sh_ok (f_M_judgeAll_b270 N k52 l1 l2 h) R) : wq_278 d Q 270 [oR 12 0, oI l1, oI l2, d3, d4, d5, d6] [] (sh_E h) := by
  refine ai_WP_steps mc_278 (sh_CM d) 2 ?_
  exact hk52 l1 (l2 + (1 : Int32)) h H
def f_M_judgeAll_b240 (N : Nat)  (k52 : Int32 → Int32 → sh_H → Option sh_H) (l1 : Int32) (l2 : Int32) (l3 : Int32) (l6 : Int32) (h : sh_H) : Option sh_H := (if ai_in (l3 + (2 : Int32)) 8000 then (if ai_in (((6 : Int32) * l6) + (h.1 13 46 (l3 + (2 : Int32)).toNatClampNeg)) 30 then (if ai_in (l3 + (3 : Int32)) 8000 then (if ai_in (((6 : Int32) * l6) + (h.1 13 46 (l3 + (2 : Int32)).toNatClampNeg)) 30 then (sh_let (sh_pI h 13 53 (((6 : Int32) * l6) + (h.1 13 46 (l3 + (2 : Int32)).toNatClampNeg)).toNatClampNeg ((h.1 13 53 (((6 : Int32) * l6) + (h.1 13 46 (l3 + (2 : Int32)).toNatClampNeg)).toNatClampNeg) + (h.1 13 46 (l3 + (3 : Int32)).toNatClampNeg))) (fun h2 => f_M_judgeAll_b270 N k52 l1 l2 h2)) else none) else none) else none) else none)
theorem x_M_judgeAll_b240 (N : Nat) {d : Nat} (hd : 3 ≤ d) {Q : ai_Q} {R : sh_H → Prop} (hR : ∀ h, R h → Q none (sh_E h))  (k52 : Int32 → Int32 → sh_H → Option sh_H) (hk52 : ∀ (l1 : Int32) (l2 : Int32) {d3 d4 d5 d6 : Option ai_V} (h : sh_H), sh_ok (k52 l1 l2 h) R → wq_278 d Q 52 [oR 12 0, oI l1, oI l2, d3, d4, d5, d6] [] (sh_E h)) (l1 : Int32) (l2 : Int32) (l3 : Int32) (l6 : Int32) {d4 d5 : Option ai_V} (h : sh_H) (H : sh_ok (f_M_judgeAll_b240 N k52 l1 l2 l3 l6 h) R) : wq_278 d Q 240 [oR 12 0, oI l1, oI l2, oI l3, d4, d5, oI l6] [] (sh_E h) := by
  have c := sh_okG H
  replace H := sh_okH H
  refine ai_WP_steps mc_278 (sh_CM d) 11 (And.intro c ?_)
  show wq_278 d Q 257 [oR 12 0, oI l1, oI l2, oI l3, _, _, oI l6] [aI (h.1 13 46 (l3 + (2 : Int32)).toNatClampNeg), aI ((6 : Int32) * l6), aR 13 53] (sh_E h)
  have c := sh_okG H
  replace H := sh_okH H
  refine ai_WP_steps mc_278 (sh_CM d) 3 (And.intro c ?_)
  show wq_278 d Q 260 [oR 12 0, oI l1, oI l2, oI l3, _, _, oI l6] [aI (h.1 13 53 (((6 : Int32) * l6) + (h.1 13 46 (l3 + (2 : Int32)).toNatClampNeg)).toNatClampNeg), aI (((6 : Int32) * l6) + (h.1 13 46 (l3 + (2 : Int32)).toNatClampNeg)), aR 13 53] (sh_E h)
  have c := sh_okG H
  replace H := sh_okH H
  refine ai_WP_steps mc_278 (sh_CM d) 6 (And.intro c ?_)
  show wq_278 d Q 268 [oR 12 0, oI l1, oI l2, oI l3, _, _, oI l6] [aI (h.1 13 46 (l3 + (3 : Int32)).toNatClampNeg), aI (h.1 13 53 (((6 : Int32) * l6) + (h.1 13 46 (l3 + (2 : Int32)).toNatClampNeg)).toNatClampNeg), aI (((6 : Int32) * l6) + (h.1 13 46 (l3 + (2 : Int32)).toNatClampNeg)), aR 13 53] (sh_E h)
  have c := sh_okG H
  replace H := sh_okH H
  refine ai_WP_steps mc_278 (sh_CM d) 2 (And.intro c ?_)
  show wq_278 d Q 270 [oR 12 0, oI l1, oI l2, oI l3, _, _, oI l6] [] (sh_E (sh_pI h 13 53 (((6 : Int32) * l6) + (h.1 13 46 (l3 + (2 : Int32)).toNatClampNeg)).toNatClampNeg ((h.1 13 53 (((6 : Int32) * l6) + (h.1 13 46 (l3 + (2 : Int32)).toNatClampNeg)).toNatClampNeg) + (h.1 13 46 (l3 + (3 : Int32)).toNatClampNeg))))
  replace H := sh_okL H
  generalize sh_pI h 13 53 (((6 : Int32) * l6) + (h.1 13 46 (l3 + (2 : Int32)).toNatClampNeg)).toNatClampNeg ((h.1 13 53 (((6 : Int32) * l6) + (h.1 13 46 (l3 + (2 : Int32)).toNatClampNeg)).toNatClampNeg) + (h.1 13 46 (l3 + (3 : Int32)).toNatClampNeg)) = h2 at H ⊢
  exact x_M_judgeAll_b270 N hd hR k52 hk52 l1 l2 h2 H
def f_M_judgeAll_b210 (N : Nat)  (k52 : Int32 → Int32 → sh_H → Option sh_H) (l1 : Int32) (l2 : Int32) (l3 : Int32) (l5 : Int32) (l6 : Int32) (h : sh_H) : Option sh_H := (if ai_in (l3 + (2 : Int32)) 8000 then (if ai_in (((6 : Int32) * l5) + (h.1 13 46 (l3 + (2 : Int32)).toNatClampNeg)) 30 then (if ai_in (l3 + (3 : Int32)) 8000 then (if ai_in (((6 : Int32) * l5) + (h.1 13 46 (l3 + (2 : Int32)).toNatClampNeg)) 30 then (sh_let (sh_pI h 13 53 (((6 : Int32) * l5) + (h.1 13 46 (l3 + (2 : Int32)).toNatClampNeg)).toNatClampNeg ((h.1 13 53 (((6 : Int32) * l5) + (h.1 13 46 (l3 + (2 : Int32)).toNatClampNeg)).toNatClampNeg) - (h.1 13 46 (l3 + (3 : Int32)).toNatClampNeg))) (fun h3 => f_M_judgeAll_b240 N k52 l1 l2 l3 l6 h3)) else none) else none) else none) else none)
theorem x_M_judgeAll_b210 (N : Nat) {d : Nat} (hd : 3 ≤ d) {Q : ai_Q} {R : sh_H → Prop} (hR : ∀ h, R h → Q none (sh_E h))  (k52 : Int32 → Int32 → sh_H → Option sh_H) (hk52 : ∀ (l1 : Int32) (l2 : Int32) {d3 d4 d5 d6 : Option ai_V} (h : sh_H), sh_ok (k52 l1 l2 h) R → wq_278 d Q 52 [oR 12 0, oI l1, oI l2, d3, d4, d5, d6] [] (sh_E h)) (l1 : Int32) (l2 : Int32) (l3 : Int32) (l5 : Int32) (l6 : Int32) {d4 : Option ai_V} (h : sh_H) (H : sh_ok (f_M_judgeAll_b210 N k52 l1 l2 l3 l5 l6 h) R) : wq_278 d Q 210 [oR 12 0, oI l1, oI l2, oI l3, d4, oI l5, oI l6] [] (sh_E h) := by
  have c := sh_okG H
  replace H := sh_okH H
  refine ai_WP_steps mc_278 (sh_CM d) 11 (And.intro c ?_)
  show wq_278 d Q 227 [oR 12 0, oI l1, oI l2, oI l3, _, oI l5, oI l6] [aI (h.1 13 46 (l3 + (2 : Int32)).toNatClampNeg), aI ((6 : Int32) * l5), aR 13 53] (sh_E h)
  have c := sh_okG H
  replace H := sh_okH H
  refine ai_WP_steps mc_278 (sh_CM d) 3 (And.intro c ?_)
  show wq_278 d Q 230 [oR 12 0, oI l1, oI l2, oI l3, _, oI l5, oI l6] [aI (h.1 13 53 (((6 : Int32) * l5) + (h.1 13 46 (l3 + (2 : Int32)).toNatClampNeg)).toNatClampNeg), aI (((6 : Int32) * l5) + (h.1 13 46 (l3 + (2 : Int32)).toNatClampNeg)), aR 13 53] (sh_E h)
  have c := sh_okG H
  replace H := sh_okH H
  refine ai_WP_steps mc_278 (sh_CM d) 6 (And.intro c ?_)
  show wq_278 d Q 238 [oR 12 0, oI l1, oI l2, oI l3, _, oI l5, oI l6] [aI (h.1 13 46 (l3 + (3 : Int32)).toNatClampNeg), aI (h.1 13 53 (((6 : Int32) * l5) + (h.1 13 46 (l3 + (2 : Int32)).toNatClampNeg)).toNatClampNeg), aI (((6 : Int32) * l5) + (h.1 13 46 (l3 + (2 : Int32)).toNatClampNeg)), aR 13 53] (sh_E h)
  have c := sh_okG H
  replace H := sh_okH H
  refine ai_WP_steps mc_278 (sh_CM d) 2 (And.intro c ?_)
  show wq_278 d Q 240 [oR 12 0, oI l1, oI l2, oI l3, _, oI l5, oI l6] [] (sh_E (sh_pI h 13 53 (((6 : Int32) * l5) + (h.1 13 46 (l3 + (2 : Int32)).toNatClampNeg)).toNatClampNeg ((h.1 13 53 (((6 : Int32) * l5) + (h.1 13 46 (l3 + (2 : Int32)).toNatClampNeg)).toNatClampNeg) - (h.1 13 46 (l3 + (3 : Int32)).toNatClampNeg))))
  replace H := sh_okL H
  generalize sh_pI h 13 53 (((6 : Int32) * l5) + (h.1 13 46 (l3 + (2 : Int32)).toNatClampNeg)).toNatClampNeg ((h.1 13 53 (((6 : Int32) * l5) + (h.1 13 46 (l3 + (2 : Int32)).toNatClampNeg)).toNatClampNeg) - (h.1 13 46 (l3 + (3 : Int32)).toNatClampNeg)) = h3 at H ⊢
  exact x_M_judgeAll_b240 N hd hR k52 hk52 l1 l2 l3 l6 h3 H
def f_M_judgeAll_b163 (N : Nat)  (k52 : Int32 → Int32 → sh_H → Option sh_H) (l1 : Int32) (l2 : Int32) (l3 : Int32) (l5 : Int32) (s0 : Int32) (h : sh_H) : Option sh_H := (if ai_in (l3 + (1 : Int32)) 8000 then (if ai_in (h.1 13 46 (l3 + (1 : Int32)).toNatClampNeg) 5 then (if ai_in (l3 + (3 : Int32)) 8000 then (if ai_in (l3 + (2 : Int32)) 8000 then (if ai_in (((20 : Int32) + ((3 : Int32) * (h.1 13 46 (l3 + (2 : Int32)).toNatClampNeg))) + (1 : Int32)) 8000 then (if ai_in (h.1 13 46 (l3 + (1 : Int32)).toNatClampNeg) 5 then (sh_let (sh_pI h 13 52 (h.1 13 46 (l3 + (1 : Int32)).toNatClampNeg).toNatClampNeg ((h.1 13 52 (h.1 13 46 (l3 + (1 : Int32)).toNatClampNeg).toNatClampNeg) + ((h.1 13 46 (l3 + (3 : Int32)).toNatClampNeg) * (h.1 13 46 (((20 : Int32) + ((3 : Int32) * (h.1 13 46 (l3 + (2 : Int32)).toNatClampNeg))) + (1 : Int32)).toNatClampNeg)))) (fun h4 => f_M_judgeAll_b210 N k52 l1 l2 l3 l5 s0 h4)) else none) else none) else none) else none) else none) else none)
theorem x_M_judgeAll_b163 (N : Nat) {d : Nat} (hd : 3 ≤ d) {Q : ai_Q} {R : sh_H → Prop} (hR : ∀ h, R h → Q none (sh_E h))  (k52 : Int32 → Int32 → sh_H → Option sh_H) (hk52 : ∀ (l1 : Int32) (l2 : Int32) {d3 d4 d5 d6 : Option ai_V} (h : sh_H), sh_ok (k52 l1 l2 h) R → wq_278 d Q 52 [oR 12 0, oI l1, oI l2, d3, d4, d5, d6] [] (sh_E h)) (l1 : Int32) (l2 : Int32) (l3 : Int32) (l5 : Int32) (s0 : Int32) {d4 d6 : Option ai_V} (h : sh_H) (H : sh_ok (f_M_judgeAll_b163 N k52 l1 l2 l3 l5 s0 h) R) : wq_278 d Q 163 [oR 12 0, oI l1, oI l2, oI l3, d4, oI l5, d6] [aI s0] (sh_E h) := by
  have c := sh_okG H
  replace H := sh_okH H
  refine ai_WP_steps mc_278 (sh_CM d) 9 (And.intro c ?_)
  show wq_278 d Q 177 [oR 12 0, oI l1, oI l2, oI l3, _, oI l5, oI s0] [aI (h.1 13 46 (l3 + (1 : Int32)).toNatClampNeg), aR 13 52] (sh_E h)
  have c := sh_okG H
  replace H := sh_okH H
  refine ai_WP_steps mc_278 (sh_CM d) 2 (And.intro c ?_)
  show wq_278 d Q 179 [oR 12 0, oI l1, oI l2, oI l3, _, oI l5, oI s0] [aI (h.1 13 52 (h.1 13 46 (l3 + (1 : Int32)).toNatClampNeg).toNatClampNeg), aI (h.1 13 46 (l3 + (1 : Int32)).toNatClampNeg), aR 13 52] (sh_E h)
  have c := sh_okG H
  replace H := sh_okH H
  refine ai_WP_steps mc_278 (sh_CM d) 6 (And.intro c ?_)
  show wq_278 d Q 187 [oR 12 0, oI l1, oI l2, oI l3, _, oI l5, oI s0] [aI (h.1 13 46 (l3 + (3 : Int32)).toNatClampNeg), aI (h.1 13 52 (h.1 13 46 (l3 + (1 : Int32)).toNatClampNeg).toNatClampNeg), aI (h.1 13 46 (l3 + (1 : Int32)).toNatClampNeg), aR 13 52] (sh_E h)
  have c := sh_okG H
  replace H := sh_okH H
  refine ai_WP_steps mc_278 (sh_CM d) 10 (And.intro c ?_)
  show wq_278 d Q 202 [oR 12 0, oI l1, oI l2, oI l3, _, oI l5, oI s0] [aI (h.1 13 46 (l3 + (2 : Int32)).toNatClampNeg), aI (3 : Int32), aI (20 : Int32), aR 13 46, aI (h.1 13 46 (l3 + (3 : Int32)).toNatClampNeg), aI (h.1 13 52 (h.1 13 46 (l3 + (1 : Int32)).toNatClampNeg).toNatClampNeg), aI (h.1 13 46 (l3 + (1 : Int32)).toNatClampNeg), aR 13 52] (sh_E h)
  have c := sh_okG H
  replace H := sh_okH H
  refine ai_WP_steps mc_278 (sh_CM d) 5 (And.intro c ?_)
  show wq_278 d Q 207 [oR 12 0, oI l1, oI l2, oI l3, _, oI l5, oI s0] [aI (h.1 13 46 (((20 : Int32) + ((3 : Int32) * (h.1 13 46 (l3 + (2 : Int32)).toNatClampNeg))) + (1 : Int32)).toNatClampNeg), aI (h.1 13 46 (l3 + (3 : Int32)).toNatClampNeg), aI (h.1 13 52 (h.1 13 46 (l3 + (1 : Int32)).toNatClampNeg).toNatClampNeg), aI (h.1 13 46 (l3 + (1 : Int32)).toNatClampNeg), aR 13 52] (sh_E h)
  have c := sh_okG H
  replace H := sh_okH H
  refine ai_WP_steps mc_278 (sh_CM d) 3 (And.intro c ?_)
  show wq_278 d Q 210 [oR 12 0, oI l1, oI l2, oI l3, _, oI l5, oI s0] [] (sh_E (sh_pI h 13 52 (h.1 13 46 (l3 + (1 : Int32)).toNatClampNeg).toNatClampNeg ((h.1 13 52 (h.1 13 46 (l3 + (1 : Int32)).toNatClampNeg).toNatClampNeg) + ((h.1 13 46 (l3 + (3 : Int32)).toNatClampNeg) * (h.1 13 46 (((20 : Int32) + ((3 : Int32) * (h.1 13 46 (l3 + (2 : Int32)).toNatClampNeg))) + (1 : Int32)).toNatClampNeg)))))
  replace H := sh_okL H
  generalize sh_pI h 13 52 (h.1 13 46 (l3 + (1 : Int32)).toNatClampNeg).toNatClampNeg ((h.1 13 52 (h.1 13 46 (l3 + (1 : Int32)).toNatClampNeg).toNatClampNeg) + ((h.1 13 46 (l3 + (3 : Int32)).toNatClampNeg) * (h.1 13 46 (((20 : Int32) + ((3 : Int32) * (h.1 13 46 (l3 + (2 : Int32)).toNatClampNeg))) + (1 : Int32)).toNatClampNeg))) = h4 at H ⊢
  exact x_M_judgeAll_b210 N hd hR k52 hk52 l1 l2 l3 l5 s0 h4 H
def f_M_judgeAll_b137 (N : Nat)  (k52 : Int32 → Int32 → sh_H → Option sh_H) (l1 : Int32) (l2 : Int32) (l3 : Int32) (s0 : Int32) (h : sh_H) : Option sh_H := (if ai_in (l3 + (4 : Int32)) 8000 then (if (h.1 13 46 (l3 + (4 : Int32)).toNatClampNeg) = (1 : Int32) then f_M_judgeAll_b163 N k52 l1 l2 l3 s0 (0 : Int32) h else (if ai_in (l3 + (1 : Int32)) 8000 then f_M_judgeAll_b163 N k52 l1 l2 l3 s0 (h.1 13 46 (l3 + (1 : Int32)).toNatClampNeg) h else none)) else none)
theorem x_M_judgeAll_b137 (N : Nat) {d : Nat} (hd : 3 ≤ d) {Q : ai_Q} {R : sh_H → Prop} (hR : ∀ h, R h → Q none (sh_E h))  (k52 : Int32 → Int32 → sh_H → Option sh_H) (hk52 : ∀ (l1 : Int32) (l2 : Int32) {d3 d4 d5 d6 : Option ai_V} (h : sh_H), sh_ok (k52 l1 l2 h) R → wq_278 d Q 52 [oR 12 0, oI l1, oI l2, d3, d4, d5, d6] [] (sh_E h)) (l1 : Int32) (l2 : Int32) (l3 : Int32) (s0 : Int32) {d4 d5 d6 : Option ai_V} (h : sh_H) (H : sh_ok (f_M_judgeAll_b137 N k52 l1 l2 l3 s0 h) R) : wq_278 d Q 137 [oR 12 0, oI l1, oI l2, oI l3, d4, d5, d6] [aI s0] (sh_E h) := by
  have c := sh_okG H
  replace H := sh_okH H
  refine ai_WP_steps mc_278 (sh_CM d) 7 (And.intro c ?_)
  show wq_278 d Q 147 [oR 12 0, oI l1, oI l2, oI l3, _, oI s0, _] [aI (h.1 13 46 (l3 + (4 : Int32)).toNatClampNeg)] (sh_E h)
  refine ai_WP_steps mc_278 (sh_CM d) 2 (And.intro (fun c => ?_) (fun c => ?_))
  · replace H := sh_okT c H
    show wq_278 d Q 151 [oR 12 0, oI l1, oI l2, oI l3, _, oI s0, _] [] (sh_E h)
    refine ai_WP_steps mc_278 (sh_CM d) 2 ?_
    exact x_M_judgeAll_b163 N hd hR k52 hk52 l1 l2 l3 s0 (0 : Int32) h H
  · replace H := sh_okF c H
    show wq_278 d Q 155 [oR 12 0, oI l1, oI l2, oI l3, _, oI s0, _] [] (sh_E h)
    have c := sh_okG H
    replace H := sh_okH H
    refine ai_WP_steps mc_278 (sh_CM d) 6 (And.intro c ?_)
    show wq_278 d Q 163 [oR 12 0, oI l1, oI l2, oI l3, _, oI s0, _] [aI (h.1 13 46 (l3 + (1 : Int32)).toNatClampNeg)] (sh_E h)
    exact x_M_judgeAll_b163 N hd hR k52 hk52 l1 l2 l3 s0 (h.1 13 46 (l3 + (1 : Int32)).toNatClampNeg) h H
def f_M_judgeAll_l52 (N : Nat)  (k101 : Int32 → Int32 → sh_H → Option sh_H) (k276 : Int32 → sh_H → Option sh_H) (n : Nat) : Int32 → Int32 → sh_H → Option sh_H := Nat.rec (motive := fun _ => Int32 → Int32 → sh_H → Option sh_H) (fun _ _ _ => none) (fun _ k52 l1 l2 h => (if ai_in (7 : Int32) 8000 then (if l2 < (h.1 13 46 (7 : Int32).toNatClampNeg) then (if ai_in ((310 : Int32) + ((6 : Int32) * l2)) 8000 then (if (h.1 13 46 ((310 : Int32) + ((6 : Int32) * l2)).toNatClampNeg) = l1 then (if ¬ (12 : Int32) = 0 then (Option.bind (f_M_reason N ((310 : Int32) + ((6 : Int32) * l2)) (l1 - l1 / (12 : Int32) * (12 : Int32)) h) (fun v5 => (if 0 < v5 then k101 l2 v5 h else (if ai_in (((310 : Int32) + ((6 : Int32) * l2)) + (4 : Int32)) 8000 then (if (h.1 13 46 (((310 : Int32) + ((6 : Int32) * l2)) + (4 : Int32)).toNatClampNeg) = (1 : Int32) then (if ai_in (((310 : Int32) + ((6 : Int32) * l2)) + (1 : Int32)) 8000 then f_M_judgeAll_b137 N k52 l1 l2 ((310 : Int32) + ((6 : Int32) * l2)) (h.1 13 46 (((310 : Int32) + ((6 : Int32) * l2)) + (1 : Int32)).toNatClampNeg) h else none) else f_M_judgeAll_b137 N k52 l1 l2 ((310 : Int32) + ((6 : Int32) * l2)) (0 : Int32) h) else none)))) else none) else f_M_judgeAll_b270 N k52 l1 l2 h) else none) else k276 l1 h) else none)) n
theorem x_M_judgeAll_l52 (N : Nat) {d : Nat} (hd : 3 ≤ d) {Q : ai_Q} {R : sh_H → Prop} (hR : ∀ h, R h → Q none (sh_E h))  (k101 : Int32 → Int32 → sh_H → Option sh_H) (hk101 : ∀ (l2 : Int32) (l4 : Int32) {d1 d3 d5 d6 : Option ai_V} (h : sh_H), sh_ok (k101 l2 l4 h) R → wq_278 d Q 101 [oR 12 0, d1, oI l2, d3, oI l4, d5, d6] [] (sh_E h)) (k276 : Int32 → sh_H → Option sh_H) (hk276 : ∀ (l1 : Int32) {d2 d3 d4 d5 d6 : Option ai_V} (h : sh_H), sh_ok (k276 l1 h) R → wq_278 d Q 276 [oR 12 0, oI l1, d2, d3, d4, d5, d6] [] (sh_E h)) (n : Nat) : ∀ (l1 : Int32) (l2 : Int32) {d3 d4 d5 d6 : Option ai_V} (h : sh_H), sh_ok (f_M_judgeAll_l52 N k101 k276 n l1 l2 h) R → wq_278 d Q 52 [oR 12 0, oI l1, oI l2, d3, d4, d5, d6] [] (sh_E h) := by
  induction n with
  | zero => intro l1 l2 d3 d4 d5 d6 h H; exact H.elim
  | succ n ih =>
    intro l1 l2 d3 d4 d5 d6 h H
    have hk52 := @ih
    revert hk52 H
    show sh_ok ((fun k52 l1 l2 h => (if ai_in (7 : Int32) 8000 then (if l2 < (h.1 13 46 (7 : Int32).toNatClampNeg) then (if ai_in ((310 : Int32) + ((6 : Int32) * l2)) 8000 then (if (h.1 13 46 ((310 : Int32) + ((6 : Int32) * l2)).toNatClampNeg) = l1 then (if ¬ (12 : Int32) = 0 then (Option.bind (f_M_reason N ((310 : Int32) + ((6 : Int32) * l2)) (l1 - l1 / (12 : Int32) * (12 : Int32)) h) (fun v5 => (if 0 < v5 then k101 l2 v5 h else (if ai_in (((310 : Int32) + ((6 : Int32) * l2)) + (4 : Int32)) 8000 then (if (h.1 13 46 (((310 : Int32) + ((6 : Int32) * l2)) + (4 : Int32)).toNatClampNeg) = (1 : Int32) then (if ai_in (((310 : Int32) + ((6 : Int32) * l2)) + (1 : Int32)) 8000 then f_M_judgeAll_b137 N k52 l1 l2 ((310 : Int32) + ((6 : Int32) * l2)) (h.1 13 46 (((310 : Int32) + ((6 : Int32) * l2)) + (1 : Int32)).toNatClampNeg) h else none) else f_M_judgeAll_b137 N k52 l1 l2 ((310 : Int32) + ((6 : Int32) * l2)) (0 : Int32) h) else none)))) else none) else f_M_judgeAll_b270 N k52 l1 l2 h) else none) else k276 l1 h) else none)) (f_M_judgeAll_l52 N k101 k276 n) l1 l2 h) R → _
    generalize f_M_judgeAll_l52 N k101 k276 n = k52
    intro H hk52
    have c := sh_okG H
    replace H := sh_okH H
    refine ai_WP_steps mc_278 (sh_CM d) 5 (And.intro c ?_)
    show wq_278 d Q 60 [oR 12 0, oI l1, oI l2, _, _, _, _] [aI (h.1 13 46 (7 : Int32).toNatClampNeg), aI l2] (sh_E h)
    refine ai_WP_steps mc_278 (sh_CM d) 1 (And.intro (fun c => ?_) (fun c => ?_))
    · replace H := sh_okT c H
      show wq_278 d Q 63 [oR 12 0, oI l1, oI l2, _, _, _, _] [] (sh_E h)
      have c := sh_okG H
      replace H := sh_okH H
      refine ai_WP_steps mc_278 (sh_CM d) 10 (And.intro c ?_)
      show wq_278 d Q 78 [oR 12 0, oI l1, oI l2, oI ((310 : Int32) + ((6 : Int32) * l2)), _, _, _] [aI (h.1 13 46 ((310 : Int32) + ((6 : Int32) * l2)).toNatClampNeg)] (sh_E h)
      refine ai_WP_steps mc_278 (sh_CM d) 2 (And.intro (fun c => ?_) (fun c => ?_))
      · replace H := sh_okT c H
        show wq_278 d Q 85 [oR 12 0, oI l1, oI l2, oI ((310 : Int32) + ((6 : Int32) * l2)), _, _, _] [] (sh_E h)
        have c := sh_okG H
        replace H := sh_okH H
        refine ai_WP_steps mc_278 (sh_CM d) 5 (And.intro c ?_)
        show wq_278 d Q 91 [oR 12 0, oI l1, oI l2, oI ((310 : Int32) + ((6 : Int32) * l2)), _, _, _] [aI (l1 - l1 / (12 : Int32) * (12 : Int32)), aI ((310 : Int32) + ((6 : Int32) * l2)), aR 12 0] (sh_E h)
        refine ai_WP_steps mc_278 (sh_CM d) 1 (And.intro (Nat.le_of_ble_eq_true rfl) (x_M_reason N (Nat.le_trans (Nat.le_of_ble_eq_true rfl) hd) ((310 : Int32) + ((6 : Int32) * l2)) (l1 - l1 / (12 : Int32) * (12 : Int32)) h (sh_okB H) (fun v5 H => ?_)))
        show wq_278 d Q 94 [oR 12 0, oI l1, oI l2, oI ((310 : Int32) + ((6 : Int32) * l2)), _, _, _] [aI v5] (sh_E h)
        refine ai_WP_steps mc_278 (sh_CM d) 3 (And.intro (fun c => ?_) (fun c => ?_))
        · replace H := sh_okT c H
          exact hk101 l2 v5 h H
        · replace H := sh_okF c H
          show wq_278 d Q 113 [oR 12 0, oI l1, oI l2, oI ((310 : Int32) + ((6 : Int32) * l2)), oI v5, _, _] [] (sh_E h)
          have c := sh_okG H
          replace H := sh_okH H
          refine ai_WP_steps mc_278 (sh_CM d) 6 (And.intro c ?_)
          show wq_278 d Q 121 [oR 12 0, oI l1, oI l2, oI ((310 : Int32) + ((6 : Int32) * l2)), oI v5, _, _] [aI (h.1 13 46 (((310 : Int32) + ((6 : Int32) * l2)) + (4 : Int32)).toNatClampNeg)] (sh_E h)
          refine ai_WP_steps mc_278 (sh_CM d) 2 (And.intro (fun c => ?_) (fun c => ?_))
          · replace H := sh_okT c H
            show wq_278 d Q 125 [oR 12 0, oI l1, oI l2, oI ((310 : Int32) + ((6 : Int32) * l2)), oI v5, _, _] [] (sh_E h)
            have c := sh_okG H
            replace H := sh_okH H
            refine ai_WP_steps mc_278 (sh_CM d) 6 (And.intro c ?_)
            show wq_278 d Q 133 [oR 12 0, oI l1, oI l2, oI ((310 : Int32) + ((6 : Int32) * l2)), oI v5, _, _] [aI (h.1 13 46 (((310 : Int32) + ((6 : Int32) * l2)) + (1 : Int32)).toNatClampNeg)] (sh_E h)
            refine ai_WP_steps mc_278 (sh_CM d) 1 ?_
            exact x_M_judgeAll_b137 N hd hR k52 hk52 l1 l2 ((310 : Int32) + ((6 : Int32) * l2)) (h.1 13 46 (((310 : Int32) + ((6 : Int32) * l2)) + (1 : Int32)).toNatClampNeg) h H
          · replace H := sh_okF c H
            show wq_278 d Q 136 [oR 12 0, oI l1, oI l2, oI ((310 : Int32) + ((6 : Int32) * l2)), oI v5, _, _] [] (sh_E h)
            refine ai_WP_steps mc_278 (sh_CM d) 1 ?_
            exact x_M_judgeAll_b137 N hd hR k52 hk52 l1 l2 ((310 : Int32) + ((6 : Int32) * l2)) (0 : Int32) h H
      · replace H := sh_okF c H
        show wq_278 d Q 82 [oR 12 0, oI l1, oI l2, oI ((310 : Int32) + ((6 : Int32) * l2)), _, _, _] [] (sh_E h)
        refine ai_WP_steps mc_278 (sh_CM d) 1 ?_
        exact x_M_judgeAll_b270 N hd hR k52 hk52 l1 l2 h H
    · replace H := sh_okF c H
      exact hk276 l1 h H
def f_M_judgeAll_b276 (N : Nat)  (k23 : Int32 → sh_H → Option sh_H) (l1 : Int32) (h : sh_H) : Option sh_H := k23 (l1 + (1 : Int32)) h
theorem x_M_judgeAll_b276 (N : Nat) {d : Nat} (hd : 3 ≤ d) {Q : ai_Q} {R : sh_H → Prop} (hR : ∀ h, R h → Q none (sh_E h))  (k23 : Int32 → sh_H → Option sh_H) (hk23 : ∀ (l1 : Int32) {d2 d3 d4 d5 d6 : Option ai_V} (h : sh_H), sh_ok (k23 l1 h) R → wq_278 d Q 23 [oR 12 0, oI l1, d2, d3, d4, d5, d6] [] (sh_E h)) (l1 : Int32) {d2 d3 d4 d5 d6 : Option ai_V} (h : sh_H) (H : sh_ok (f_M_judgeAll_b276 N k23 l1 h) R) : wq_278 d Q 276 [oR 12 0, oI l1, d2, d3, d4, d5, d6] [] (sh_E h) := by
  refine ai_WP_steps mc_278 (sh_CM d) 2 ?_
  exact hk23 (l1 + (1 : Int32)) h H
def f_M_judgeAll_b50 (N : Nat)  (k23 : Int32 → sh_H → Option sh_H) (k101 : Int32 → Int32 → sh_H → Option sh_H) (l1 : Int32) (h : sh_H) : Option sh_H := f_M_judgeAll_l52 N k101 (f_M_judgeAll_b276 N k23) N l1 (0 : Int32) h
theorem x_M_judgeAll_b50 (N : Nat) {d : Nat} (hd : 3 ≤ d) {Q : ai_Q} {R : sh_H → Prop} (hR : ∀ h, R h → Q none (sh_E h))  (k23 : Int32 → sh_H → Option sh_H) (hk23 : ∀ (l1 : Int32) {d2 d3 d4 d5 d6 : Option ai_V} (h : sh_H), sh_ok (k23 l1 h) R → wq_278 d Q 23 [oR 12 0, oI l1, d2, d3, d4, d5, d6] [] (sh_E h)) (k101 : Int32 → Int32 → sh_H → Option sh_H) (hk101 : ∀ (l2 : Int32) (l4 : Int32) {d1 d3 d5 d6 : Option ai_V} (h : sh_H), sh_ok (k101 l2 l4 h) R → wq_278 d Q 101 [oR 12 0, d1, oI l2, d3, oI l4, d5, d6] [] (sh_E h)) (l1 : Int32) {d2 d3 d4 d5 d6 : Option ai_V} (h : sh_H) (H : sh_ok (f_M_judgeAll_b50 N k23 k101 l1 h) R) : wq_278 d Q 50 [oR 12 0, oI l1, d2, d3, d4, d5, d6] [] (sh_E h) := by
  refine ai_WP_steps mc_278 (sh_CM d) 2 ?_
  exact x_M_judgeAll_l52 N hd hR k101 hk101 (f_M_judgeAll_b276 N k23) (fun z0 {e2} {e3} {e4} {e5} {e6} h H => x_M_judgeAll_b276 N hd hR k23 hk23 z0 h H) N l1 (0 : Int32) h H
def f_M_judgeAll_l23 (N : Nat)  (k101 : Int32 → Int32 → sh_H → Option sh_H) (k282 : sh_H → Option sh_H) (n : Nat) : Int32 → sh_H → Option sh_H := Nat.rec (motive := fun _ => Int32 → sh_H → Option sh_H) (fun _ _ => none) (fun _ k23 l1 h => (if l1 < (240 : Int32) then f_M_judgeAll_l32 N (f_M_judgeAll_b50 N k23 k101) N l1 (0 : Int32) h else k282 h)) n
theorem x_M_judgeAll_l23 (N : Nat) {d : Nat} (hd : 3 ≤ d) {Q : ai_Q} {R : sh_H → Prop} (hR : ∀ h, R h → Q none (sh_E h))  (k101 : Int32 → Int32 → sh_H → Option sh_H) (hk101 : ∀ (l2 : Int32) (l4 : Int32) {d1 d3 d5 d6 : Option ai_V} (h : sh_H), sh_ok (k101 l2 l4 h) R → wq_278 d Q 101 [oR 12 0, d1, oI l2, d3, oI l4, d5, d6] [] (sh_E h)) (k282 : sh_H → Option sh_H) (hk282 : ∀ {d0 d1 d2 d3 d4 d5 d6 : Option ai_V} (h : sh_H), sh_ok (k282 h) R → wq_278 d Q 282 [d0, d1, d2, d3, d4, d5, d6] [] (sh_E h)) (n : Nat) : ∀ (l1 : Int32) {d2 d3 d4 d5 d6 : Option ai_V} (h : sh_H), sh_ok (f_M_judgeAll_l23 N k101 k282 n l1 h) R → wq_278 d Q 23 [oR 12 0, oI l1, d2, d3, d4, d5, d6] [] (sh_E h) := by
  induction n with
  | zero => intro l1 d2 d3 d4 d5 d6 h H; exact H.elim
  | succ n ih =>
    intro l1 d2 d3 d4 d5 d6 h H
    have hk23 := @ih
    revert hk23 H
    show sh_ok ((fun k23 l1 h => (if l1 < (240 : Int32) then f_M_judgeAll_l32 N (f_M_judgeAll_b50 N k23 k101) N l1 (0 : Int32) h else k282 h)) (f_M_judgeAll_l23 N k101 k282 n) l1 h) R → _
    generalize f_M_judgeAll_l23 N k101 k282 n = k23
    intro H hk23
    refine ai_WP_steps mc_278 (sh_CM d) 3 (And.intro (fun c => ?_) (fun c => ?_))
    · replace H := sh_okT c H
      show wq_278 d Q 30 [oR 12 0, oI l1, _, _, _, _, _] [] (sh_E h)
      refine ai_WP_steps mc_278 (sh_CM d) 2 ?_
      exact x_M_judgeAll_l32 N hd hR (f_M_judgeAll_b50 N k23 k101) (fun z0 {e2} {e3} {e4} {e5} {e6} h H => x_M_judgeAll_b50 N hd hR k23 hk23 k101 hk101 z0 h H) N l1 (0 : Int32) h H
    · replace H := sh_okF c H
      exact hk282 h H
def f_M_judgeAll_b101 (N : Nat)   (l2 : Int32) (l4 : Int32) (h : sh_H) : Option sh_H := (sh_let (sh_pI h 12 0 27 l2) (fun h6 => (sh_let (sh_pI h6 12 0 28 l4) (fun h7 => (some h7)))))
theorem x_M_judgeAll_b101 (N : Nat) {d : Nat} (hd : 3 ≤ d) {Q : ai_Q} {R : sh_H → Prop} (hR : ∀ h, R h → Q none (sh_E h))   (l2 : Int32) (l4 : Int32) {d1 d3 d5 d6 : Option ai_V} (h : sh_H) (H : sh_ok (f_M_judgeAll_b101 N l2 l4 h) R) : wq_278 d Q 101 [oR 12 0, d1, oI l2, d3, oI l4, d5, d6] [] (sh_E h) := by
  refine ai_WP_steps mc_278 (sh_CM d) 3 (And.intro trivial ?_)
  show wq_278 d Q 106 [oR 12 0, _, oI l2, _, oI l4, _, _] [] (sh_E (sh_pI h 12 0 27 l2))
  replace H := sh_okL H
  generalize sh_pI h 12 0 27 l2 = h6 at H ⊢
  refine ai_WP_steps mc_278 (sh_CM d) 3 (And.intro trivial ?_)
  show wq_278 d Q 112 [oR 12 0, _, oI l2, _, oI l4, _, _] [] (sh_E (sh_pI h6 12 0 28 l4))
  replace H := sh_okL H
  generalize sh_pI h6 12 0 28 l4 = h7 at H ⊢
  exact ai_WP_steps mc_278 (sh_CM d) 1 (hR h7 H)
def f_M_judgeAll_b282 (N : Nat)    (h : sh_H) : Option sh_H := (some h)
theorem x_M_judgeAll_b282 (N : Nat) {d : Nat} (hd : 3 ≤ d) {Q : ai_Q} {R : sh_H → Prop} (hR : ∀ h, R h → Q none (sh_E h))    {d0 d1 d2 d3 d4 d5 d6 : Option ai_V} (h : sh_H) (H : sh_ok (f_M_judgeAll_b282 N h) R) : wq_278 d Q 282 [d0, d1, d2, d3, d4, d5, d6] [] (sh_E h) := by
  exact ai_WP_steps mc_278 (sh_CM d) 1 (hR h H)
def f_M_judgeAll (N : Nat)   (h : sh_H) : Option sh_H := (Option.bind (f_M_layTills N h) (fun h8 => (sh_let (sh_pI h8 12 0 27 (-2 : Int32)) (fun h9 => (sh_let (sh_pI h9 12 0 28 (0 : Int32)) (fun h10 => (if ai_in (9 : Int32) 8000 then f_M_judgeAll_l23 N (f_M_judgeAll_b101 N) (f_M_judgeAll_b282 N) N (h10.1 13 46 (9 : Int32).toNatClampNeg) h10 else none)))))))
theorem x_M_judgeAll (N : Nat) {d : Nat} (hd : 4 ≤ d)  (h : sh_H) {Q : ai_Q} {R : sh_H → Prop} (H : sh_ok (f_M_judgeAll N h) R) (hR : ∀ h, R h → Q none (sh_E h)) : ai_Ex sh_T d 278 [aR 12 0] (sh_E h) Q := by
  obtain ⟨d, rfl⟩ : ∃ e, d = e + 1 := ⟨d - 1, by omega⟩
  replace hd : 3 ≤ d := by omega
  refine And.intro (Nat.le_of_ble_eq_true rfl) ?_
  show wq_278 d Q 0 [oR 12 0, none, none, none, none, none, none] [] (sh_E h)
  refine ai_WP_steps mc_278 (sh_CM d) 2 (And.intro (Nat.le_of_ble_eq_true rfl) (x_M_layTills N (Nat.le_trans (Nat.le_of_ble_eq_true rfl) hd) h (sh_okB H) (fun h8 H => ?_)))
  show wq_278 d Q 4 [oR 12 0, _, _, _, _, _, _] [] (sh_E h8)
  refine ai_WP_steps mc_278 (sh_CM d) 3 (And.intro trivial ?_)
  show wq_278 d Q 10 [oR 12 0, _, _, _, _, _, _] [] (sh_E (sh_pI h8 12 0 27 (-2 : Int32)))
  replace H := sh_okL H
  generalize sh_pI h8 12 0 27 (-2 : Int32) = h9 at H ⊢
  refine ai_WP_steps mc_278 (sh_CM d) 3 (And.intro trivial ?_)
  show wq_278 d Q 15 [oR 12 0, _, _, _, _, _, _] [] (sh_E (sh_pI h9 12 0 28 (0 : Int32)))
  replace H := sh_okL H
  generalize sh_pI h9 12 0 28 (0 : Int32) = h10 at H ⊢
  have c := sh_okG H
  replace H := sh_okH H
  refine ai_WP_steps mc_278 (sh_CM d) 4 (And.intro c ?_)
  show wq_278 d Q 22 [oR 12 0, _, _, _, _, _, _] [aI (h10.1 13 46 (9 : Int32).toNatClampNeg)] (sh_E h10)
  refine ai_WP_steps mc_278 (sh_CM d) 1 ?_
  exact x_M_judgeAll_l23 N hd hR (f_M_judgeAll_b101 N) (fun z0 z1 {e1} {e3} {e5} {e6} h H => x_M_judgeAll_b101 N hd hR z0 z1 h H) (f_M_judgeAll_b282 N) (fun {e0} {e1} {e2} {e3} {e4} {e5} {e6} h H => x_M_judgeAll_b282 N hd hR  h H) N (h10.1 13 46 (9 : Int32).toNatClampNeg) h10 H
def f_M_judge (N : Nat)   (h : sh_H) : Option (Int32 × sh_H) := (Option.bind (f_M_judgeAll N h) (fun h1 => (some ((h1.1 12 0 27), h1))))
theorem x_M_judge (N : Nat) {d : Nat} (hd : 5 ≤ d)  (h : sh_H) {Q : ai_Q} {R : Int32 × sh_H → Prop} (H : sh_ok (f_M_judge N h) R) (hR : ∀ r h, R (r, h) → Q (some (aI r)) (sh_E h)) : ai_Ex sh_T d 279 [aR 12 0] (sh_E h) Q := by
  obtain ⟨d, rfl⟩ : ∃ e, d = e + 1 := ⟨d - 1, by omega⟩
  replace hd : 4 ≤ d := by omega
  refine And.intro (Nat.le_of_ble_eq_true rfl) ?_
  show wq_279 d Q 0 [oR 12 0] [] (sh_E h)
  refine ai_WP_steps mc_279 (sh_CM d) 2 (And.intro (Nat.le_of_ble_eq_true rfl) (x_M_judgeAll N (Nat.le_trans (Nat.le_of_ble_eq_true rfl) hd) h (sh_okB H) (fun h1 H => ?_)))
  show wq_279 d Q 4 [oR 12 0] [] (sh_E h1)
  exact ai_WP_steps mc_279 (sh_CM d) 3 (hR (h1.1 12 0 27) h1 H)
def f_M_why (N : Nat)   (h : sh_H) : Option (Int32 × sh_H) := (Option.bind (f_M_judgeAll N h) (fun h1 => (some ((h1.1 12 0 28), h1))))
theorem x_M_why (N : Nat) {d : Nat} (hd : 5 ≤ d)  (h : sh_H) {Q : ai_Q} {R : Int32 × sh_H → Prop} (H : sh_ok (f_M_why N h) R) (hR : ∀ r h, R (r, h) → Q (some (aI r)) (sh_E h)) : ai_Ex sh_T d 280 [aR 12 0] (sh_E h) Q := by
  obtain ⟨d, rfl⟩ : ∃ e, d = e + 1 := ⟨d - 1, by omega⟩
  replace hd : 4 ≤ d := by omega
  refine And.intro (Nat.le_of_ble_eq_true rfl) ?_
  show wq_280 d Q 0 [oR 12 0] [] (sh_E h)
  refine ai_WP_steps mc_280 (sh_CM d) 2 (And.intro (Nat.le_of_ble_eq_true rfl) (x_M_judgeAll N (Nat.le_trans (Nat.le_of_ble_eq_true rfl) hd) h (sh_okB H) (fun h1 H => ?_)))
  show wq_280 d Q 4 [oR 12 0] [] (sh_E h1)
  exact ai_WP_steps mc_280 (sh_CM d) 3 (hR (h1.1 12 0 28) h1 H)
def f_M_mixed  (l0 : Int32) (l1 : Int32) (h : sh_H) : Option Int32 := (some ((((l0 ^^^ l1) * (1103515245 : Int32)) + (12345 : Int32)) ^^^ (sh_us (((l0 ^^^ l1) * (1103515245 : Int32)) + (12345 : Int32)) (15 : Int32))))
theorem x_M_mixed {d : Nat} (hd : 1 ≤ d) (l0 : Int32) (l1 : Int32) (h : sh_H) {Q : ai_Q} {R : Int32 → Prop} (H : sh_ok (f_M_mixed l0 l1 h) R) (hR : ∀ r, R r → Q (some (aI r)) (sh_E h)) : ai_Ex sh_T d 281 [aI l0, aI l1] (sh_E h) Q := by
  obtain ⟨d, rfl⟩ : ∃ e, d = e + 1 := ⟨d - 1, by omega⟩
  replace hd : 0 ≤ d := by omega
  refine And.intro (Nat.le_of_ble_eq_true rfl) ?_
  show wq_281 d Q 0 [oI l0, oI l1, none] [] (sh_E h)
  exact ai_WP_steps mc_281 (sh_CM d) 14 (hR ((((l0 ^^^ l1) * (1103515245 : Int32)) + (12345 : Int32)) ^^^ (sh_us (((l0 ^^^ l1) * (1103515245 : Int32)) + (12345 : Int32)) (15 : Int32))) H)
def f_M_lot  (l0 : Int32) (l1 : Int32) (l2 : Int32) (h : sh_H) : Option Int32 := (Option.bind (f_M_mixed l0 (15 : Int32) h) (fun v1 => (Option.bind (f_M_mixed v1 l1 h) (fun v2 => (if ¬ l2 = 0 then (some ((sh_us v2 (1 : Int32)) - (sh_us v2 (1 : Int32)) / l2 * l2)) else none)))))
theorem x_M_lot {d : Nat} (hd : 2 ≤ d) (l0 : Int32) (l1 : Int32) (l2 : Int32) (h : sh_H) {Q : ai_Q} {R : Int32 → Prop} (H : sh_ok (f_M_lot l0 l1 l2 h) R) (hR : ∀ r, R r → Q (some (aI r)) (sh_E h)) : ai_Ex sh_T d 282 [aI l0, aI l1, aI l2] (sh_E h) Q := by
  obtain ⟨d, rfl⟩ : ∃ e, d = e + 1 := ⟨d - 1, by omega⟩
  replace hd : 1 ≤ d := by omega
  refine And.intro (Nat.le_of_ble_eq_true rfl) ?_
  show wq_282 d Q 0 [oI l0, oI l1, oI l2] [] (sh_E h)
  refine ai_WP_steps mc_282 (sh_CM d) 3 (And.intro (Nat.le_of_ble_eq_true rfl) (x_M_mixed (Nat.le_trans (Nat.le_of_ble_eq_true rfl) hd) l0 (15 : Int32) h (sh_okB H) (fun v1 H => ?_)))
  show wq_282 d Q 6 [oI l0, oI l1, oI l2] [aI v1] (sh_E h)
  refine ai_WP_steps mc_282 (sh_CM d) 2 (And.intro (Nat.le_of_ble_eq_true rfl) (x_M_mixed (Nat.le_trans (Nat.le_of_ble_eq_true rfl) hd) v1 l1 h (sh_okB H) (fun v2 H => ?_)))
  show wq_282 d Q 10 [oI l0, oI l1, oI l2] [aI v2] (sh_E h)
  have c := sh_okG H
  replace H := sh_okH H
  refine ai_WP_steps mc_282 (sh_CM d) 4 (And.intro c ?_)
  show wq_282 d Q 14 [oI l0, oI l1, oI l2] [aI ((sh_us v2 (1 : Int32)) - (sh_us v2 (1 : Int32)) / l2 * l2)] (sh_E h)
  exact ai_WP_steps mc_282 (sh_CM d) 1 (hR ((sh_us v2 (1 : Int32)) - (sh_us v2 (1 : Int32)) / l2 * l2) H)
def f_M_sends_l2 (N : Nat)  (k20 : Int32 → Int32 → sh_H → Option sh_H) (n : Nat) : Int32 → Int32 → Int32 → sh_H → Option sh_H := Nat.rec (motive := fun _ => Int32 → Int32 → Int32 → sh_H → Option sh_H) (fun _ _ _ _ => none) (fun _ k2 l1 l2 l3 h => (if l3 < (5 : Int32) then (if ai_in l3 5 then (sh_let (sh_pI h 13 52 l3.toNatClampNeg (0 : Int32)) (fun h1 => k2 l1 l2 (l3 + (1 : Int32)) h1)) else none) else k20 l1 l2 h)) n
theorem x_M_sends_l2 (N : Nat) {d : Nat} (hd : 3 ≤ d) {Q : ai_Q} {R : sh_H → Prop} (hR : ∀ h, R h → Q none (sh_E h))  (k20 : Int32 → Int32 → sh_H → Option sh_H) (hk20 : ∀ (l1 : Int32) (l2 : Int32) {d3 d4 d5 d6 d7 d8 : Option ai_V} (h : sh_H), sh_ok (k20 l1 l2 h) R → wq_283 d Q 20 [oR 12 0, oI l1, oI l2, d3, d4, d5, d6, d7, d8] [] (sh_E h)) (n : Nat) : ∀ (l1 : Int32) (l2 : Int32) (l3 : Int32) {d4 d5 d6 d7 d8 : Option ai_V} (h : sh_H), sh_ok (f_M_sends_l2 N k20 n l1 l2 l3 h) R → wq_283 d Q 2 [oR 12 0, oI l1, oI l2, oI l3, d4, d5, d6, d7, d8] [] (sh_E h) := by
  induction n with
  | zero => intro l1 l2 l3 d4 d5 d6 d7 d8 h H; exact H.elim
  | succ n ih =>
    intro l1 l2 l3 d4 d5 d6 d7 d8 h H
    have hk2 := @ih
    revert hk2 H
    show sh_ok ((fun k2 l1 l2 l3 h => (if l3 < (5 : Int32) then (if ai_in l3 5 then (sh_let (sh_pI h 13 52 l3.toNatClampNeg (0 : Int32)) (fun h1 => k2 l1 l2 (l3 + (1 : Int32)) h1)) else none) else k20 l1 l2 h)) (f_M_sends_l2 N k20 n) l1 l2 l3 h) R → _
    generalize f_M_sends_l2 N k20 n = k2
    intro H hk2
    refine ai_WP_steps mc_283 (sh_CM d) 3 (And.intro (fun c => ?_) (fun c => ?_))
    · replace H := sh_okT c H
      show wq_283 d Q 7 [oR 12 0, oI l1, oI l2, oI l3, _, _, _, _, _] [] (sh_E h)
      have c := sh_okG H
      replace H := sh_okH H
      refine ai_WP_steps mc_283 (sh_CM d) 5 (And.intro c ?_)
      show wq_283 d Q 14 [oR 12 0, oI l1, oI l2, oI l3, _, _, _, _, _] [] (sh_E (sh_pI h 13 52 l3.toNatClampNeg (0 : Int32)))
      replace H := sh_okL H
      generalize sh_pI h 13 52 l3.toNatClampNeg (0 : Int32) = h1 at H ⊢
      refine ai_WP_steps mc_283 (sh_CM d) 2 ?_
      exact hk2 l1 l2 (l3 + (1 : Int32)) h1 H
    · replace H := sh_okF c H
      exact hk20 l1 l2 h H
def f_M_sends_b261 (N : Nat)  (k22 : Int32 → Int32 → Int32 → sh_H → Option sh_H) (l1 : Int32) (l2 : Int32) (l3 : Int32) (h : sh_H) : Option sh_H := k22 l1 l2 (l3 + (1 : Int32)) h
theorem x_M_sends_b261 (N : Nat) {d : Nat} (hd : 3 ≤ d) {Q : ai_Q} {R : sh_H → Prop} (hR : ∀ h, R h → Q none (sh_E h))  (k22 : Int32 → Int32 → Int32 → sh_H → Option sh_H) (hk22 : ∀ (l1 : Int32) (l2 : Int32) (l3 : Int32) {d4 d5 d6 d7 d8 : Option ai_V} (h : sh_H), sh_ok (k22 l1 l2 l3 h) R → wq_283 d Q 22 [oR 12 0, oI l1, oI l2, oI l3, d4, d5, d6, d7, d8] [] (sh_E h)) (l1 : Int32) (l2 : Int32) (l3 : Int32) {d4 d5 d6 d7 d8 : Option ai_V} (h : sh_H) (H : sh_ok (f_M_sends_b261 N k22 l1 l2 l3 h) R) : wq_283 d Q 261 [oR 12 0, oI l1, oI l2, oI l3, d4, d5, d6, d7, d8] [] (sh_E h) := by
  refine ai_WP_steps mc_283 (sh_CM d) 2 ?_
  exact hk22 l1 l2 (l3 + (1 : Int32)) h H
def f_M_sends_b238 (N : Nat)  (k22 : Int32 → Int32 → Int32 → sh_H → Option sh_H) (l1 : Int32) (l2 : Int32) (l3 : Int32) (l4 : Int32) (l8 : Int32) (s1 : Int32) (s2 : Int32) (h : sh_H) : Option sh_H := (if ai_in (l4 + (2 : Int32)) 8000 then (if ai_in (l4 + (3 : Int32)) 8000 then (Option.bind (f_M_go N s1 s2 (h.1 13 46 (l4 + (2 : Int32)).toNatClampNeg) (h.1 13 46 (l4 + (3 : Int32)).toNatClampNeg) l8 h) (fun h2 => f_M_sends_b261 N k22 l1 l2 l3 h2)) else none) else none)
theorem x_M_sends_b238 (N : Nat) {d : Nat} (hd : 3 ≤ d) {Q : ai_Q} {R : sh_H → Prop} (hR : ∀ h, R h → Q none (sh_E h))  (k22 : Int32 → Int32 → Int32 → sh_H → Option sh_H) (hk22 : ∀ (l1 : Int32) (l2 : Int32) (l3 : Int32) {d4 d5 d6 d7 d8 : Option ai_V} (h : sh_H), sh_ok (k22 l1 l2 l3 h) R → wq_283 d Q 22 [oR 12 0, oI l1, oI l2, oI l3, d4, d5, d6, d7, d8] [] (sh_E h)) (l1 : Int32) (l2 : Int32) (l3 : Int32) (l4 : Int32) (l8 : Int32) (s1 : Int32) (s2 : Int32) {d5 d6 d7 : Option ai_V} (h : sh_H) (H : sh_ok (f_M_sends_b238 N k22 l1 l2 l3 l4 l8 s1 s2 h) R) : wq_283 d Q 238 [oR 12 0, oI l1, oI l2, oI l3, oI l4, d5, d6, d7, oI l8] [aI s2, aI s1, aR 12 0] (sh_E h) := by
  have c := sh_okG H
  replace H := sh_okH H
  refine ai_WP_steps mc_283 (sh_CM d) 6 (And.intro c ?_)
  show wq_283 d Q 247 [oR 12 0, oI l1, oI l2, oI l3, oI l4, _, _, _, oI l8] [aI (h.1 13 46 (l4 + (2 : Int32)).toNatClampNeg), aI s2, aI s1, aR 12 0] (sh_E h)
  have c := sh_okG H
  replace H := sh_okH H
  refine ai_WP_steps mc_283 (sh_CM d) 6 (And.intro c ?_)
  show wq_283 d Q 256 [oR 12 0, oI l1, oI l2, oI l3, oI l4, _, _, _, oI l8] [aI (h.1 13 46 (l4 + (3 : Int32)).toNatClampNeg), aI (h.1 13 46 (l4 + (2 : Int32)).toNatClampNeg), aI s2, aI s1, aR 12 0] (sh_E h)
  refine ai_WP_steps mc_283 (sh_CM d) 2 (And.intro (Nat.le_of_ble_eq_true rfl) (x_M_go N (Nat.le_trans (Nat.le_of_ble_eq_true rfl) hd) s1 s2 (h.1 13 46 (l4 + (2 : Int32)).toNatClampNeg) (h.1 13 46 (l4 + (3 : Int32)).toNatClampNeg) l8 h (sh_okB H) (fun h2 H => ?_)))
  show wq_283 d Q 261 [oR 12 0, oI l1, oI l2, oI l3, oI l4, _, _, _, oI l8] [] (sh_E h2)
  exact x_M_sends_b261 N hd hR k22 hk22 l1 l2 l3 h2 H
def f_M_sends_b227 (N : Nat)  (k22 : Int32 → Int32 → Int32 → sh_H → Option sh_H) (l1 : Int32) (l2 : Int32) (l3 : Int32) (l4 : Int32) (l5 : Int32) (l8 : Int32) (s1 : Int32) (h : sh_H) : Option sh_H := (if l8 = 0 then f_M_sends_b238 N k22 l1 l2 l3 l4 l8 s1 l5 h else f_M_sends_b238 N k22 l1 l2 l3 l4 l8 s1 (0 : Int32) h)
theorem x_M_sends_b227 (N : Nat) {d : Nat} (hd : 3 ≤ d) {Q : ai_Q} {R : sh_H → Prop} (hR : ∀ h, R h → Q none (sh_E h))  (k22 : Int32 → Int32 → Int32 → sh_H → Option sh_H) (hk22 : ∀ (l1 : Int32) (l2 : Int32) (l3 : Int32) {d4 d5 d6 d7 d8 : Option ai_V} (h : sh_H), sh_ok (k22 l1 l2 l3 h) R → wq_283 d Q 22 [oR 12 0, oI l1, oI l2, oI l3, d4, d5, d6, d7, d8] [] (sh_E h)) (l1 : Int32) (l2 : Int32) (l3 : Int32) (l4 : Int32) (l5 : Int32) (l8 : Int32) (s1 : Int32) {d6 d7 : Option ai_V} (h : sh_H) (H : sh_ok (f_M_sends_b227 N k22 l1 l2 l3 l4 l5 l8 s1 h) R) : wq_283 d Q 227 [oR 12 0, oI l1, oI l2, oI l3, oI l4, oI l5, d6, d7, oI l8] [aI s1, aR 12 0] (sh_E h) := by
  refine ai_WP_steps mc_283 (sh_CM d) 2 (And.intro (fun c => ?_) (fun c => ?_))
  · replace H := sh_okT c H
    show wq_283 d Q 236 [oR 12 0, oI l1, oI l2, oI l3, oI l4, oI l5, _, _, oI l8] [aI s1, aR 12 0] (sh_E h)
    refine ai_WP_steps mc_283 (sh_CM d) 1 ?_
    exact x_M_sends_b238 N hd hR k22 hk22 l1 l2 l3 l4 l8 s1 l5 h H
  · replace H := sh_okF c H
    show wq_283 d Q 232 [oR 12 0, oI l1, oI l2, oI l3, oI l4, oI l5, _, _, oI l8] [aI s1, aR 12 0] (sh_E h)
    refine ai_WP_steps mc_283 (sh_CM d) 2 ?_
    exact x_M_sends_b238 N hd hR k22 hk22 l1 l2 l3 l4 l8 s1 (0 : Int32) h H
def f_M_sends_b213 (N : Nat)  (k22 : Int32 → Int32 → Int32 → sh_H → Option sh_H) (l1 : Int32) (l2 : Int32) (l3 : Int32) (l4 : Int32) (l5 : Int32) (s0 : Int32) (h : sh_H) : Option sh_H := (if s0 = 0 then f_M_sends_b227 N k22 l1 l2 l3 l4 l5 s0 (0 : Int32) h else f_M_sends_b227 N k22 l1 l2 l3 l4 l5 s0 l5 h)
theorem x_M_sends_b213 (N : Nat) {d : Nat} (hd : 3 ≤ d) {Q : ai_Q} {R : sh_H → Prop} (hR : ∀ h, R h → Q none (sh_E h))  (k22 : Int32 → Int32 → Int32 → sh_H → Option sh_H) (hk22 : ∀ (l1 : Int32) (l2 : Int32) (l3 : Int32) {d4 d5 d6 d7 d8 : Option ai_V} (h : sh_H), sh_ok (k22 l1 l2 l3 h) R → wq_283 d Q 22 [oR 12 0, oI l1, oI l2, oI l3, d4, d5, d6, d7, d8] [] (sh_E h)) (l1 : Int32) (l2 : Int32) (l3 : Int32) (l4 : Int32) (l5 : Int32) (s0 : Int32) {d6 d7 d8 : Option ai_V} (h : sh_H) (H : sh_ok (f_M_sends_b213 N k22 l1 l2 l3 l4 l5 s0 h) R) : wq_283 d Q 213 [oR 12 0, oI l1, oI l2, oI l3, oI l4, oI l5, d6, d7, d8] [aI s0] (sh_E h) := by
  refine ai_WP_steps mc_283 (sh_CM d) 4 (And.intro (fun c => ?_) (fun c => ?_))
  · replace H := sh_okT c H
    show wq_283 d Q 226 [oR 12 0, oI l1, oI l2, oI l3, oI l4, oI l5, _, _, oI s0] [aR 12 0] (sh_E h)
    refine ai_WP_steps mc_283 (sh_CM d) 1 ?_
    exact x_M_sends_b227 N hd hR k22 hk22 l1 l2 l3 l4 l5 s0 (0 : Int32) h H
  · replace H := sh_okF c H
    show wq_283 d Q 221 [oR 12 0, oI l1, oI l2, oI l3, oI l4, oI l5, _, _, oI s0] [aR 12 0] (sh_E h)
    refine ai_WP_steps mc_283 (sh_CM d) 2 ?_
    exact x_M_sends_b227 N hd hR k22 hk22 l1 l2 l3 l4 l5 s0 l5 h H
def f_M_sends_b135 (N : Nat)  (k22 : Int32 → Int32 → Int32 → sh_H → Option sh_H) (l1 : Int32) (l2 : Int32) (l3 : Int32) (l4 : Int32) (l5 : Int32) (l7 : Int32) (h : sh_H) : Option sh_H := (if ai_in (l4 + (5 : Int32)) 8000 then (sh_let (sh_pI h 13 46 (l4 + (5 : Int32)).toNatClampNeg l7) (fun h3 => (if 0 < l7 then f_M_sends_b261 N k22 l1 l2 l3 h3 else (if ai_in l5 5 then (if ai_in (l4 + (3 : Int32)) 8000 then (if ai_in (l4 + (2 : Int32)) 8000 then (if ai_in (((20 : Int32) + ((3 : Int32) * (h3.1 13 46 (l4 + (2 : Int32)).toNatClampNeg))) + (1 : Int32)) 8000 then (if ai_in l5 5 then (sh_let (sh_pI h3 13 52 l5.toNatClampNeg ((h3.1 13 52 l5.toNatClampNeg) + ((h3.1 13 46 (l4 + (3 : Int32)).toNatClampNeg) * (h3.1 13 46 (((20 : Int32) + ((3 : Int32) * (h3.1 13 46 (l4 + (2 : Int32)).toNatClampNeg))) + (1 : Int32)).toNatClampNeg)))) (fun h4 => (if ai_in (l4 + (4 : Int32)) 8000 then (if (h4.1 13 46 (l4 + (4 : Int32)).toNatClampNeg) = (1 : Int32) then f_M_sends_b213 N k22 l1 l2 l3 l4 l5 (1 : Int32) h4 else f_M_sends_b213 N k22 l1 l2 l3 l4 l5 (0 : Int32) h4) else none))) else none) else none) else none) else none) else none)))) else none)
theorem x_M_sends_b135 (N : Nat) {d : Nat} (hd : 3 ≤ d) {Q : ai_Q} {R : sh_H → Prop} (hR : ∀ h, R h → Q none (sh_E h))  (k22 : Int32 → Int32 → Int32 → sh_H → Option sh_H) (hk22 : ∀ (l1 : Int32) (l2 : Int32) (l3 : Int32) {d4 d5 d6 d7 d8 : Option ai_V} (h : sh_H), sh_ok (k22 l1 l2 l3 h) R → wq_283 d Q 22 [oR 12 0, oI l1, oI l2, oI l3, d4, d5, d6, d7, d8] [] (sh_E h)) (l1 : Int32) (l2 : Int32) (l3 : Int32) (l4 : Int32) (l5 : Int32) (l7 : Int32) {d6 d8 : Option ai_V} (h : sh_H) (H : sh_ok (f_M_sends_b135 N k22 l1 l2 l3 l4 l5 l7 h) R) : wq_283 d Q 135 [oR 12 0, oI l1, oI l2, oI l3, oI l4, oI l5, d6, oI l7, d8] [] (sh_E h) := by
  have c := sh_okG H
  replace H := sh_okH H
  refine ai_WP_steps mc_283 (sh_CM d) 7 (And.intro c ?_)
  show wq_283 d Q 146 [oR 12 0, oI l1, oI l2, oI l3, oI l4, oI l5, _, oI l7, _] [] (sh_E (sh_pI h 13 46 (l4 + (5 : Int32)).toNatClampNeg l7))
  replace H := sh_okL H
  generalize sh_pI h 13 46 (l4 + (5 : Int32)).toNatClampNeg l7 = h3 at H ⊢
  refine ai_WP_steps mc_283 (sh_CM d) 2 (And.intro (fun c => ?_) (fun c => ?_))
  · replace H := sh_okT c H
    show wq_283 d Q 151 [oR 12 0, oI l1, oI l2, oI l3, oI l4, oI l5, _, oI l7, _] [] (sh_E h3)
    refine ai_WP_steps mc_283 (sh_CM d) 1 ?_
    exact x_M_sends_b261 N hd hR k22 hk22 l1 l2 l3 h3 H
  · replace H := sh_okF c H
    show wq_283 d Q 154 [oR 12 0, oI l1, oI l2, oI l3, oI l4, oI l5, _, oI l7, _] [] (sh_E h3)
    have c := sh_okG H
    replace H := sh_okH H
    refine ai_WP_steps mc_283 (sh_CM d) 5 (And.intro c ?_)
    show wq_283 d Q 162 [oR 12 0, oI l1, oI l2, oI l3, oI l4, oI l5, _, oI l7, _] [aI (h3.1 13 52 l5.toNatClampNeg), aI l5, aR 13 52] (sh_E h3)
    have c := sh_okG H
    replace H := sh_okH H
    refine ai_WP_steps mc_283 (sh_CM d) 6 (And.intro c ?_)
    show wq_283 d Q 171 [oR 12 0, oI l1, oI l2, oI l3, oI l4, oI l5, _, oI l7, _] [aI (h3.1 13 46 (l4 + (3 : Int32)).toNatClampNeg), aI (h3.1 13 52 l5.toNatClampNeg), aI l5, aR 13 52] (sh_E h3)
    have c := sh_okG H
    replace H := sh_okH H
    refine ai_WP_steps mc_283 (sh_CM d) 10 (And.intro c ?_)
    show wq_283 d Q 187 [oR 12 0, oI l1, oI l2, oI l3, oI l4, oI l5, _, oI l7, _] [aI (h3.1 13 46 (l4 + (2 : Int32)).toNatClampNeg), aI (3 : Int32), aI (20 : Int32), aR 13 46, aI (h3.1 13 46 (l4 + (3 : Int32)).toNatClampNeg), aI (h3.1 13 52 l5.toNatClampNeg), aI l5, aR 13 52] (sh_E h3)
    have c := sh_okG H
    replace H := sh_okH H
    refine ai_WP_steps mc_283 (sh_CM d) 5 (And.intro c ?_)
    show wq_283 d Q 192 [oR 12 0, oI l1, oI l2, oI l3, oI l4, oI l5, _, oI l7, _] [aI (h3.1 13 46 (((20 : Int32) + ((3 : Int32) * (h3.1 13 46 (l4 + (2 : Int32)).toNatClampNeg))) + (1 : Int32)).toNatClampNeg), aI (h3.1 13 46 (l4 + (3 : Int32)).toNatClampNeg), aI (h3.1 13 52 l5.toNatClampNeg), aI l5, aR 13 52] (sh_E h3)
    have c := sh_okG H
    replace H := sh_okH H
    refine ai_WP_steps mc_283 (sh_CM d) 3 (And.intro c ?_)
    show wq_283 d Q 195 [oR 12 0, oI l1, oI l2, oI l3, oI l4, oI l5, _, oI l7, _] [] (sh_E (sh_pI h3 13 52 l5.toNatClampNeg ((h3.1 13 52 l5.toNatClampNeg) + ((h3.1 13 46 (l4 + (3 : Int32)).toNatClampNeg) * (h3.1 13 46 (((20 : Int32) + ((3 : Int32) * (h3.1 13 46 (l4 + (2 : Int32)).toNatClampNeg))) + (1 : Int32)).toNatClampNeg)))))
    replace H := sh_okL H
    generalize sh_pI h3 13 52 l5.toNatClampNeg ((h3.1 13 52 l5.toNatClampNeg) + ((h3.1 13 46 (l4 + (3 : Int32)).toNatClampNeg) * (h3.1 13 46 (((20 : Int32) + ((3 : Int32) * (h3.1 13 46 (l4 + (2 : Int32)).toNatClampNeg))) + (1 : Int32)).toNatClampNeg))) = h4 at H ⊢
    have c := sh_okG H
    replace H := sh_okH H
    refine ai_WP_steps mc_283 (sh_CM d) 6 (And.intro c ?_)
    show wq_283 d Q 204 [oR 12 0, oI l1, oI l2, oI l3, oI l4, oI l5, _, oI l7, _] [aI (h4.1 13 46 (l4 + (4 : Int32)).toNatClampNeg)] (sh_E h4)
    refine ai_WP_steps mc_283 (sh_CM d) 2 (And.intro (fun c => ?_) (fun c => ?_))
    · replace H := sh_okT c H
      show wq_283 d Q 208 [oR 12 0, oI l1, oI l2, oI l3, oI l4, oI l5, _, oI l7, _] [] (sh_E h4)
      refine ai_WP_steps mc_283 (sh_CM d) 2 ?_
      exact x_M_sends_b213 N hd hR k22 hk22 l1 l2 l3 l4 l5 (1 : Int32) h4 H
    · replace H := sh_okF c H
      show wq_283 d Q 212 [oR 12 0, oI l1, oI l2, oI l3, oI l4, oI l5, _, oI l7, _] [] (sh_E h4)
      refine ai_WP_steps mc_283 (sh_CM d) 1 ?_
      exact x_M_sends_b213 N hd hR k22 hk22 l1 l2 l3 l4 l5 (0 : Int32) h4 H
def f_M_sends_l22 (N : Nat)  (k267 : Int32 → sh_H → Option sh_H) (n : Nat) : Int32 → Int32 → Int32 → sh_H → Option sh_H := Nat.rec (motive := fun _ => Int32 → Int32 → Int32 → sh_H → Option sh_H) (fun _ _ _ _ => none) (fun _ k22 l1 l2 l3 h => (if ai_in (7 : Int32) 8000 then (if l3 < (h.1 13 46 (7 : Int32).toNatClampNeg) then (if ai_in ((310 : Int32) + ((6 : Int32) * l3)) 8000 then (if (h.1 13 46 ((310 : Int32) + ((6 : Int32) * l3)).toNatClampNeg) = l2 then (if ai_in (((310 : Int32) + ((6 : Int32) * l3)) + (1 : Int32)) 8000 then (if ¬ (12 : Int32) = 0 then (Option.bind (f_M_boatOf N (h.1 13 46 (((310 : Int32) + ((6 : Int32) * l3)) + (1 : Int32)).toNatClampNeg) (l2 - l2 / (12 : Int32) * (12 : Int32)) h) (fun v5 => (Option.bind (f_M_layTills N h) (fun h6 => (if ¬ (12 : Int32) = 0 then (Option.bind (f_M_reason N ((310 : Int32) + ((6 : Int32) * l3)) (l2 - l2 / (12 : Int32) * (12 : Int32)) h6) (fun v7 => (if v5 < 0 then f_M_sends_b135 N k22 l1 l2 l3 ((310 : Int32) + ((6 : Int32) * l3)) (h.1 13 46 (((310 : Int32) + ((6 : Int32) * l3)) + (1 : Int32)).toNatClampNeg) v7 h6 else (Option.bind (f_M_lot l1 (((40 : Int32) * l2) + v5) (10 : Int32) h6) (fun v8 => (if ai_in (((250 : Int32) + ((5 : Int32) * v5)) + (4 : Int32)) 8000 then (if v8 < (h6.1 13 46 (((250 : Int32) + ((5 : Int32) * v5)) + (4 : Int32)).toNatClampNeg) then f_M_sends_b135 N k22 l1 l2 l3 ((310 : Int32) + ((6 : Int32) * l3)) (h.1 13 46 (((310 : Int32) + ((6 : Int32) * l3)) + (1 : Int32)).toNatClampNeg) (2 : Int32) h6 else f_M_sends_b135 N k22 l1 l2 l3 ((310 : Int32) + ((6 : Int32) * l3)) (h.1 13 46 (((310 : Int32) + ((6 : Int32) * l3)) + (1 : Int32)).toNatClampNeg) v7 h6) else none)))))) else none))))) else none) else none) else f_M_sends_b261 N k22 l1 l2 l3 h) else none) else k267 l2 h) else none)) n
theorem x_M_sends_l22 (N : Nat) {d : Nat} (hd : 3 ≤ d) {Q : ai_Q} {R : sh_H → Prop} (hR : ∀ h, R h → Q none (sh_E h))  (k267 : Int32 → sh_H → Option sh_H) (hk267 : ∀ (l2 : Int32) {d1 d3 d4 d5 d6 d7 d8 : Option ai_V} (h : sh_H), sh_ok (k267 l2 h) R → wq_283 d Q 267 [oR 12 0, d1, oI l2, d3, d4, d5, d6, d7, d8] [] (sh_E h)) (n : Nat) : ∀ (l1 : Int32) (l2 : Int32) (l3 : Int32) {d4 d5 d6 d7 d8 : Option ai_V} (h : sh_H), sh_ok (f_M_sends_l22 N k267 n l1 l2 l3 h) R → wq_283 d Q 22 [oR 12 0, oI l1, oI l2, oI l3, d4, d5, d6, d7, d8] [] (sh_E h) := by
  induction n with
  | zero => intro l1 l2 l3 d4 d5 d6 d7 d8 h H; exact H.elim
  | succ n ih =>
    intro l1 l2 l3 d4 d5 d6 d7 d8 h H
    have hk22 := @ih
    revert hk22 H
    show sh_ok ((fun k22 l1 l2 l3 h => (if ai_in (7 : Int32) 8000 then (if l3 < (h.1 13 46 (7 : Int32).toNatClampNeg) then (if ai_in ((310 : Int32) + ((6 : Int32) * l3)) 8000 then (if (h.1 13 46 ((310 : Int32) + ((6 : Int32) * l3)).toNatClampNeg) = l2 then (if ai_in (((310 : Int32) + ((6 : Int32) * l3)) + (1 : Int32)) 8000 then (if ¬ (12 : Int32) = 0 then (Option.bind (f_M_boatOf N (h.1 13 46 (((310 : Int32) + ((6 : Int32) * l3)) + (1 : Int32)).toNatClampNeg) (l2 - l2 / (12 : Int32) * (12 : Int32)) h) (fun v5 => (Option.bind (f_M_layTills N h) (fun h6 => (if ¬ (12 : Int32) = 0 then (Option.bind (f_M_reason N ((310 : Int32) + ((6 : Int32) * l3)) (l2 - l2 / (12 : Int32) * (12 : Int32)) h6) (fun v7 => (if v5 < 0 then f_M_sends_b135 N k22 l1 l2 l3 ((310 : Int32) + ((6 : Int32) * l3)) (h.1 13 46 (((310 : Int32) + ((6 : Int32) * l3)) + (1 : Int32)).toNatClampNeg) v7 h6 else (Option.bind (f_M_lot l1 (((40 : Int32) * l2) + v5) (10 : Int32) h6) (fun v8 => (if ai_in (((250 : Int32) + ((5 : Int32) * v5)) + (4 : Int32)) 8000 then (if v8 < (h6.1 13 46 (((250 : Int32) + ((5 : Int32) * v5)) + (4 : Int32)).toNatClampNeg) then f_M_sends_b135 N k22 l1 l2 l3 ((310 : Int32) + ((6 : Int32) * l3)) (h.1 13 46 (((310 : Int32) + ((6 : Int32) * l3)) + (1 : Int32)).toNatClampNeg) (2 : Int32) h6 else f_M_sends_b135 N k22 l1 l2 l3 ((310 : Int32) + ((6 : Int32) * l3)) (h.1 13 46 (((310 : Int32) + ((6 : Int32) * l3)) + (1 : Int32)).toNatClampNeg) v7 h6) else none)))))) else none))))) else none) else none) else f_M_sends_b261 N k22 l1 l2 l3 h) else none) else k267 l2 h) else none)) (f_M_sends_l22 N k267 n) l1 l2 l3 h) R → _
    generalize f_M_sends_l22 N k267 n = k22
    intro H hk22
    have c := sh_okG H
    replace H := sh_okH H
    refine ai_WP_steps mc_283 (sh_CM d) 5 (And.intro c ?_)
    show wq_283 d Q 30 [oR 12 0, oI l1, oI l2, oI l3, _, _, _, _, _] [aI (h.1 13 46 (7 : Int32).toNatClampNeg), aI l3] (sh_E h)
    refine ai_WP_steps mc_283 (sh_CM d) 1 (And.intro (fun c => ?_) (fun c => ?_))
    · replace H := sh_okT c H
      show wq_283 d Q 33 [oR 12 0, oI l1, oI l2, oI l3, _, _, _, _, _] [] (sh_E h)
      have c := sh_okG H
      replace H := sh_okH H
      refine ai_WP_steps mc_283 (sh_CM d) 10 (And.intro c ?_)
      show wq_283 d Q 50 [oR 12 0, oI l1, oI l2, oI l3, oI ((310 : Int32) + ((6 : Int32) * l3)), _, _, _, _] [aI (h.1 13 46 ((310 : Int32) + ((6 : Int32) * l3)).toNatClampNeg)] (sh_E h)
      refine ai_WP_steps mc_283 (sh_CM d) 2 (And.intro (fun c => ?_) (fun c => ?_))
      · replace H := sh_okT c H
        show wq_283 d Q 57 [oR 12 0, oI l1, oI l2, oI l3, oI ((310 : Int32) + ((6 : Int32) * l3)), _, _, _, _] [] (sh_E h)
        have c := sh_okG H
        replace H := sh_okH H
        refine ai_WP_steps mc_283 (sh_CM d) 6 (And.intro c ?_)
        show wq_283 d Q 66 [oR 12 0, oI l1, oI l2, oI l3, oI ((310 : Int32) + ((6 : Int32) * l3)), _, _, _, _] [aI (h.1 13 46 (((310 : Int32) + ((6 : Int32) * l3)) + (1 : Int32)).toNatClampNeg)] (sh_E h)
        have c := sh_okG H
        replace H := sh_okH H
        refine ai_WP_steps mc_283 (sh_CM d) 6 (And.intro c ?_)
        show wq_283 d Q 75 [oR 12 0, oI l1, oI l2, oI l3, oI ((310 : Int32) + ((6 : Int32) * l3)), oI (h.1 13 46 (((310 : Int32) + ((6 : Int32) * l3)) + (1 : Int32)).toNatClampNeg), _, _, _] [aI (l2 - l2 / (12 : Int32) * (12 : Int32)), aI (h.1 13 46 (((310 : Int32) + ((6 : Int32) * l3)) + (1 : Int32)).toNatClampNeg), aR 12 0] (sh_E h)
        refine ai_WP_steps mc_283 (sh_CM d) 1 (And.intro (Nat.le_of_ble_eq_true rfl) (x_M_boatOf N (Nat.le_trans (Nat.le_of_ble_eq_true rfl) hd) (h.1 13 46 (((310 : Int32) + ((6 : Int32) * l3)) + (1 : Int32)).toNatClampNeg) (l2 - l2 / (12 : Int32) * (12 : Int32)) h (sh_okB H) (fun v5 H => ?_)))
        show wq_283 d Q 78 [oR 12 0, oI l1, oI l2, oI l3, oI ((310 : Int32) + ((6 : Int32) * l3)), oI (h.1 13 46 (((310 : Int32) + ((6 : Int32) * l3)) + (1 : Int32)).toNatClampNeg), _, _, _] [aI v5] (sh_E h)
        refine ai_WP_steps mc_283 (sh_CM d) 3 (And.intro (Nat.le_of_ble_eq_true rfl) (x_M_layTills N (Nat.le_trans (Nat.le_of_ble_eq_true rfl) hd) h (sh_okB H) (fun h6 H => ?_)))
        show wq_283 d Q 84 [oR 12 0, oI l1, oI l2, oI l3, oI ((310 : Int32) + ((6 : Int32) * l3)), oI (h.1 13 46 (((310 : Int32) + ((6 : Int32) * l3)) + (1 : Int32)).toNatClampNeg), oI v5, _, _] [] (sh_E h6)
        have c := sh_okG H
        replace H := sh_okH H
        refine ai_WP_steps mc_283 (sh_CM d) 5 (And.intro c ?_)
        show wq_283 d Q 91 [oR 12 0, oI l1, oI l2, oI l3, oI ((310 : Int32) + ((6 : Int32) * l3)), oI (h.1 13 46 (((310 : Int32) + ((6 : Int32) * l3)) + (1 : Int32)).toNatClampNeg), oI v5, _, _] [aI (l2 - l2 / (12 : Int32) * (12 : Int32)), aI ((310 : Int32) + ((6 : Int32) * l3)), aR 12 0] (sh_E h6)
        refine ai_WP_steps mc_283 (sh_CM d) 1 (And.intro (Nat.le_of_ble_eq_true rfl) (x_M_reason N (Nat.le_trans (Nat.le_of_ble_eq_true rfl) hd) ((310 : Int32) + ((6 : Int32) * l3)) (l2 - l2 / (12 : Int32) * (12 : Int32)) h6 (sh_okB H) (fun v7 H => ?_)))
        show wq_283 d Q 94 [oR 12 0, oI l1, oI l2, oI l3, oI ((310 : Int32) + ((6 : Int32) * l3)), oI (h.1 13 46 (((310 : Int32) + ((6 : Int32) * l3)) + (1 : Int32)).toNatClampNeg), oI v5, _, _] [aI v7] (sh_E h6)
        refine ai_WP_steps mc_283 (sh_CM d) 3 (And.intro (fun c => ?_) (fun c => ?_))
        · replace H := sh_okT c H
          exact x_M_sends_b135 N hd hR k22 hk22 l1 l2 l3 ((310 : Int32) + ((6 : Int32) * l3)) (h.1 13 46 (((310 : Int32) + ((6 : Int32) * l3)) + (1 : Int32)).toNatClampNeg) v7 h6 H
        · replace H := sh_okF c H
          show wq_283 d Q 101 [oR 12 0, oI l1, oI l2, oI l3, oI ((310 : Int32) + ((6 : Int32) * l3)), oI (h.1 13 46 (((310 : Int32) + ((6 : Int32) * l3)) + (1 : Int32)).toNatClampNeg), oI v5, oI v7, _] [] (sh_E h6)
          refine ai_WP_steps mc_283 (sh_CM d) 8 (And.intro (Nat.le_of_ble_eq_true rfl) (x_M_lot (Nat.le_trans (Nat.le_of_ble_eq_true rfl) hd) l1 (((40 : Int32) * l2) + v5) (10 : Int32) h6 (sh_okB H) (fun v8 H => ?_)))
          show wq_283 d Q 114 [oR 12 0, oI l1, oI l2, oI l3, oI ((310 : Int32) + ((6 : Int32) * l3)), oI (h.1 13 46 (((310 : Int32) + ((6 : Int32) * l3)) + (1 : Int32)).toNatClampNeg), oI v5, oI v7, _] [aI v8] (sh_E h6)
          have c := sh_okG H
          replace H := sh_okH H
          refine ai_WP_steps mc_283 (sh_CM d) 10 (And.intro c ?_)
          show wq_283 d Q 129 [oR 12 0, oI l1, oI l2, oI l3, oI ((310 : Int32) + ((6 : Int32) * l3)), oI (h.1 13 46 (((310 : Int32) + ((6 : Int32) * l3)) + (1 : Int32)).toNatClampNeg), oI v5, oI v7, _] [aI (h6.1 13 46 (((250 : Int32) + ((5 : Int32) * v5)) + (4 : Int32)).toNatClampNeg), aI v8] (sh_E h6)
          refine ai_WP_steps mc_283 (sh_CM d) 1 (And.intro (fun c => ?_) (fun c => ?_))
          · replace H := sh_okT c H
            show wq_283 d Q 132 [oR 12 0, oI l1, oI l2, oI l3, oI ((310 : Int32) + ((6 : Int32) * l3)), oI (h.1 13 46 (((310 : Int32) + ((6 : Int32) * l3)) + (1 : Int32)).toNatClampNeg), oI v5, oI v7, _] [] (sh_E h6)
            refine ai_WP_steps mc_283 (sh_CM d) 2 ?_
            exact x_M_sends_b135 N hd hR k22 hk22 l1 l2 l3 ((310 : Int32) + ((6 : Int32) * l3)) (h.1 13 46 (((310 : Int32) + ((6 : Int32) * l3)) + (1 : Int32)).toNatClampNeg) (2 : Int32) h6 H
          · replace H := sh_okF c H
            exact x_M_sends_b135 N hd hR k22 hk22 l1 l2 l3 ((310 : Int32) + ((6 : Int32) * l3)) (h.1 13 46 (((310 : Int32) + ((6 : Int32) * l3)) + (1 : Int32)).toNatClampNeg) v7 h6 H
      · replace H := sh_okF c H
        show wq_283 d Q 54 [oR 12 0, oI l1, oI l2, oI l3, oI ((310 : Int32) + ((6 : Int32) * l3)), _, _, _, _] [] (sh_E h)
        refine ai_WP_steps mc_283 (sh_CM d) 1 ?_
        exact x_M_sends_b261 N hd hR k22 hk22 l1 l2 l3 h H
    · replace H := sh_okF c H
      exact hk267 l2 h H
def f_M_sends_b315 (N : Nat)  (k269 : Int32 → Int32 → sh_H → Option sh_H) (l2 : Int32) (l3 : Int32) (h : sh_H) : Option sh_H := k269 l2 (l3 + (1 : Int32)) h
theorem x_M_sends_b315 (N : Nat) {d : Nat} (hd : 3 ≤ d) {Q : ai_Q} {R : sh_H → Prop} (hR : ∀ h, R h → Q none (sh_E h))  (k269 : Int32 → Int32 → sh_H → Option sh_H) (hk269 : ∀ (l2 : Int32) (l3 : Int32) {d1 d4 d5 d6 d7 d8 : Option ai_V} (h : sh_H), sh_ok (k269 l2 l3 h) R → wq_283 d Q 269 [oR 12 0, d1, oI l2, oI l3, d4, d5, d6, d7, d8] [] (sh_E h)) (l2 : Int32) (l3 : Int32) {d1 d4 d5 d6 d7 d8 : Option ai_V} (h : sh_H) (H : sh_ok (f_M_sends_b315 N k269 l2 l3 h) R) : wq_283 d Q 315 [oR 12 0, d1, oI l2, oI l3, d4, d5, d6, d7, d8] [] (sh_E h) := by
  refine ai_WP_steps mc_283 (sh_CM d) 2 ?_
  exact hk269 l2 (l3 + (1 : Int32)) h H
def f_M_sends_l269 (N : Nat)  (k321 : sh_H → Option sh_H) (n : Nat) : Int32 → Int32 → sh_H → Option sh_H := Nat.rec (motive := fun _ => Int32 → Int32 → sh_H → Option sh_H) (fun _ _ _ => none) (fun _ k269 l2 l3 h => (if l3 < (5 : Int32) then (if ai_in l3 5 then (if 0 < (h.1 13 52 l3.toNatClampNeg) then (if ai_in (1 : Int32) 12 then (if ¬ (12 : Int32) = 0 then (Option.bind (f_M_boatOf N l3 (l2 - l2 / (12 : Int32) * (12 : Int32)) h) (fun v9 => (if ai_in (((250 : Int32) + ((5 : Int32) * v9)) + (3 : Int32)) 8000 then (if ai_in (1 : Int32) 12 then (sh_let (sh_pJ h 14 6 (1 : Int32).toNatClampNeg ((h.2.1 14 6 (1 : Int32).toNatClampNeg) + (h.1 13 46 (((250 : Int32) + ((5 : Int32) * v9)) + (3 : Int32)).toNatClampNeg).toInt64)) (fun h10 => f_M_sends_b315 N k269 l2 l3 h10)) else none) else none))) else none) else none) else f_M_sends_b315 N k269 l2 l3 h) else none) else k321 h)) n
theorem x_M_sends_l269 (N : Nat) {d : Nat} (hd : 3 ≤ d) {Q : ai_Q} {R : sh_H → Prop} (hR : ∀ h, R h → Q none (sh_E h))  (k321 : sh_H → Option sh_H) (hk321 : ∀ {d0 d1 d2 d3 d4 d5 d6 d7 d8 : Option ai_V} (h : sh_H), sh_ok (k321 h) R → wq_283 d Q 321 [d0, d1, d2, d3, d4, d5, d6, d7, d8] [] (sh_E h)) (n : Nat) : ∀ (l2 : Int32) (l3 : Int32) {d1 d4 d5 d6 d7 d8 : Option ai_V} (h : sh_H), sh_ok (f_M_sends_l269 N k321 n l2 l3 h) R → wq_283 d Q 269 [oR 12 0, d1, oI l2, oI l3, d4, d5, d6, d7, d8] [] (sh_E h) := by
  induction n with
  | zero => intro l2 l3 d1 d4 d5 d6 d7 d8 h H; exact H.elim
  | succ n ih =>
    intro l2 l3 d1 d4 d5 d6 d7 d8 h H
    have hk269 := @ih
    revert hk269 H
    show sh_ok ((fun k269 l2 l3 h => (if l3 < (5 : Int32) then (if ai_in l3 5 then (if 0 < (h.1 13 52 l3.toNatClampNeg) then (if ai_in (1 : Int32) 12 then (if ¬ (12 : Int32) = 0 then (Option.bind (f_M_boatOf N l3 (l2 - l2 / (12 : Int32) * (12 : Int32)) h) (fun v9 => (if ai_in (((250 : Int32) + ((5 : Int32) * v9)) + (3 : Int32)) 8000 then (if ai_in (1 : Int32) 12 then (sh_let (sh_pJ h 14 6 (1 : Int32).toNatClampNeg ((h.2.1 14 6 (1 : Int32).toNatClampNeg) + (h.1 13 46 (((250 : Int32) + ((5 : Int32) * v9)) + (3 : Int32)).toNatClampNeg).toInt64)) (fun h10 => f_M_sends_b315 N k269 l2 l3 h10)) else none) else none))) else none) else none) else f_M_sends_b315 N k269 l2 l3 h) else none) else k321 h)) (f_M_sends_l269 N k321 n) l2 l3 h) R → _
    generalize f_M_sends_l269 N k321 n = k269
    intro H hk269
    refine ai_WP_steps mc_283 (sh_CM d) 3 (And.intro (fun c => ?_) (fun c => ?_))
    · replace H := sh_okT c H
      show wq_283 d Q 274 [oR 12 0, _, oI l2, oI l3, _, _, _, _, _] [] (sh_E h)
      have c := sh_okG H
      replace H := sh_okH H
      refine ai_WP_steps mc_283 (sh_CM d) 4 (And.intro c ?_)
      show wq_283 d Q 280 [oR 12 0, _, oI l2, oI l3, _, _, _, _, _] [aI (h.1 13 52 l3.toNatClampNeg)] (sh_E h)
      refine ai_WP_steps mc_283 (sh_CM d) 1 (And.intro (fun c => ?_) (fun c => ?_))
      · replace H := sh_okT c H
        show wq_283 d Q 283 [oR 12 0, _, oI l2, oI l3, _, _, _, _, _] [] (sh_E h)
        have c := sh_okG H
        replace H := sh_okH H
        refine ai_WP_steps mc_283 (sh_CM d) 5 (And.intro c ?_)
        show wq_283 d Q 290 [oR 12 0, _, oI l2, oI l3, _, _, _, _, _] [aL (h.2.1 14 6 (1 : Int32).toNatClampNeg), aI (1 : Int32), aR 14 6] (sh_E h)
        have c := sh_okG H
        replace H := sh_okH H
        refine ai_WP_steps mc_283 (sh_CM d) 9 (And.intro c ?_)
        show wq_283 d Q 304 [oR 12 0, _, oI l2, oI l3, _, _, _, _, _] [aI (l2 - l2 / (12 : Int32) * (12 : Int32)), aI l3, aR 12 0, aI (5 : Int32), aI (250 : Int32), aR 13 46, aL (h.2.1 14 6 (1 : Int32).toNatClampNeg), aI (1 : Int32), aR 14 6] (sh_E h)
        refine ai_WP_steps mc_283 (sh_CM d) 1 (And.intro (Nat.le_of_ble_eq_true rfl) (x_M_boatOf N (Nat.le_trans (Nat.le_of_ble_eq_true rfl) hd) l3 (l2 - l2 / (12 : Int32) * (12 : Int32)) h (sh_okB H) (fun v9 H => ?_)))
        show wq_283 d Q 307 [oR 12 0, _, oI l2, oI l3, _, _, _, _, _] [aI v9, aI (5 : Int32), aI (250 : Int32), aR 13 46, aL (h.2.1 14 6 (1 : Int32).toNatClampNeg), aI (1 : Int32), aR 14 6] (sh_E h)
        have c := sh_okG H
        replace H := sh_okH H
        refine ai_WP_steps mc_283 (sh_CM d) 5 (And.intro c ?_)
        show wq_283 d Q 312 [oR 12 0, _, oI l2, oI l3, _, _, _, _, _] [aI (h.1 13 46 (((250 : Int32) + ((5 : Int32) * v9)) + (3 : Int32)).toNatClampNeg), aL (h.2.1 14 6 (1 : Int32).toNatClampNeg), aI (1 : Int32), aR 14 6] (sh_E h)
        have c := sh_okG H
        replace H := sh_okH H
        refine ai_WP_steps mc_283 (sh_CM d) 3 (And.intro c ?_)
        show wq_283 d Q 315 [oR 12 0, _, oI l2, oI l3, _, _, _, _, _] [] (sh_E (sh_pJ h 14 6 (1 : Int32).toNatClampNeg ((h.2.1 14 6 (1 : Int32).toNatClampNeg) + (h.1 13 46 (((250 : Int32) + ((5 : Int32) * v9)) + (3 : Int32)).toNatClampNeg).toInt64)))
        replace H := sh_okL H
        generalize sh_pJ h 14 6 (1 : Int32).toNatClampNeg ((h.2.1 14 6 (1 : Int32).toNatClampNeg) + (h.1 13 46 (((250 : Int32) + ((5 : Int32) * v9)) + (3 : Int32)).toNatClampNeg).toInt64) = h10 at H ⊢
        exact x_M_sends_b315 N hd hR k269 hk269 l2 l3 h10 H
      · replace H := sh_okF c H
        exact x_M_sends_b315 N hd hR k269 hk269 l2 l3 h H
    · replace H := sh_okF c H
      exact hk321 h H
def f_M_sends_b321 (N : Nat)    (h : sh_H) : Option sh_H := (some h)
theorem x_M_sends_b321 (N : Nat) {d : Nat} (hd : 3 ≤ d) {Q : ai_Q} {R : sh_H → Prop} (hR : ∀ h, R h → Q none (sh_E h))    {d0 d1 d2 d3 d4 d5 d6 d7 d8 : Option ai_V} (h : sh_H) (H : sh_ok (f_M_sends_b321 N h) R) : wq_283 d Q 321 [d0, d1, d2, d3, d4, d5, d6, d7, d8] [] (sh_E h) := by
  exact ai_WP_steps mc_283 (sh_CM d) 1 (hR h H)
def f_M_sends_b267 (N : Nat)   (l2 : Int32) (h : sh_H) : Option sh_H := f_M_sends_l269 N (f_M_sends_b321 N) N l2 (1 : Int32) h
theorem x_M_sends_b267 (N : Nat) {d : Nat} (hd : 3 ≤ d) {Q : ai_Q} {R : sh_H → Prop} (hR : ∀ h, R h → Q none (sh_E h))   (l2 : Int32) {d1 d3 d4 d5 d6 d7 d8 : Option ai_V} (h : sh_H) (H : sh_ok (f_M_sends_b267 N l2 h) R) : wq_283 d Q 267 [oR 12 0, d1, oI l2, d3, d4, d5, d6, d7, d8] [] (sh_E h) := by
  refine ai_WP_steps mc_283 (sh_CM d) 2 ?_
  exact x_M_sends_l269 N hd hR (f_M_sends_b321 N) (fun {e0} {e1} {e2} {e3} {e4} {e5} {e6} {e7} {e8} h H => x_M_sends_b321 N hd hR  h H) N l2 (1 : Int32) h H
def f_M_sends_b20 (N : Nat)   (l1 : Int32) (l2 : Int32) (h : sh_H) : Option sh_H := f_M_sends_l22 N (f_M_sends_b267 N) N l1 l2 (0 : Int32) h
theorem x_M_sends_b20 (N : Nat) {d : Nat} (hd : 3 ≤ d) {Q : ai_Q} {R : sh_H → Prop} (hR : ∀ h, R h → Q none (sh_E h))   (l1 : Int32) (l2 : Int32) {d3 d4 d5 d6 d7 d8 : Option ai_V} (h : sh_H) (H : sh_ok (f_M_sends_b20 N l1 l2 h) R) : wq_283 d Q 20 [oR 12 0, oI l1, oI l2, d3, d4, d5, d6, d7, d8] [] (sh_E h) := by
  refine ai_WP_steps mc_283 (sh_CM d) 2 ?_
  exact x_M_sends_l22 N hd hR (f_M_sends_b267 N) (fun z0 {e1} {e3} {e4} {e5} {e6} {e7} {e8} h H => x_M_sends_b267 N hd hR z0 h H) N l1 l2 (0 : Int32) h H
def f_M_sends (N : Nat)  (l1 : Int32) (l2 : Int32) (h : sh_H) : Option sh_H := f_M_sends_l2 N (f_M_sends_b20 N) N l1 l2 (0 : Int32) h
theorem x_M_sends (N : Nat) {d : Nat} (hd : 4 ≤ d) (l1 : Int32) (l2 : Int32) (h : sh_H) {Q : ai_Q} {R : sh_H → Prop} (H : sh_ok (f_M_sends N l1 l2 h) R) (hR : ∀ h, R h → Q none (sh_E h)) : ai_Ex sh_T d 283 [aR 12 0, aI l1, aI l2] (sh_E h) Q := by
  obtain ⟨d, rfl⟩ : ∃ e, d = e + 1 := ⟨d - 1, by omega⟩
  replace hd : 3 ≤ d := by omega
  refine And.intro (Nat.le_of_ble_eq_true rfl) ?_
  show wq_283 d Q 0 [oR 12 0, oI l1, oI l2, none, none, none, none, none, none] [] (sh_E h)
  refine ai_WP_steps mc_283 (sh_CM d) 2 ?_
  exact x_M_sends_l2 N hd hR (f_M_sends_b20 N) (fun z0 z1 {e3} {e4} {e5} {e6} {e7} {e8} h H => x_M_sends_b20 N hd hR z0 z1 h H) N l1 l2 (0 : Int32) h H
