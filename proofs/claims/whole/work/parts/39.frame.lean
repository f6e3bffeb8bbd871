/-! WHAT A READER MAY WRITE: scratch -/
def scC (c i j : Nat) : Prop := c = 0 ∨ c = 1 ∨ (c = 2 ∧ j ≠ 1) ∨ c = 3 ∨ c = 5 ∨ (c = 6 ∧ 26 ≤ i ∧ 2 ≤ j) ∨ c = 8 ∨ c = 10 ∨ (c = 13 ∧ i < 42 ∧ (i = 8 ∨ i = 17 ∨ i = 18 ∨ i = 19 ∨ 32 ≤ i))
def sjC (c i : Nat) : Prop := (c < 12 ∧ c ≠ 7) ∨ (c = 14 ∧ i < 5)
def sC (h g : sh_H) : Prop := (∀ c i j, ¬ scC c i j → h.1 c i j = g.1 c i j) ∧ (∀ c i, ¬ sjC c i → ∀ j, h.2.1 c i j = g.2.1 c i j) ∧ h.2.2 = g.2.2
def scM (c i j : Nat) : Prop := (c = 12 ∧ j ≠ 0 ∧ j ≠ 9) ∨ (c = 13 ∧ 43 ≤ i ∧ i ≠ 46)
def sjM (c i : Nat) : Prop := c = 12 ∨ (c = 14 ∧ 5 ≤ i ∧ i ≠ 6)
def sM (h g : sh_H) : Prop := (∀ c i j, ¬ scM c i j → h.1 c i j = g.1 c i j) ∧ (∀ c i, ¬ sjM c i → ∀ j, h.2.1 c i j = g.2.1 c i j) ∧ h.2.2 = g.2.2
theorem pI_ne {h : sh_H} {c i j : Nat} {v : Int32} {c' i' j' : Nat} (q : ¬ (c' = c ∧ i' = i ∧ j' = j)) : (sh_pI h c i j v).1 c' i' j' = h.1 c' i' j' := if_neg q
theorem sC.rf (h : sh_H) : sC h h := ⟨fun _ _ _ _ => rfl, fun _ _ _ _ => rfl, rfl⟩
theorem sM.rf (h : sh_H) : sM h h := ⟨fun _ _ _ _ => rfl, fun _ _ _ _ => rfl, rfl⟩
theorem sC.tr {a b c : sh_H} (x : sC a b) (y : sC b c) : sC a c := ⟨fun c i j h => (x.1 c i j h).trans (y.1 c i j h), fun c i h j => (x.2.1 c i h j).trans (y.2.1 c i h j), x.2.2.trans y.2.2⟩
theorem sM.tr {a b c : sh_H} (x : sM a b) (y : sM b c) : sM a c := ⟨fun c i j h => (x.1 c i j h).trans (y.1 c i j h), fun c i h j => (x.2.1 c i h j).trans (y.2.1 c i h j), x.2.2.trans y.2.2⟩
theorem sC.pI {h g : sh_H} {c i j : Nat} {v : Int32} (q : scC c i j) (x : sC h g) : sC (sh_pI h c i j v) g := by
  refine ⟨fun c' i' j' n => ?_, x.2.1, x.2.2⟩
  rw [pI_1, if_neg (fun e => n (by rw [e.1, e.2.1, e.2.2]; exact q))]
  exact x.1 c' i' j' n
theorem sM.pI {h g : sh_H} {c i j : Nat} {v : Int32} (q : scM c i j) (x : sM h g) : sM (sh_pI h c i j v) g := by
  refine ⟨fun c' i' j' n => ?_, x.2.1, x.2.2⟩
  rw [pI_1, if_neg (fun e => n (by rw [e.1, e.2.1, e.2.2]; exact q))]
  exact x.1 c' i' j' n
theorem sC.pJ {h g : sh_H} {c i j : Nat} {v : Int64} (q : sjC c i) (x : sC h g) : sC (sh_pJ h c i j v) g := by
  refine ⟨x.1, fun c' i' n j' => ?_, x.2.2⟩
  rw [pJ_2, if_neg (fun e => n (by rw [e.1, e.2.1]; exact q))]
  exact x.2.1 c' i' n j'
theorem sM.pJ {h g : sh_H} {c i j : Nat} {v : Int64} (q : sjM c i) (x : sM h g) : sM (sh_pJ h c i j v) g := by
  refine ⟨x.1, fun c' i' n j' => ?_, x.2.2⟩
  rw [pJ_2, if_neg (fun e => n (by rw [e.1, e.2.1]; exact q))]
  exact x.2.1 c' i' n j'
theorem sC.mEq {h g : sh_H} (x : sC h g) : mEq h g := by
  refine ⟨fun c i q j => x.1 c i j (fun s => ?_), fun c i q j => x.2.1 c i (fun s => ?_) j, by rw [x.2.2]⟩
  · exact lcC_no.mp q (by unfold scC at s; omega)
  · exact lcC_no.mp q (by unfold sjC at s; omega)
theorem sM.cEq {h g : sh_H} (x : sM h g) : cEq h g := by
  refine ⟨fun c i q j => x.1 c i j (fun s => ?_), fun c i q j => x.2.1 c i (fun s => ?_) j, by rw [x.2.2], by rw [x.2.2]⟩
  · have := lcC_of.mp q; unfold scM at s; omega
  · have := lcC_of.mp q; unfold sjM at s; omega
theorem sM.xEq {h g : sh_H} (x : sM h g) : xEq h g := ⟨fun j => x.1 17 0 j (by unfold scM; omega), by rw [x.2.2]⟩
theorem sM.mS {h g : sh_H} (x : sM h g) (k : Nat) : mS h k = mS g k := x.1 13 46 k (by unfold scM; omega)
theorem sC.tx {h g : sh_H} (x : sC h g) : h.2.2.1 = g.2.2.1 := by rw [x.2.2]
theorem St_sC {c : Nat} {hc hc' hm : sh_H} (x : sC hc' hc) (h : St c hc hm) : St c hc' hm := by
  obtain ⟨h1, h2, ⟨n, t1, t2, t3, t4⟩, h4, h5, h6, h7, h8, h9, h10⟩ := h
  have ht : hc.2.2.1 < 2 := by rcases h2 with h | h <;> omega
  have st : ∀ s o b, s < 3 → rSt hc hm s o b → rSt hc' hm s o b := fun s o b hs h => rSt_to (fun d hd => x.1 6 _ _ (by unfold scC; omega)) (fun d hd j _ => x.1 13 _ _ (by unfold scC; omega)) (x.1 7 _ _ (by unfold scC; omega)) (fun j _ _ => x.2.1 7 _ (by unfold sjC; omega) _) (fun k _ => rfl) (fun k _ => rfl) h
  have he : ∀ s o b w, s < 3 → rHeld c hc hm s o b w → rHeld c hc' hm s o b w := by
    intro s o b w hs h
    refine ⟨by rw [x.1 7 s 8 (by unfold scC; omega)]; exact h.1, fun q => ?_⟩
    obtain ⟨a1, a2, a3⟩ := h.2 q
    exact ⟨st _ _ _ hs a1, a2, a3⟩
  refine ⟨fun r hr => ?_, ?_, ⟨n, t1, ?_, t3, fun i hi => ?_⟩, ?_, ?_, st _ _ _ (by omega) h6, h7, h8, he _ _ _ _ (by omega) h9, he _ _ _ _ (by omega) h10⟩
  · rw [x.1 6 r 0 (by unfold scC; omega), x.1 6 r 1 (by unfold scC; omega)]; exact h1 r hr
  · exact rTx_to (by rw [x.2.2]) (by rw [x.2.2]) (fun i j => x.1 19 i j (by unfold scC; omega)) h2
  · rw [x.1 11 0 1 (by unfold scC; omega)]; exact t2
  · rw [x.1 15 0 i (by unfold scC; omega)]; exact t4 i hi
  · rw [x.1 11 0 2 (by unfold scC; omega)]; exact h4
  · rw [x.2.2]
    exact rText_to ht (fun c i j q q2 => x.1 c i j (by unfold lT at q; unfold scC; omega)) (fun _ _ => rfl) h5
theorem St_sM {c : Nat} {hc hm hm' : sh_H} (x : sM hm' hm) (h : St c hc hm) : St c hc hm' := by
  obtain ⟨h1, h2, ⟨n, t1, t2, t3, t4⟩, h4, h5, h6, h7, h8, h9, h10⟩ := h
  have hs : ∀ k, mS hm' k = mS hm k := x.mS
  have ht : hc.2.2.1 < 2 := by rcases h2 with h | h <;> omega
  have st : ∀ s o b, rSt hc hm s o b → rSt hc hm' s o b := fun s o b h => rSt_to (fun _ _ => rfl) (fun _ _ _ _ => rfl) rfl (fun _ _ _ => rfl) (fun k _ => hs _) (fun k _ => x.2.1 14 6 (by unfold sjM; omega) _) h
  have he : ∀ s o b w, rHeld c hc hm s o b w → rHeld c hc hm' s o b w := by
    intro s o b w h
    have ew : hm'.1 16 0 w = hm.1 16 0 w := x.1 16 0 w (by unfold scM; omega)
    refine ⟨by rw [ew]; exact h.1, fun q => ?_⟩
    rw [ew] at q
    obtain ⟨a1, a2, a3⟩ := h.2 q
    exact ⟨st _ _ _ a1, fun k hk => by rw [hs, hs]; exact a2 k hk, by rw [sf_to (h := hm) (fun k _ => hs _)]; exact a3⟩
  refine ⟨h1, h2, ⟨n, t1, t2, ?_, fun i hi => ?_⟩, ?_, rText_to ht (fun _ _ _ _ _ => rfl) (fun k _ => hs _) h5, st _ _ _ h6, ?_, ?_, he _ _ _ _ h9, he _ _ _ _ h10⟩
  · rw [x.1 12 0 0 (by unfold scM; omega)]; exact t3
  · rw [x.1 13 42 i (by unfold scM; omega)]; exact t4 i hi
  · rw [x.1 12 0 9 (by unfold scM; omega)]; exact h4
  · rw [tf_to (h := hm) (fun k _ => hs _)]; exact h7
  · rw [sf_to (h := hm) (fun k _ => hs _)]; exact h8
theorem Pair.s {α : Type} {F G : sh_H → Option (α × sh_H)} (H : ∀ c hc hm, c < 512 → St c hc hm → ∃ r hc' hm', F hc = some (r, hc') ∧ G hm = some (r, hm') ∧ sC hc' hc ∧ sM hm' hm) : Pair F G := by
  intro c hc hm h5 h
  obtain ⟨r, hc', hm', e1, e2, e3, e4⟩ := H c hc hm h5 h
  exact ⟨r, hc', hm', e1, e2, St_up (St_sM e4 (St_sC e3 h)), e3.mEq, e4.cEq, e4.xEq⟩
/-- a reader's answer, and what it leaves -/
def oC {α : Type} (o : Option (α × sh_H)) (v : α) (h : sh_H) : Prop := ∃ h', o = some (v, h') ∧ sC h' h
def oM {α : Type} (o : Option (α × sh_H)) (v : α) (h : sh_H) : Prop := ∃ h', o = some (v, h') ∧ sM h' h
def wC (o : Option sh_H) (h : sh_H) : Prop := ∃ h', o = some h' ∧ sC h' h
def wM (o : Option sh_H) (h : sh_H) : Prop := ∃ h', o = some h' ∧ sM h' h
theorem Pair.o {α : Type} {F G : sh_H → Option (α × sh_H)} (H : ∀ c hc hm, c < 512 → St c hc hm → ∃ r, oC (F hc) r hc ∧ oM (G hm) r hm) : Pair F G := Pair.s (fun c hc hm h5 h => by
  obtain ⟨r, ⟨hc', a1, a2⟩, ⟨hm', b1, b2⟩⟩ := H c hc hm h5 h
  exact ⟨r, hc', hm', a1, b1, a2, b2⟩)
theorem oC.b {α β : Type} {o : Option (α × sh_H)} {v : α} {h : sh_H} {f : α → sh_H → Option (β × sh_H)} {w : β} (x : oC o v h) (y : ∀ h', sC h' h → oC (f v h') w h') : oC (sh_b2 o f) w h := by
  obtain ⟨h1, e1, s1⟩ := x
  obtain ⟨h2, e2, s2⟩ := y h1 s1
  exact ⟨h2, by rw [e1]; exact e2, s2.tr s1⟩
theorem oM.b {α β : Type} {o : Option (α × sh_H)} {v : α} {h : sh_H} {f : α → sh_H → Option (β × sh_H)} {w : β} (x : oM o v h) (y : ∀ h', sM h' h → oM (f v h') w h') : oM (sh_b2 o f) w h := by
  obtain ⟨h1, e1, s1⟩ := x
  obtain ⟨h2, e2, s2⟩ := y h1 s1
  exact ⟨h2, by rw [e1]; exact e2, s2.tr s1⟩
theorem wC.b {β : Type} {o : Option sh_H} {h : sh_H} {f : sh_H → Option (β × sh_H)} {w : β} (x : wC o h) (y : ∀ h', sC h' h → oC (f h') w h') : oC (Option.bind o f) w h := by
  obtain ⟨h1, e1, s1⟩ := x
  obtain ⟨h2, e2, s2⟩ := y h1 s1
  exact ⟨h2, by rw [e1]; exact e2, s2.tr s1⟩
theorem wM.b {β : Type} {o : Option sh_H} {h : sh_H} {f : sh_H → Option (β × sh_H)} {w : β} (x : wM o h) (y : ∀ h', sM h' h → oM (f h') w h') : oM (Option.bind o f) w h := by
  obtain ⟨h1, e1, s1⟩ := x
  obtain ⟨h2, e2, s2⟩ := y h1 s1
  exact ⟨h2, by rw [e1]; exact e2, s2.tr s1⟩
theorem wC.w {o : Option sh_H} {h : sh_H} {f : sh_H → Option sh_H} (x : wC o h) (y : ∀ h', sC h' h → wC (f h') h') : wC (Option.bind o f) h := by
  obtain ⟨h1, e1, s1⟩ := x
  obtain ⟨h2, e2, s2⟩ := y h1 s1
  exact ⟨h2, by rw [e1]; exact e2, s2.tr s1⟩
theorem wM.w {o : Option sh_H} {h : sh_H} {f : sh_H → Option sh_H} (x : wM o h) (y : ∀ h', sM h' h → wM (f h') h') : wM (Option.bind o f) h := by
  obtain ⟨h1, e1, s1⟩ := x
  obtain ⟨h2, e2, s2⟩ := y h1 s1
  exact ⟨h2, by rw [e1]; exact e2, s2.tr s1⟩
theorem oC.v {α : Type} {v : α} {h : sh_H} : oC (some (v, h)) v h := ⟨h, rfl, sC.rf h⟩
theorem oM.v {α : Type} {v : α} {h : sh_H} : oM (some (v, h)) v h := ⟨h, rfl, sM.rf h⟩
theorem oC.fr {α : Type} {o : Option (α × sh_H)} {v : α} {h g : sh_H} (s : sC h g) (x : oC o v h) : oC o v g := by
  obtain ⟨h1, e1, s1⟩ := x
  exact ⟨h1, e1, s1.tr s⟩
theorem oM.fr {α : Type} {o : Option (α × sh_H)} {v : α} {h g : sh_H} (s : sM h g) (x : oM o v h) : oM o v g := by
  obtain ⟨h1, e1, s1⟩ := x
  exact ⟨h1, e1, s1.tr s⟩
/-! the cells of the model that count -/
theorem St_T {c : Nat} {hc hm : sh_H} (h : St c hc hm) : IT (mS hm) := IT_to (f := tf hm 0) (fun k hk => by unfold tf; rw [if_pos hk, Nat.zero_add]) h.2.2.2.2.2.2.1
theorem St_S {c : Nat} {hc hm : sh_H} (h : St c hc hm) : IS c (mS hm) := IS_to (f := sf hm 0) (fun k hk => by unfold sf; rw [if_pos hk, Nat.zero_add]) h.2.2.2.2.2.2.2.1
/-- a cell of the text that stands -/
theorem tx_get {c : Nat} {hc hm : sh_H} (h : St c hc hm) {j n r q : Nat} (hj : j < 7) (hn : mS hm j = nI n) (hn2 : n < 2 ^ 31) (hr : r < n) (hq : q < 5) (h9 : tb_c j q < 9) (hw : q < sh_w j) : f_Rows_get (7 * hc.2.2.1 + j) (nI r) (nI q) hc = some (mS hm (tb_b j + tb_s j * r + tb_c j q)) := by
  obtain ⟨m, h1, h2, h3, h4⟩ := St_n h j hj
  have ht := St_tx h
  obtain ⟨e1, e2, e3⟩ := rc_tx _ ht j hj
  have hm60 : sh_m j ≤ 60 := (by decide +kernel : ∀ j, j < 7 → sh_m j ≤ 60) j hj
  have : m = n := (nI_eq (by omega) hn2).mp (h3.symm.trans hn)
  subst this
  rw [rows_get h.1 (by omega) h2 (by rw [e2]; exact h1) (by omega) (by omega), if_pos ⟨hr, by rw [e3]; exact hw⟩]
  exact congrArg some (h4 r hr q hq h9)
/-! what formulas alone write -/
def fcC (c i j : Nat) : Prop := (c = 2 ∧ j ≠ 1) ∨ (c = 13 ∧ (i = 8 ∨ i = 17))
def fC (h g : sh_H) : Prop := (∀ c i j, ¬ fcC c i j → h.1 c i j = g.1 c i j) ∧ h.2 = g.2
def fcM (c i j : Nat) : Prop := c = 13 ∧ (i = 50 ∨ i = 51) ∧ (j = j)
def fM (h g : sh_H) : Prop := (∀ c i j, ¬ fcM c i j → h.1 c i j = g.1 c i j) ∧ h.2 = g.2
theorem fC.rf (h : sh_H) : fC h h := ⟨fun _ _ _ _ => rfl, rfl⟩
theorem fM.rf (h : sh_H) : fM h h := ⟨fun _ _ _ _ => rfl, rfl⟩
theorem fC.tr {a b c : sh_H} (x : fC a b) (y : fC b c) : fC a c := ⟨fun c i j h => (x.1 c i j h).trans (y.1 c i j h), x.2.trans y.2⟩
theorem fM.tr {a b c : sh_H} (x : fM a b) (y : fM b c) : fM a c := ⟨fun c i j h => (x.1 c i j h).trans (y.1 c i j h), x.2.trans y.2⟩
theorem fC.pI {h g : sh_H} {c i j : Nat} {v : Int32} (q : fcC c i j) (x : fC h g) : fC (sh_pI h c i j v) g := by
  refine ⟨fun c' i' j' n => ?_, x.2⟩
  rw [pI_1, if_neg (fun e => n (by rw [e.1, e.2.1, e.2.2]; exact q))]
  exact x.1 c' i' j' n
theorem fM.pI {h g : sh_H} {c i j : Nat} {v : Int32} (q : fcM c i j) (x : fM h g) : fM (sh_pI h c i j v) g := by
  refine ⟨fun c' i' j' n => ?_, x.2⟩
  rw [pI_1, if_neg (fun e => n (by rw [e.1, e.2.1, e.2.2]; exact q))]
  exact x.1 c' i' j' n
theorem fC.s {h g : sh_H} (x : fC h g) : sC h g := ⟨fun c i j n => x.1 c i j (fun q => n (by unfold fcC at q; unfold scC; omega)), fun _ _ _ _ => by rw [x.2], by rw [x.2]⟩
theorem fM.s {h g : sh_H} (x : fM h g) : sM h g := ⟨fun c i j n => x.1 c i j (fun q => n (by unfold fcM at q; unfold scM; omega)), fun _ _ _ _ => by rw [x.2], by rw [x.2]⟩
theorem fM.mS {h g : sh_H} (x : fM h g) (k : Nat) : mS h k = mS g k := x.s.mS k
def oFC {α : Type} (o : Option (α × sh_H)) (v : α) (h : sh_H) : Prop := ∃ h', o = some (v, h') ∧ fC h' h
def oFM {α : Type} (o : Option (α × sh_H)) (v : α) (h : sh_H) : Prop := ∃ h', o = some (v, h') ∧ fM h' h
theorem oFC.s {α : Type} {o : Option (α × sh_H)} {v : α} {h : sh_H} (x : oFC o v h) : oC o v h := by
  obtain ⟨h', a, b⟩ := x
  exact ⟨h', a, b.s⟩
theorem oFM.s {α : Type} {o : Option (α × sh_H)} {v : α} {h : sh_H} (x : oFM o v h) : oM o v h := by
  obtain ⟨h', a, b⟩ := x
  exact ⟨h', a, b.s⟩
theorem oFC.b {α β : Type} {o : Option (α × sh_H)} {v : α} {h : sh_H} {f : α → sh_H → Option (β × sh_H)} {w : β} (x : oFC o v h) (y : ∀ h', fC h' h → oFC (f v h') w h') : oFC (sh_b2 o f) w h := by
  obtain ⟨h1, e1, s1⟩ := x
  obtain ⟨h2, e2, s2⟩ := y h1 s1
  exact ⟨h2, by rw [e1]; exact e2, s2.tr s1⟩
theorem oFC.v {α : Type} {v : α} {h : sh_H} : oFC (some (v, h)) v h := ⟨h, rfl, fC.rf h⟩
