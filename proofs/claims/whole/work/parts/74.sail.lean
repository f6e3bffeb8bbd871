/-! SENDINGS: what the class and the model read of them -/
def sT (f : Nat → Int32) (i : Nat) : Nat := nv f (310 + 6 * i)
def sP (f : Nat → Int32) (i : Nat) : Nat := nv f (311 + 6 * i)
def sK (f : Nat → Int32) (i : Nat) : Nat := nv f (312 + 6 * i)
def sN (f : Nat → Int32) (i : Nat) : Nat := nv f (313 + 6 * i)
def sB (f : Nat → Int32) (i : Nat) : Nat := nv f (314 + 6 * i)
def wgt (f : Nat → Int32) (k : Nat) : Nat := nv f (21 + 3 * k)
def stt (f : Nat → Int32) (i : Nat) : Nat := if sB f i = 0 then 0 else sP f i
def too (f : Nat → Int32) (i : Nat) : Nat := if sB f i = 0 then sP f i else 0
/-- the sending i as it stands -/
def SD (f : Nat → Int32) (i : Nat) : Prop := (f (310 + 6 * i) = nI (sT f i)) ∧ (sT f i ≤ 239) ∧ (f (311 + 6 * i) = nI (sP f i)) ∧ (1 ≤ sP f i) ∧ (sP f i ≤ 4) ∧ (f (312 + 6 * i) = nI (sK f i)) ∧ (∃ nk, nk ≤ 6 ∧ f 0 = nI nk ∧ sK f i < nk) ∧ (f (313 + 6 * i) = nI (sN f i)) ∧ (1 ≤ sN f i) ∧ (sN f i ≤ 9999) ∧ (f (314 + 6 * i) = nI (sB f i)) ∧ (sB f i ≤ 1)
theorem SD.t {f : Nat → Int32} {i : Nat} (h : SD f i) : f (310 + 6 * i) = nI (sT f i) := h.1
theorem SD.t1 {f : Nat → Int32} {i : Nat} (h : SD f i) : sT f i ≤ 239 := h.2.1
theorem SD.p {f : Nat → Int32} {i : Nat} (h : SD f i) : f (311 + 6 * i) = nI (sP f i) := h.2.2.1
theorem SD.p1 {f : Nat → Int32} {i : Nat} (h : SD f i) : 1 ≤ sP f i := h.2.2.2.1
theorem SD.p2 {f : Nat → Int32} {i : Nat} (h : SD f i) : sP f i ≤ 4 := h.2.2.2.2.1
theorem SD.k {f : Nat → Int32} {i : Nat} (h : SD f i) : f (312 + 6 * i) = nI (sK f i) := h.2.2.2.2.2.1
theorem SD.k1 {f : Nat → Int32} {i : Nat} (h : SD f i) : ∃ nk, nk ≤ 6 ∧ f 0 = nI nk ∧ sK f i < nk := h.2.2.2.2.2.2.1
theorem SD.n {f : Nat → Int32} {i : Nat} (h : SD f i) : f (313 + 6 * i) = nI (sN f i) := h.2.2.2.2.2.2.2.1
theorem SD.n1 {f : Nat → Int32} {i : Nat} (h : SD f i) : 1 ≤ sN f i := h.2.2.2.2.2.2.2.2.1
theorem SD.n2 {f : Nat → Int32} {i : Nat} (h : SD f i) : sN f i ≤ 9999 := h.2.2.2.2.2.2.2.2.2.1
theorem SD.b {f : Nat → Int32} {i : Nat} (h : SD f i) : f (314 + 6 * i) = nI (sB f i) := h.2.2.2.2.2.2.2.2.2.2.1
theorem SD.b1 {f : Nat → Int32} {i : Nat} (h : SD f i) : sB f i ≤ 1 := h.2.2.2.2.2.2.2.2.2.2.2
theorem SD_of {f : Nat → Int32} {i : Nat} (h : SDi f i) : SD f i := by
  obtain ⟨⟨t, -, t2, t3⟩, ⟨p, m, p1, p2, p3, p4, p5⟩, ⟨k, nk, k1, k2, k3, k4⟩, ⟨n, n1, n2, n3⟩, ⟨b, -, b2, b3⟩⟩ := h
  have e1 : sT f i = t := nv_of t3 (by omega)
  have e2 : sP f i = p := nv_of p4 (by omega)
  have e3 : sK f i = k := nv_of k3 (by omega)
  have e4 : sN f i = n := nv_of n3 (by omega)
  have e5 : sB f i = b := nv_of b3 (by omega)
  exact ⟨by rw [t3, e1], by omega, by rw [p4, e2], by omega, by omega, by rw [k3, e3], ⟨nk, k2, k4, by omega⟩, by rw [n3, e4], by omega, by omega, by rw [b3, e5], by omega⟩
theorem St_sd {c : Nat} {hc hm : sh_H} (h : St c hc hm) : ∃ n, n ≤ 40 ∧ mS hm 7 = nI n ∧ hc.1 6 15 3 = nI n ∧ ∀ i, i < n → SD (mS hm) i ∧ f_Rows_get 15 (nI i) 0 hc = some (mS hm (311 + 6 * i)) ∧ f_Rows_get 15 (nI i) 1 hc = some (mS hm (312 + 6 * i)) ∧ f_Rows_get 15 (nI i) 2 hc = some (mS hm (310 + 6 * i)) ∧ f_Rows_get 15 (nI i) 3 hc = some (mS hm (313 + 6 * i)) ∧ f_Rows_get 15 (nI i) 4 hc = some (mS hm (314 + 6 * i)) := by
  obtain ⟨n', m1, m2, m3⟩ := (St_S h).2.2.1
  obtain ⟨n, n1, n2, n3, n4⟩ := (rSt_0 h).2.2.1
  rw [Nat.zero_add] at n3
  obtain rfl : n' = n := (nI_eq (by omega) (by omega)).mp (m2.symm.trans n3)
  refine ⟨n', n1, m2, n2, fun i hi => ⟨SD_of (m3 i hi), ?_⟩⟩
  have g : ∀ q, q < 6 → f_Rows_get 15 (nI i) (nI q) hc = some (mS hm (310 + 6 * i + sn_c q)) := fun q hq => by
    have a := rows_get (r := 15) (s := n') (a := i) (b := q) h.1 (by omega) n2 (show n' ≤ 40 from n1) (by omega) (by omega)
    rw [if_pos ⟨hi, show q < 6 from hq⟩] at a
    rw [a]
    have e := n4 i hi q hq
    rw [Nat.zero_add] at e
    exact congrArg some e
  obtain ⟨s0, s1, s2, s3, s4, s5⟩ := snc_6
  have g0 := g 0 (by omega)
  have g1 := g 1 (by omega)
  have g2 := g 2 (by omega)
  have g3 := g 3 (by omega)
  have g4 := g 4 (by omega)
  rw [s0] at g0
  rw [s1] at g1
  rw [s2] at g2
  rw [s3] at g3
  rw [s4] at g4
  exact ⟨g0.trans (by rw [show 310 + 6 * i + 1 = 311 + 6 * i by omega]), g1.trans (by rw [show 310 + 6 * i + 2 = 312 + 6 * i by omega]), g2, g3.trans (by rw [show 310 + 6 * i + 3 = 313 + 6 * i by omega]), g4.trans (by rw [show 310 + 6 * i + 4 = 314 + 6 * i by omega])⟩
theorem q_m12 {t : Nat} (ht : t < 2 ^ 31) : nI t - nI t / 12 * 12 = nI (t % 12) := by
  have d := Nat.div_add_mod t 12
  rw [show nI t / 12 = nI (t / 12) from pk_div (a := t) (d := 12) (by omega) (by omega) (by omega), show nI (t / 12) * 12 = nI (t / 12 * 12) from q_mul (t / 12) 12, q_sub (by omega)]
  congr 1
  omega
theorem n12 : ¬ (12 : Int32) = 0 := by decide
theorem C_weight {c : Nat} {hc hm : sh_H} (h : St c hc hm) {n i : Nat} (hn : mS hm 7 = nI n) (n4 : n ≤ 40) (hi : i < n) : f_Calendar_weight hc.2.2.1 15 (nI i) hc = some (nI (sN (mS hm) i * wgt (mS hm) (sK (mS hm) i))) ∧ 1 ≤ wgt (mS hm) (sK (mS hm) i) ∧ wgt (mS hm) (sK (mS hm) i) ≤ 20 := by
  obtain ⟨n', m1, m2, -, m3⟩ := St_sd h
  obtain rfl : n' = n := (nI_eq (by omega) (by omega)).mp (m2.symm.trans hn)
  obtain ⟨sd, -, g1, -, g3, -⟩ := m3 i hi
  obtain ⟨nk, k1, k2, k3⟩ := sd.k1
  obtain ⟨-, ⟨w1, w2, w3⟩, -⟩ := T_kind h k2 k1 k3
  have tx := tx_get h (j := 0) (r := sK (mS hm) i) (q := 1) (by omega) k2 (by omega) k3 (by omega) (by decide) (by decide)
  have tx' : f_Rows_get (7 * hc.2.2.1 + 0) (nI (sK (mS hm) i)) 1 hc = some (nI (wgt (mS hm) (sK (mS hm) i))) := by
    rw [show tb_b 0 + tb_s 0 * sK (mS hm) i + tb_c 0 1 = 21 + 3 * sK (mS hm) i by show 20 + 3 * _ + 1 = _; omega, w1] at tx
    exact tx
  refine ⟨?_, w2, w3⟩
  unfold f_Calendar_weight
  rw [g1, Option.bind_some, sd.k, tx', Option.bind_some, g3, Option.bind_some, sd.n, q_mul, Nat.mul_comm]
theorem C_start {c : Nat} {hc hm : sh_H} (h : St c hc hm) {n i : Nat} (hn : mS hm 7 = nI n) (n4 : n ≤ 40) (hi : i < n) : f_Calendar_start 15 (nI i) hc = some (nI (stt (mS hm) i)) := by
  obtain ⟨n', m1, m2, -, m3⟩ := St_sd h
  obtain rfl : n' = n := (nI_eq (by omega) (by omega)).mp (m2.symm.trans hn)
  obtain ⟨sd, g0, -, -, -, g4⟩ := m3 i hi
  have b1 := sd.b1
  unfold f_Calendar_start stt
  rw [g4, Option.bind_some, sd.b, g0, Option.bind_some, sd.p]
  by_cases z : sB (mS hm) i = 0
  · rw [if_pos z, if_pos (show nI (sB (mS hm) i) = 0 by rw [z]; rfl)]
    rfl
  · rw [if_neg z, if_neg (show ¬ nI (sB (mS hm) i) = 0 from nI_ne (b := 0) z (by omega) (by omega))]
/-- the loads of the boats, in a month -/
def LR (f : Nat → Int32) (m : Nat) (L : Nat → Nat) (H : sh_H) : Prop := H.1 6 26 3 = nI 12 ∧ ∀ b, b < 12 → H.1 13 32 b = nI (if bt f (f (250 + 5 * b)) (nI m) = some b then L (nv f (250 + 5 * b)) else 0)
theorem LR_get {f : Nat → Int32} {m b p : Nat} {L : Nat → Nat} {H : sh_H} (hC : RC H) (lr : LR f m L H) (e : bt f (nI p) (nI m) = some b) (eb : f (250 + 5 * b) = nI p) (hb : b < 12) (hp : p < 2 ^ 31) : f_Rows_get 26 (nI b) 0 H = some (nI (L p)) := by
  have a := rows_get (r := 26) (s := 12) (a := b) (b := 0) hC (by omega) lr.1 (by decide) (by omega) (by omega)
  rw [if_pos ⟨hb, by decide⟩] at a
  refine a.trans (congrArg some ?_)
  show H.1 13 32 (b * 1 + 0) = _
  rw [Nat.mul_one, Nat.add_zero, lr.2 b hb, eb, if_pos e, nv_of eb hp]
theorem LR_put {f : Nat → Int32} {m b p v : Nat} {L : Nat → Nat} {H : sh_H} (hC : RC H) (lr : LR f m L H) (e : bt f (nI p) (nI m) = some b) (eb : f (250 + 5 * b) = nI p) (hb : b < 12) (hp : p < 2 ^ 31) (hpl : ∀ b, b < 12 → bt f (f (250 + 5 * b)) (nI m) = some b → ∃ q, q ≤ 4 ∧ f (250 + 5 * b) = nI q) : f_Rows_put 26 (nI b) 0 (nI v) H = some (sh_pI H 13 32 b (nI v)) ∧ LR f m (up0 L p v) (sh_pI H 13 32 b (nI v)) := by
  refine ⟨?_, lr.1, fun b' hb' => ?_⟩
  · have a := rows_put (r := 26) (s := 12) (a := b) (b := 0) (v := nI v) hC (by omega) lr.1 (by decide) (by omega) (by omega)
    rw [if_pos ⟨hb, by decide⟩] at a
    refine a.trans (congrArg some ?_)
    show sh_pI H 13 32 (b * 1 + 0) (nI v) = _
    rw [Nat.mul_one, Nat.add_zero]
  · by_cases z : b' = b
    · subst z
      rw [pI_at, eb, if_pos e, nv_of eb hp]
      show _ = nI (if p = p then v else L p)
      rw [if_pos rfl]
    · rw [pI_ne (by omega), lr.2 b' hb']
      by_cases y : bt f (f (250 + 5 * b')) (nI m) = some b'
      · obtain ⟨q, q1, q2⟩ := hpl b' hb' y
        rw [if_pos y, if_pos y, nv_of q2 (by omega)]
        show _ = nI (if q = p then v else L q)
        rw [if_neg]
        intro qp
        rw [q2, qp, e] at y
        exact z (Option.some.inj y).symm
      · rw [if_neg y, if_neg y]
theorem St_pl {c : Nat} {hc hm : sh_H} (h : St c hc hm) {m : Int32} : ∀ b, b < 12 → bt (mS hm) (mS hm (250 + 5 * b)) m = some b → ∃ q, q ≤ 4 ∧ mS hm (250 + 5 * b) = nI q := by
  intro b _ e
  obtain ⟨nb, n1, n2, n3⟩ := (St_T h).2.2.2.2.2.2
  unfold bt at e
  rw [nv_of n2 (by omega)] at e
  obtain ⟨-, e2, -, -⟩ := bof_some e
  obtain ⟨⟨p, m, p1, p2, p3, p4, p5⟩, -⟩ := n3 b (by omega)
  exact ⟨p, by omega, p4⟩
/-- behind: no room; too few -/
def rfT (f : Nat → Int32) (L : Nat → Nat) (T i b : Nat) : Nat := if nv f (252 + 5 * b) < L (sP f i) + sN f i * wgt f (sK f i) then 3 else if T < sN f i then 4 else 0
def rsn (f : Nat → Int32) (L : Nat → Nat) (T i m : Nat) : Nat := match bt f (nI (sP f i)) (nI m) with | none => 1 | some b => rfT f L T i b
/-- a lot -/
def mxv (a b : Int32) : Int32 := ((a ^^^ b) * 1103515245 + 12345) ^^^ (sh_us ((a ^^^ b) * 1103515245 + 12345) 15)
def ltv (s x n : Int32) : Int32 := sh_us (mxv (mxv s 15) x) 1 - sh_us (mxv (mxv s 15) x) 1 / n * n
theorem C_lot {s x n : Int32} {h : sh_H} (hn : 0 < n) (hn2 : ¬ n = 0) : f_Calendar_lot n s x h = some (ltv s x n) := by
  unfold f_Calendar_lot f_Calendar_mixed ltv
  rw [Option.bind_some, Option.bind_some, if_pos hn, if_pos hn2]
  rfl
theorem M_lot {s x n : Int32} {h : sh_H} (hn2 : ¬ n = 0) : f_M_lot s x n h = some (ltv s x n) := by
  unfold f_M_lot f_M_mixed ltv
  rw [Option.bind_some, Option.bind_some, if_pos hn2]
  rfl
theorem C_refusal {c : Nat} {hc hm : sh_H} (h : St c hc hm) {n i : Nat} (hn : mS hm 7 = nI n) (n4 : n ≤ 40) (hi : i < n) {L : Nat → Nat} (lr : LR (mS hm) (sT (mS hm) i % 12) L hc) (hL : L (sP (mS hm) i) ≤ 999) {s T : Nat} (hT : f_Pieces_all NF s (nI (stt (mS hm) i)) (nI (sK (mS hm) i)) hc = some (nI T)) (hT2 : T < 2 ^ 31) (l5 l6 : Int32) : f_Calendar_refusal NF hc.2.2.1 15 (nI i) s l5 l6 hc = some (match bt (mS hm) (nI (sP (mS hm) i)) (nI (sT (mS hm) i % 12)) with | none => 1 | some b => if l6 = 0 then nI (rfT (mS hm) L T i b) else if ltv l5 (40 * nI (sT (mS hm) i) + nI b) 10 < mS hm (254 + 5 * b) then 2 else nI (rfT (mS hm) L T i b)) := by
  obtain ⟨n', m1, m2, -, m3⟩ := St_sd h
  obtain rfl : n' = n := (nI_eq (by omega) (by omega)).mp (m2.symm.trans hn)
  obtain ⟨sd, g0, g1, g2, g3, g4⟩ := m3 i hi
  obtain ⟨wt, w1, w2⟩ := C_weight h hn n4 hi
  have st := C_start h hn n4 hi
  have t1 := sd.t1
  have p2 := sd.p2
  have nn := sd.n2
  unfold f_Calendar_refusal f_Calendar_refusal_b76
  rw [g2, Option.bind_some, g1, Option.bind_some, g0, Option.bind_some, if_pos n12, sd.t, sd.p, sd.k, q_m12 (by omega), C_boatOf h, Option.bind_some]
  cases e : bt (mS hm) (nI (sP (mS hm) i)) (nI (sT (mS hm) i % 12)) with
  | none => rw [show oI2 none (-1) = (-1 : Int32) from rfl, if_pos rfl]
  | some b =>
    obtain ⟨b1, b2, -, ⟨b3, b4, b5⟩, ⟨b6, b7⟩, ⟨b8, -⟩, b9⟩ := T_boat h e
    have g26 := LR_get h.1 lr e b2 b1 (by omega)
    have r2 : f_Rows_get (7 * hc.2.2.1 + 6) (nI b) 2 hc = some (nI (nv (mS hm) (252 + 5 * b))) := by
      have := b9 2 (by omega)
      rw [show 250 + 5 * b + 2 = 252 + 5 * b by omega, b3] at this
      exact this
    have r4 : f_Rows_get (7 * hc.2.2.1 + 6) (nI b) 4 hc = some (mS hm (254 + 5 * b)) := by
      have := b9 4 (by omega)
      rw [show 250 + 5 * b + 4 = 254 + 5 * b by omega] at this
      exact this
    have wl : sN (mS hm) i * wgt (mS hm) (sK (mS hm) i) ≤ 9999 * 20 := Nat.mul_le_mul nn w2
    have rest : (Option.bind (f_Rows_get 26 (nI b) 0 hc) (fun v1 => Option.bind (f_Calendar_weight hc.2.2.1 15 (nI i) hc) (fun v2 => Option.bind (f_Rows_get (7 * hc.2.2.1 + 6) (nI b) 2 hc) (fun v3 => if v3 < v1 + v2 then some 3 else Option.bind (f_Calendar_start 15 (nI i) hc) (fun v4 => Option.bind (f_Pieces_all NF s v4 (nI (sK (mS hm) i)) hc) (fun v5 => Option.bind (f_Rows_get 15 (nI i) 3 hc) (fun v6 => if v5 < v6 then some 4 else some 0))))))) = some (nI (rfT (mS hm) L T i b)) := by
      rw [g26, Option.bind_some, wt, Option.bind_some, r2, Option.bind_some, nI_add, st, Option.bind_some, hT, Option.bind_some, g3, Option.bind_some, sd.n]
      unfold rfT
      by_cases c1 : nv (mS hm) (252 + 5 * b) < L (sP (mS hm) i) + sN (mS hm) i * wgt (mS hm) (sK (mS hm) i)
      · rw [if_pos (nI_lt c1 (by omega)), if_pos c1]; rfl
      · rw [if_neg (nI_nlt (by omega) (by omega)), if_neg c1]
        by_cases c2 : T < sN (mS hm) i
        · rw [if_pos (nI_lt c2 (by omega)), if_pos c2]; rfl
        · rw [if_neg (nI_nlt (by omega) (by omega)), if_neg c2]; rfl
    rw [show oI2 (some b) (-1) = nI b from rfl, if_neg (show ¬ nI b = -1 from fun z => nI_pos (n := b) (by omega) (by rw [z]; decide)), rest]
    show _ = some (if l6 = 0 then nI (rfT (mS hm) L T i b) else if ltv l5 (40 * nI (sT (mS hm) i) + nI b) 10 < mS hm (254 + 5 * b) then 2 else nI (rfT (mS hm) L T i b))
    by_cases z : l6 = 0
    · rw [if_pos z, if_pos z]
    · rw [if_neg z, if_neg z, C_lot (by decide) (by decide), Option.bind_some, r4, Option.bind_some]
      by_cases y : ltv l5 (40 * nI (sT (mS hm) i) + nI b) 10 < mS hm (254 + 5 * b)
      · rw [if_pos y, if_pos y]
      · rw [if_neg y, if_neg y]
/-- the model's loads by places and what the places have -/
def ML (H : sh_H) (L T : Nat → Nat) : Prop := (∀ p, p < 5 → H.1 13 52 p = nI (L p)) ∧ ∀ j, j < 30 → H.1 13 53 j = nI (T j)
theorem M_reason {c : Nat} {hc hm H : sh_H} (h : St c hc hm) (x : sM H hm) {i m : Nat} (sd : SD (mS hm) i) (hi : i < 40) {L T : Nat → Nat} (ml : ML H L T) (hL : L (sP (mS hm) i) ≤ 999) (hT : T (6 * stt (mS hm) i + sK (mS hm) i) < 2 ^ 31) : f_M_reason NF (nI (310 + 6 * i)) (nI m) H = some (nI (rsn (mS hm) L (T (6 * stt (mS hm) i + sK (mS hm) i)) i m)) := by
  have hH : St c hc H := St_sM x h
  have t1 := sd.t1
  have p2 := sd.p2
  have nn := sd.n2
  have bb1 := sd.b1
  obtain ⟨nk, k1, k2, k3⟩ := sd.k1
  obtain ⟨-, ⟨w1, w2, w3⟩, -⟩ := T_kind h k2 k1 k3
  have wl : sN (mS hm) i * wgt (mS hm) (sK (mS hm) i) ≤ 9999 * 20 := Nat.mul_le_mul nn w3
  have a1 : nI (310 + 6 * i) + 1 = nI (311 + 6 * i) := by rw [nI_1]; congr 1; omega
  have a2 : nI (310 + 6 * i) + 2 = nI (312 + 6 * i) := by rw [show (2 : Int32) = nI 2 from rfl, nI_add]; congr 1; omega
  have a3 : nI (310 + 6 * i) + 3 = nI (313 + 6 * i) := by rw [show (3 : Int32) = nI 3 from rfl, nI_add]; congr 1; omega
  have a4 : nI (310 + 6 * i) + 4 = nI (314 + 6 * i) := by rw [show (4 : Int32) = nI 4 from rfl, nI_add]; congr 1; omega
  have v1 : H.1 13 46 (nI (311 + 6 * i)).toNatClampNeg = nI (sP (mS hm) i) := by rw [cl8 (by omega)]; exact (x.mS _).trans sd.p
  have v2 : H.1 13 46 (nI (312 + 6 * i)).toNatClampNeg = nI (sK (mS hm) i) := by rw [cl8 (by omega)]; exact (x.mS _).trans sd.k
  have v3 : H.1 13 46 (nI (313 + 6 * i)).toNatClampNeg = nI (sN (mS hm) i) := by rw [cl8 (by omega)]; exact (x.mS _).trans sd.n
  have v4 : H.1 13 46 (nI (314 + 6 * i)).toNatClampNeg = nI (sB (mS hm) i) := by rw [cl8 (by omega)]; exact (x.mS _).trans sd.b
  have ek : (20 : Int32) + 3 * nI (sK (mS hm) i) + 1 = nI (21 + 3 * sK (mS hm) i) := by rw [show (20 : Int32) = nI 20 from rfl, show (3 : Int32) = nI 3 from rfl, q_mul, nI_add, nI_1]; congr 1; omega
  have vk : H.1 13 46 (nI (21 + 3 * sK (mS hm) i)).toNatClampNeg = nI (wgt (mS hm) (sK (mS hm) i)) := by rw [cl8 (by omega)]; exact (x.mS _).trans w1
  have vL : H.1 13 52 (nI (sP (mS hm) i)).toNatClampNeg = nI (L (sP (mS hm) i)) := by rw [q_cl (by omega)]; exact ml.1 _ (by omega)
  have eb : bt (mS H) (nI (sP (mS hm) i)) (nI m) = bt (mS hm) (nI (sP (mS hm) i)) (nI m) := by
    rw [show mS H = mS hm from funext x.mS]
  unfold f_M_reason f_M_reason_b107 rsn
  rw [a1, a2, a3, a4, if_pos (in8 (by omega)), if_pos (in8 (by omega)), v1, v2, M_boatOf (St_T hH), Option.bind_some, eb]
  cases e : bt (mS hm) (nI (sP (mS hm) i)) (nI m) with
  | none => rw [show oI2 none (-2) = (-2 : Int32) from rfl, if_pos (by decide)]; rfl
  | some b =>
    obtain ⟨b1, b2, -, ⟨b3, b4, b5⟩, ⟨b6, b7⟩, ⟨b8, -⟩, b9⟩ := T_boat h e
    have er : (250 : Int32) + 5 * nI b + 2 = nI (252 + 5 * b) := by rw [show (250 : Int32) = nI 250 from rfl, show (5 : Int32) = nI 5 from rfl, q_mul, nI_add, show (2 : Int32) = nI 2 from rfl, nI_add]; congr 1; omega
    have vr : H.1 13 46 (nI (252 + 5 * b)).toNatClampNeg = nI (nv (mS hm) (252 + 5 * b)) := by rw [cl8 (by omega)]; exact (x.mS _).trans b3
    rw [show oI2 (some b) (-2) = nI b from rfl, if_neg (nI_pos (by omega)), if_pos (q_in (k := sP (mS hm) i) (n := 5) (by omega) (by omega)), if_pos (in8 (by omega)), ek, if_pos (in8 (by omega)), er, if_pos (in8 (by omega)), vr, vL, v3, vk, q_mul, nI_add]
    show _ = some (nI (rfT (mS hm) L (T (6 * stt (mS hm) i + sK (mS hm) i)) i b))
    unfold rfT
    by_cases c1 : nv (mS hm) (252 + 5 * b) < L (sP (mS hm) i) + sN (mS hm) i * wgt (mS hm) (sK (mS hm) i)
    · rw [if_pos (nI_lt c1 (by omega)), if_pos c1]; rfl
    · rw [if_neg (nI_nlt (by omega) (by omega)), if_neg c1, if_pos (in8 (by omega)), v4]
      have l53 : sh_l13 53 = 30 := rfl
      have fin : ∀ q, q = stt (mS hm) i → (if ai_in (6 * nI q + nI (sK (mS hm) i)) (sh_l13 53) then (if ai_in (nI (313 + 6 * i)) 8000 then (if H.1 13 53 (6 * nI q + nI (sK (mS hm) i)).toNatClampNeg < nI (sN (mS hm) i) then some (4 : Int32) else some 0) else none) else none) = some (nI (if T (6 * stt (mS hm) i + sK (mS hm) i) < sN (mS hm) i then 4 else 0)) := by
        intro q hq
        have q4 : q ≤ 4 := by rw [hq]; unfold stt; split <;> omega
        rw [show (6 : Int32) = nI 6 from rfl, q_mul, nI_add, l53, if_pos (q_in (by omega) (by omega)), if_pos (in8 (by omega)), q_cl (by omega), ml.2 _ (by omega), hq]
        by_cases c2 : T (6 * stt (mS hm) i + sK (mS hm) i) < sN (mS hm) i
        · rw [if_pos (nI_lt c2 (by omega)), if_pos c2]; rfl
        · rw [if_neg (nI_nlt (by omega) (by omega)), if_neg c2]; rfl
      by_cases z : sB (mS hm) i = 0
      · rw [if_neg (show ¬ nI (sB (mS hm) i) = 1 by rw [z]; decide)]
        exact fin 0 (by unfold stt; rw [if_pos z])
      · have z1 : sB (mS hm) i = 1 := by omega
        rw [if_pos (show nI (sB (mS hm) i) = 1 by rw [z1]; rfl)]
        exact fin (sP (mS hm) i) (by unfold stt; rw [if_neg z])
