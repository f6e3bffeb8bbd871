/-! PAIR: read: the end -/
def crE (v1 : Int32) (h2 : sh_H) : Option (Int32 × sh_H) := (Option.bind (f_Reader_faultPlace h2) (fun v3 => (sh_let (sh_pI h2 11 0 2 v3) (fun h4 => (sh_let (sh_pI h4 11 0 1 (0 : Int32)) (fun h5 => (if v1 = 0 then (sh_let (sh_pX h5 h5.2.2.2.1) (fun h6 => (sh_let (sh_pS h6 h5.2.2.1) (fun h7 => (Option.bind (f_State_clear NF 0 h7) (fun h8 => (Option.bind (f_State_clear NF 1 h8) (fun h9 => (Option.bind (f_State_clear NF 2 h9) (fun h10 => (some ((0 : Int32), h10)))))))))))) else (some (v1, h5)))))))))
theorem CB_read_eq (h : sh_H) : f_CB_read NF h = sh_b2 (f_Reader_examine NF (h.1 11 0 1) h.2.2.2.1 h) crE := by
  unfold f_CB_read
  rfl
theorem C_bad {B : Nat → Nat} {n sz F T : Nat} {H G : sh_H} (t : TK B n sz H G) (hT : T < sz) (hF : F ≠ 0) (hF5 : F ≤ 5) (h4 : H.1 5 0 4 = nI F) (h5 : H.1 5 0 5 = nI T) : sh_b2 (some ((H.1 5 0 4), H)) crE = some (nI F, sh_pI (sh_pI H 11 0 2 (nI (tst B n T))) 11 0 1 0) := by
  have nz : ¬ nI F = 0 := nI_ne0 (by omega) (by omega)
  rw [sh_b2_some, h4]
  unfold crE f_Reader_faultPlace
  rw [h4, if_neg nz, h5, C_place t hT, Option.bind_some, Option.bind_some, sh_let, sh_let, if_neg nz]
theorem C_b84 {F T : Nat} {H : sh_H} (d : DE F T H) : f_Reader_examine_b84 NF H = some ((H.1 5 0 4), H) := by
  unfold f_Reader_examine_b84 f_Reader_examine_b107
  rw [if_neg d.ne]
theorem M_bad {F : Nat} {v : Int32} {G : sh_H} (hF : F ≠ 0) (hF5 : F ≤ 5) (hv : v = 0) (h8 : G.1 12 0 8 = nI F) : rdE v G = some (nI F, sh_pI G 12 0 0 0) := by
  unfold rdE f_M_read_b92
  rw [if_pos hv, sh_let, pI_ne (by omega), h8, if_neg (nI_ne0 (by omega) (by omega))]
theorem zC.tr {sp : Nat} {a b c : sh_H} (x : zC sp a b) (y : zC sp b c) : zC sp a c := ⟨fun c i k n1 n2 n3 n4 n5 n6 => (x.1 c i k n1 n2 n3 n4 n5 n6).trans (y.1 c i k n1 n2 n3 n4 n5 n6), fun c i k n1 n2 => (x.2.1 c i k n1 n2).trans (y.2.1 c i k n1 n2), x.2.2.trans y.2.2⟩
theorem zM.tr {a b c : sh_H} (x : zM a b) (y : zM b c) : zM a c := ⟨fun c i k n1 n2 n3 => (x.1 c i k n1 n2 n3).trans (y.1 c i k n1 n2 n3), fun c i k n1 n2 => (x.2.1 c i k n1 n2).trans (y.2.1 c i k n1 n2), x.2.2.trans y.2.2⟩
theorem yC.z {sp : Nat} {a b : sh_H} (x : yC sp a b) : zC sp a b := ⟨fun c i k n1 _ n3 n4 _ n6 => x.1 c i k n1 n3 n4 n6, fun c i k _ n2 => x.2.1 c i k (by omega), x.2.2⟩
theorem yM.z {a b : sh_H} (x : yM a b) : zM a b := ⟨fun c i k n1 n2 n3 => x.1 c i k (by omega) (by omega) (by omega), fun c i k n1 _ => x.2.1 c i k (by omega), x.2.2⟩
theorem zC.m {sp : Nat} {a b : sh_H} (hp : sp < 2) (x : zC sp a b) : mEq a b := by
  refine ⟨fun c i h j => ?_, fun c i h j => ?_, by rw [x.2.2]⟩
  · have := lcC_no.mp h
    exact x.1 c i j (by omega) (by omega) (by omega) (by omega) (by omega) (by omega)
  · have := lcC_no.mp h
    exact x.2.1 c i j (by omega) (by omega)
theorem zM.c {a b : sh_H} (x : zM a b) : cEq a b := by
  refine ⟨fun c i h j => ?_, fun c i h j => ?_, by rw [x.2.2], by rw [x.2.2]⟩
  · have := lcC_of.mp h
    exact x.1 c i j (by omega) (by omega) (by omega)
  · have := lcC_of.mp h
    exact x.2.1 c i j (by omega) (by omega)
theorem zM.x {a b : sh_H} (x : zM a b) : xEq a b := ⟨fun j => x.1 17 0 j (by omega) (by omega) (by omega), by rw [x.2.2]⟩
theorem rTx.sp {h : sh_H} (x : rTx h) : h.2.2.1 < 2 ∧ h.2.2.2.1 < 2 ∧ h.2.2.1 ≠ h.2.2.2.1 := by
  rcases x with ⟨a, b, -⟩ | ⟨a, b, -⟩ <;> rw [a, b] <;> decide
/-- reading fails: all that counts is kept -/
theorem St_bad {c : Nat} {hc hm H G : sh_H} (h : St c hc hm) (x : zC hc.2.2.2.1 H hc) (y : zM G hm) (v : Int32) (hv : G.1 12 0 9 = v) : St (c + 1) (sh_pI (sh_pI H 11 0 2 v) 11 0 1 0) (sh_pI G 12 0 0 0) := by
  obtain ⟨h1, h2, h3, h4, h5, h6, h7, h8, h9, h10⟩ := h
  obtain ⟨p1, p2, p3⟩ := h2.sp
  have e1 : ∀ c i j, c ≠ 11 → (sh_pI (sh_pI H 11 0 2 v) 11 0 1 0).1 c i j = H.1 c i j := fun c i j n => (pI_ne (by omega)).trans (pI_ne (by omega))
  have e2 : ∀ c i j, c ≠ 12 → (sh_pI G 12 0 0 0).1 c i j = G.1 c i j := fun c i j n => pI_ne (by omega)
  have X : ∀ c i j, c ≠ 11 → c ≠ 5 → c ≠ 10 → ¬ (c = 6 ∧ 7 * hc.2.2.2.1 ≤ i ∧ i < 7 * hc.2.2.2.1 + 7 ∧ j = 3) → ¬ (c = 13 ∧ 9 * hc.2.2.2.1 ≤ i ∧ i < 9 * hc.2.2.2.1 + 8) → ¬ (c = 13 ∧ (i = 18 ∨ i = 19)) → ¬ (c = 2 ∧ i = hc.2.2.2.1 ∧ j = 1) → (sh_pI (sh_pI H 11 0 2 v) 11 0 1 0).1 c i j = hc.1 c i j := fun c i j n0 n1 n2 n3 n4 n5 n6 => (e1 c i j n0).trans (x.1 c i j n1 n2 n3 n4 n5 n6)
  have ms : ∀ k, k < 2000 ∨ 4000 ≤ k → mS (sh_pI G 12 0 0 0) k = mS hm k := fun k hk => (e2 13 46 k (by omega)).trans (y.1 _ _ _ (by omega) (by omega) (by omega))
  have he : ∀ s o b w, s = 1 ∨ s = 2 → 4000 ≤ o → 6 ≤ b → rHeld c hc hm s o b w → rHeld (c + 1) (sh_pI (sh_pI H 11 0 2 v) 11 0 1 0) (sh_pI G 12 0 0 0) s o b w := by
    intro s o b w hs ho hb h
    have ew : (sh_pI G 12 0 0 0).1 16 0 w = hm.1 16 0 w := (e2 16 0 w (by omega)).trans (y.1 _ _ _ (by omega) (by omega) (by omega))
    refine ⟨by rw [ew, X 7 s 8 (by omega) (by omega) (by omega) (by omega) (by omega) (by omega) (by omega)]; exact h.1, fun q => ?_⟩
    rw [ew] at q
    obtain ⟨a1, a2, a3⟩ := h.2 q
    refine ⟨rSt_to (fun d hd => X _ _ _ (by omega) (by omega) (by omega) (by omega) (by omega) (by omega) (by omega)) (fun d hd j _ => X _ _ _ (by omega) (by omega) (by omega) (by omega) (by omega) (by omega) (by omega)) (X _ _ _ (by omega) (by omega) (by omega) (by omega) (by omega) (by omega) (by omega)) (fun j _ _ => x.2.1 _ _ _ (by omega) (by omega)) (fun k _ => ms _ (by omega)) (fun k _ => y.2.1 _ _ _ (by omega) (by omega)) a1, fun k hk => by rw [ms _ (by omega), ms _ (by unfold kT at hk; omega)]; exact a2 k hk, ?_⟩
    rw [sf_to (h := hm) (o := o) (fun k _ => ms _ (by omega))]
    exact IS_up a3
  refine ⟨RC_of h1 (fun r j _ _ => X _ _ _ (by omega) (by omega) (by omega) (by omega) (by omega) (by omega) (by omega)), rTx_to (show H.2.2.1 = hc.2.2.1 by rw [x.2.2]) (show H.2.2.2.1 = hc.2.2.2.1 by rw [x.2.2]) (fun i j => X _ _ _ (by omega) (by omega) (by omega) (by omega) (by omega) (by omega) (by omega)) h2, ⟨0, by omega, pI_at .., pI_at .., fun i hi => absurd hi (Nat.not_lt_zero i)⟩, ?_, ?_, ?_, ?_, ?_, he 1 4000 6 2 (by omega) (by omega) (by omega) h9, he 2 6000 9 3 (by omega) (by omega) (by omega) h10⟩
  · rw [pI_ne (by omega), pI_at, pI_ne (by omega), hv]
  · show rText _ _ H.2.2.1 0
    rw [show H.2.2.1 = hc.2.2.1 by rw [x.2.2]]
    refine rText_to p1 (fun c i j q qq => ?_) (fun k hk => ms _ (by unfold kT at hk; omega)) h5
    rcases q with ⟨rfl, q1, q2⟩ | ⟨rfl, q1⟩ | ⟨rfl, q1, q2⟩
    · exact X _ _ _ (by omega) (by omega) (by omega) (by omega) (by omega) (by omega) (by omega)
    · exact X _ _ _ (by omega) (by omega) (by omega) (by omega) (by omega) (by omega) (by omega)
    · exact X _ _ _ (by omega) (by omega) (by omega) (by omega) (by omega) (by omega) (by omega)
  · exact rSt_to (fun d hd => X _ _ _ (by omega) (by omega) (by omega) (by omega) (by omega) (by omega) (by omega)) (fun d hd j _ => X _ _ _ (by omega) (by omega) (by omega) (by omega) (by omega) (by omega) (by omega)) (X _ _ _ (by omega) (by omega) (by omega) (by omega) (by omega) (by omega) (by omega)) (fun j _ _ => x.2.1 _ _ _ (by omega) (by omega)) (fun k hk => ms _ (by unfold kS at hk; omega)) (fun k _ => y.2.1 _ _ _ (by omega) (by omega)) h6
  · rw [tf_to (h := hm) (fun k hk => ms _ (by unfold kT at hk; omega))]; exact h7
  · rw [sf_to (h := hm) (fun k hk => ms _ (by unfold kT kS at hk; omega))]; exact IS_up h8
/-- reading succeeds: the class -/
theorem C_good {sp : Nat} {H0 H : sh_H} (hC : RC H) (h4 : H.1 5 0 4 = 0) (h6 : H.1 5 0 6 = 0) (x : zC sp H H0) (hx : H.2.2.2.1 = sp) (hp : sp < 2) : ∃ H', sh_b2 (f_Reader_examine_b84 NF H) crE = some (0, H') ∧ RC H' ∧ H'.2.2.1 = sp ∧ H'.2.2.2.1 = H0.2.2.1 ∧ H'.1 11 0 1 = 0 ∧ H'.1 11 0 2 = -1 ∧ (∀ c i j, lT sp c i → H'.1 c i j = H.1 c i j) ∧ (∀ i j, H'.1 19 i j = H0.1 19 i j) ∧ mEq H' H0 ∧ (∃ h' h, SC 0 h' h ∧ (∀ c i j, (c = 6 ∧ 14 ≤ i ∧ i < 18) ∨ (c = 13 ∧ 20 ≤ i ∧ i < 24) ∨ (c = 7 ∧ i = 0) → H'.1 c i j = h'.1 c i j) ∧ ∀ j, H'.2.1 7 0 j = h'.2.1 7 0 j) ∧ H'.1 7 1 8 = 0 ∧ H'.1 7 2 8 = 0 := by
  obtain ⟨v5, hv5⟩ : ∃ v, (sh_pI H 5 0 4 (H.1 5 0 6)).1 5 0 7 = v := ⟨_, rfl⟩
  have f4 : (sh_pI (sh_pI H 5 0 4 (H.1 5 0 6)) 5 0 5 v5).1 5 0 4 = 0 := by rw [pI_ne (by omega), pI_at, h6]
  have f0 : ∀ c i j, c ≠ 5 → c ≠ 11 → (sh_pS (sh_pX (sh_pI (sh_pI (sh_pI (sh_pI H 5 0 4 (H.1 5 0 6)) 5 0 5 v5) 11 0 2 (-1)) 11 0 1 0) H.2.2.2.1) H.2.2.1).1 c i j = H.1 c i j := fun c i j n1 n2 => (show (sh_pI (sh_pI (sh_pI (sh_pI H 5 0 4 (H.1 5 0 6)) 5 0 5 v5) 11 0 2 (-1)) 11 0 1 0).1 c i j = H.1 c i j from (pI_ne (by omega)).trans ((pI_ne (by omega)).trans ((pI_ne (by omega)).trans (pI_ne (by omega)))))
  have c0 : RC (sh_pS (sh_pX (sh_pI (sh_pI (sh_pI (sh_pI H 5 0 4 (H.1 5 0 6)) 5 0 5 v5) 11 0 2 (-1)) 11 0 1 0) H.2.2.2.1) H.2.2.1) := RC_of hC (fun r j _ _ => f0 _ _ _ (by omega) (by omega))
  have f1 : (sh_pS (sh_pX (sh_pI (sh_pI (sh_pI (sh_pI H 5 0 4 (H.1 5 0 6)) 5 0 5 v5) 11 0 2 (-1)) 11 0 1 0) H.2.2.2.1) H.2.2.1).1 11 0 1 = 0 := pI_at (sh_pI (sh_pI (sh_pI H 5 0 4 (H.1 5 0 6)) 5 0 5 v5) 11 0 2 (-1)) 11 0 1 0
  have f2 : (sh_pS (sh_pX (sh_pI (sh_pI (sh_pI (sh_pI H 5 0 4 (H.1 5 0 6)) 5 0 5 v5) 11 0 2 (-1)) 11 0 1 0) H.2.2.2.1) H.2.2.1).1 11 0 2 = -1 := (show (sh_pI (sh_pI (sh_pI (sh_pI H 5 0 4 (H.1 5 0 6)) 5 0 5 v5) 11 0 2 (-1)) 11 0 1 0).1 11 0 2 = -1 from (pI_ne (by omega)).trans (pI_at (sh_pI (sh_pI H 5 0 4 (H.1 5 0 6)) 5 0 5 v5) 11 0 2 (-1)))
  have f5 : (sh_pS (sh_pX (sh_pI (sh_pI (sh_pI (sh_pI H 5 0 4 (H.1 5 0 6)) 5 0 5 v5) 11 0 2 (-1)) 11 0 1 0) H.2.2.2.1) H.2.2.1).2.1 = H.2.1 := rfl
  have f6 : (sh_pS (sh_pX (sh_pI (sh_pI (sh_pI (sh_pI H 5 0 4 (H.1 5 0 6)) 5 0 5 v5) 11 0 2 (-1)) 11 0 1 0) H.2.2.2.1) H.2.2.1).2.2 = (H.2.2.2.1, H.2.2.1, H.2.2.2.2) := rfl
  have run : sh_b2 (f_Reader_examine_b84 NF H) crE = Option.bind (f_State_clear NF 0 (sh_pS (sh_pX (sh_pI (sh_pI (sh_pI (sh_pI H 5 0 4 (H.1 5 0 6)) 5 0 5 v5) 11 0 2 (-1)) 11 0 1 0) H.2.2.2.1) H.2.2.1)) (fun h8 => (Option.bind (f_State_clear NF 1 h8) (fun h9 => (Option.bind (f_State_clear NF 2 h9) (fun h10 => (some ((0 : Int32), h10))))))) := by
    unfold f_Reader_examine_b84 f_Reader_examine_b107
    rw [if_pos h4, sh_let, hv5, sh_let, sh_b2_some, f4]
    unfold crE f_Reader_faultPlace
    rw [f4, if_pos rfl, Option.bind_some, sh_let, sh_let, if_pos rfl, sh_let, sh_let]
    rfl
  rw [run]
  generalize sh_pS (sh_pX (sh_pI (sh_pI (sh_pI (sh_pI H 5 0 4 (H.1 5 0 6)) 5 0 5 v5) 11 0 2 (-1)) 11 0 1 0) H.2.2.2.1) H.2.2.1 = K at c0 f0 f1 f2 f5 f6
  obtain ⟨K1, a1, a2, a3⟩ := S_clear (s := 0) (by omega) c0
  obtain ⟨K2, b1, b2, b3⟩ := S_clear (s := 1) (by omega) a2
  obtain ⟨K3, d1, d2, d3⟩ := S_clear (s := 2) (by omega) b2
  have fr3 := d3.2.2.2.2.2.2.2.2.2.2.2
  have fr2 := b3.2.2.2.2.2.2.2.2.2.2.2
  have fr1 := a3.2.2.2.2.2.2.2.2.2.2.2
  have E : ∀ c i j, ¬ (c = 6 ∧ 14 ≤ i ∧ i < 26 ∧ j = 3) → ¬ (c = 13 ∧ 20 ≤ i ∧ i < 32) → c ≠ 7 → K3.1 c i j = K.1 c i j := fun c i j n1 n2 n3 => (fr3.1 c i j (by omega) (by omega) (by omega)).trans ((fr2.1 c i j (by omega) (by omega) (by omega)).trans (fr1.1 c i j (by omega) (by omega) (by omega)))
  have EJ : ∀ c i j, c ≠ 7 → K3.2.1 c i j = K.2.1 c i j := fun c i j n3 => (fr3.2.1 c i j (by omega)).trans ((fr2.2.1 c i j (by omega)).trans (fr1.2.1 c i j (by omega)))
  have E22 : K3.2.2 = (H.2.2.2.1, H.2.2.1, H.2.2.2.2) := fr3.2.2.trans (fr2.2.2.trans (fr1.2.2.trans f6))
  refine ⟨K3, ?_, d2, ?_, ?_, (E _ _ _ (by omega) (by omega) (by omega)).trans f1, (E _ _ _ (by omega) (by omega) (by omega)).trans f2, fun c i j q => ?_, fun i j => (E _ _ _ (by omega) (by omega) (by omega)).trans ((f0 _ _ _ (by omega) (by omega)).trans (x.1 _ _ _ (by omega) (by omega) (by omega) (by omega) (by omega) (by omega))), ⟨fun c i q j => ?_, fun c i q j => ?_, ?_⟩, ⟨K1, K, a3, fun c i j q => (fr3.1 c i j (by omega) (by omega) (by omega)).trans (fr2.1 c i j (by omega) (by omega) (by omega)), fun j => (fr3.2.1 7 0 j (by omega)).trans (fr2.2.1 7 0 j (by omega))⟩, (fr3.1 7 1 8 (by omega) (by omega) (by omega)).trans b3.2.2.2.2.2.2.2.2.2.2.1, d3.2.2.2.2.2.2.2.2.2.2.1⟩
  · rw [a1, Option.bind_some, b1, Option.bind_some, d1, Option.bind_some]
  · rw [E22, ← hx]
  · rw [E22]
    show H.2.2.1 = _
    rw [x.2.2]
  · have : c = 6 ∧ i < 14 ∨ c = 2 ∨ c = 13 ∧ i < 17 := by unfold lT at q; omega
    exact (E _ _ _ (by omega) (by omega) (by omega)).trans (f0 _ _ _ (by omega) (by omega))
  · have := lcC_no.mp q
    exact (E _ _ _ (by omega) (by omega) (by omega)).trans ((f0 _ _ _ (by omega) (by omega)).trans (x.1 _ _ _ (by omega) (by omega) (by omega) (by omega) (by omega) (by omega)))
  · have := lcC_no.mp q
    exact (EJ _ _ _ (by omega)).trans ((by rw [f5]; exact x.2.1 _ _ _ (by omega) (by omega)))
  · rw [E22]
    show H.2.2.2.2 = _
    rw [x.2.2]
/-- reading succeeds: the model -/
theorem M_good {G : sh_H} (h8 : G.1 12 0 8 = 0) (h10 : G.1 12 0 10 = 0) : ∃ G', rdE 1 G = some (0, G') ∧ (∀ k, k < 2000 → mS G' k = G.1 13 46 (2000 + k)) ∧ (∀ k, k < 3 → G'.2.1 14 6 k = G.2.1 14 6 (3 + k)) ∧ (∀ c i j, ¬ (c = 13 ∧ i = 46 ∧ j < 2000) → ¬ (c = 12 ∧ j = 0) → c ≠ 16 → G'.1 c i j = G.1 c i j) ∧ (∀ c i j, ¬ (c = 14 ∧ i = 6 ∧ j < 3) → G'.2.1 c i j = G.2.1 c i j) ∧ G'.2.2 = G.2.2 ∧ G'.1 12 0 0 = 0 ∧ G'.1 16 0 2 = 0 ∧ G'.1 16 0 3 = 0 := by
  obtain ⟨K, k1, q1, q2, q3, q4, q5⟩ := M_copy (h := sh_pI G 12 0 0 0) (a := 1) (b := 0) (by omega) (by omega) (by omega)
  have k1' : f_M_copy NF 1 0 (sh_pI G 12 0 0 0) = some K := k1
  refine ⟨sh_pI (sh_pI K 16 0 2 0) 16 0 3 0, ?_, fun k hk => ?_, fun k hk => ?_, fun c i j n1 n2 n3 => ?_, fun c i j n => ?_, ?_, ?_, (pI_ne (by omega)).trans (pI_at ..), pI_at ..⟩
  · unfold rdE f_M_read_b92
    rw [if_neg q_10, h10, if_pos rfl, sh_let, pI_ne (by omega), h8, if_pos rfl, k1', Option.bind_some, if_pos (by decide), sh_let, if_pos (by decide), sh_let]
    rfl
  · have := q1 k hk
    rw [show 2000 * 0 + k = k by omega] at this
    exact (pI_ne (by omega)).trans ((pI_ne (by omega)).trans (this.trans (pI_ne (by omega))))
  · have := q3 k hk
    rw [show 3 * 0 + k = k by omega] at this
    exact this
  · exact (pI_ne (by omega)).trans ((pI_ne (by omega)).trans ((q2 c i j (by omega)).trans (pI_ne (by omega))))
  · exact q4 c i j (by omega)
  · exact q5
  · exact (pI_ne (by omega)).trans ((pI_ne (by omega)).trans ((q2 _ _ _ (by omega)).trans (pI_at ..)))
