/-! PAIR: read: a state cleared -/
theorem st_rc : ∀ s, s < 3 → sh_pr s = 14 + 4 * s ∧ sh_rc (14 + 4 * s) = 20 + 4 * s ∧ sh_rc (4 * s + 17) = 23 + 4 * s ∧ sh_m (14 + 4 * s) = 30 ∧ sh_w (14 + 4 * s) = 4 ∧ sh_m (4 * s + 17) = 4 ∧ sh_w (4 * s + 17) = 6 := by decide +kernel
def SC (s : Nat) (h' h : sh_H) : Prop := h'.1 6 (14 + 4 * s) 3 = nI 30 ∧ (∀ q, q < 120 → h'.1 13 (20 + 4 * s) q = 0) ∧ h'.1 6 (15 + 4 * s) 3 = 0 ∧ h'.1 6 (16 + 4 * s) 3 = 0 ∧ h'.1 6 (17 + 4 * s) 3 = nI 4 ∧ (∀ q, q < 24 → h'.1 13 (23 + 4 * s) q = 0) ∧ h'.1 7 s 4 = 0 ∧ h'.2.1 7 s 5 = 0 ∧ h'.2.1 7 s 6 = 0 ∧ h'.2.1 7 s 7 = 0 ∧ h'.1 7 s 8 = 0 ∧ (∀ c i j, ¬ (c = 6 ∧ 14 + 4 * s ≤ i ∧ i < 18 + 4 * s ∧ j = 3) → ¬ (c = 13 ∧ (i = 20 + 4 * s ∨ i = 23 + 4 * s)) → ¬ (c = 7 ∧ i = s) → h'.1 c i j = h.1 c i j) ∧ (∀ c i j, ¬ (c = 7 ∧ i = s) → h'.2.1 c i j = h.2.1 c i j) ∧ h'.2.2 = h.2.2
theorem S_clear {s : Nat} {h : sh_H} (hs : s < 3) (hC : RC h) : ∃ h', f_State_clear NF s h = some h' ∧ RC h' ∧ SC s h' h := by
  obtain ⟨r1, r2, r3, r4, r5, r6, r7⟩ := st_rc s hs
  have z1 := rows_zero (h := h) (r := 14 + 4 * s) hC (by omega)
  have c1 : RC (hR h (14 + 4 * s) (sh_m (14 + 4 * s)) (zrow (fun j => h.1 13 (sh_rc (14 + 4 * s)) j) 0 (sh_m (14 + 4 * s) * sh_w (14 + 4 * s)))) := hR_RC hC
  have a1 : ∀ c i j, ¬ (c = 6 ∧ i = 14 + 4 * s ∧ j = 3) → ¬ (c = 13 ∧ i = 20 + 4 * s) → (hR h (14 + 4 * s) (sh_m (14 + 4 * s)) (zrow (fun j => h.1 13 (sh_rc (14 + 4 * s)) j) 0 (sh_m (14 + 4 * s) * sh_w (14 + 4 * s)))).1 c i j = h.1 c i j := fun c i j n1 n2 => hR_ne (by rw [r2]; omega) (by omega)
  have a2 : (hR h (14 + 4 * s) (sh_m (14 + 4 * s)) (zrow (fun j => h.1 13 (sh_rc (14 + 4 * s)) j) 0 (sh_m (14 + 4 * s) * sh_w (14 + 4 * s)))).1 6 (14 + 4 * s) 3 = nI 30 := (hR_sz ..).trans (by rw [r4])
  have a3 : ∀ q, q < 120 → (hR h (14 + 4 * s) (sh_m (14 + 4 * s)) (zrow (fun j => h.1 13 (sh_rc (14 + 4 * s)) j) 0 (sh_m (14 + 4 * s) * sh_w (14 + 4 * s)))).1 13 (20 + 4 * s) q = 0 := fun q hq => by
    rw [← r2, hR_at, zrow_in (by rw [r4, r5]; omega)]
  have a4 : (hR h (14 + 4 * s) (sh_m (14 + 4 * s)) (zrow (fun j => h.1 13 (sh_rc (14 + 4 * s)) j) 0 (sh_m (14 + 4 * s) * sh_w (14 + 4 * s)))).2 = h.2 := rfl
  generalize hR h (14 + 4 * s) (sh_m (14 + 4 * s)) (zrow (fun j => h.1 13 (sh_rc (14 + 4 * s)) j) 0 (sh_m (14 + 4 * s) * sh_w (14 + 4 * s))) = h1 at z1 c1 a1 a2 a3 a4
  have c2 : RC (sh_pI (sh_pI h1 6 (4 * s + 15) 3 0) 6 (4 * s + 16) 3 0) := RC_of c1 (fun r j _ _ => (pI_ne (by omega)).trans (pI_ne (by omega)))
  have z2 := rows_zero (h := sh_pI (sh_pI h1 6 (4 * s + 15) 3 0) 6 (4 * s + 16) 3 0) (r := 4 * s + 17) c2 (by omega)
  have c3 : RC (hR (sh_pI (sh_pI h1 6 (4 * s + 15) 3 0) 6 (4 * s + 16) 3 0) (4 * s + 17) (sh_m (4 * s + 17)) (zrow (fun j => (sh_pI (sh_pI h1 6 (4 * s + 15) 3 0) 6 (4 * s + 16) 3 0).1 13 (sh_rc (4 * s + 17)) j) 0 (sh_m (4 * s + 17) * sh_w (4 * s + 17)))) := hR_RC c2
  have b1 : ∀ c i j, ¬ (c = 6 ∧ i = 4 * s + 17 ∧ j = 3) → ¬ (c = 13 ∧ i = 23 + 4 * s) → (hR (sh_pI (sh_pI h1 6 (4 * s + 15) 3 0) 6 (4 * s + 16) 3 0) (4 * s + 17) (sh_m (4 * s + 17)) (zrow (fun j => (sh_pI (sh_pI h1 6 (4 * s + 15) 3 0) 6 (4 * s + 16) 3 0).1 13 (sh_rc (4 * s + 17)) j) 0 (sh_m (4 * s + 17) * sh_w (4 * s + 17)))).1 c i j = (sh_pI (sh_pI h1 6 (4 * s + 15) 3 0) 6 (4 * s + 16) 3 0).1 c i j := fun c i j n1 n2 => hR_ne (by rw [r3]; omega) (by omega)
  have b2 : (hR (sh_pI (sh_pI h1 6 (4 * s + 15) 3 0) 6 (4 * s + 16) 3 0) (4 * s + 17) (sh_m (4 * s + 17)) (zrow (fun j => (sh_pI (sh_pI h1 6 (4 * s + 15) 3 0) 6 (4 * s + 16) 3 0).1 13 (sh_rc (4 * s + 17)) j) 0 (sh_m (4 * s + 17) * sh_w (4 * s + 17)))).1 6 (4 * s + 17) 3 = nI 4 := (hR_sz ..).trans (by rw [r6])
  have b3 : ∀ q, q < 24 → (hR (sh_pI (sh_pI h1 6 (4 * s + 15) 3 0) 6 (4 * s + 16) 3 0) (4 * s + 17) (sh_m (4 * s + 17)) (zrow (fun j => (sh_pI (sh_pI h1 6 (4 * s + 15) 3 0) 6 (4 * s + 16) 3 0).1 13 (sh_rc (4 * s + 17)) j) 0 (sh_m (4 * s + 17) * sh_w (4 * s + 17)))).1 13 (23 + 4 * s) q = 0 := fun q hq => by
    rw [← r3, hR_at, zrow_in (by rw [r6, r7]; omega)]
  have b4 : (hR (sh_pI (sh_pI h1 6 (4 * s + 15) 3 0) 6 (4 * s + 16) 3 0) (4 * s + 17) (sh_m (4 * s + 17)) (zrow (fun j => (sh_pI (sh_pI h1 6 (4 * s + 15) 3 0) 6 (4 * s + 16) 3 0).1 13 (sh_rc (4 * s + 17)) j) 0 (sh_m (4 * s + 17) * sh_w (4 * s + 17)))).2 = h1.2 := rfl
  generalize hR (sh_pI (sh_pI h1 6 (4 * s + 15) 3 0) 6 (4 * s + 16) 3 0) (4 * s + 17) (sh_m (4 * s + 17)) (zrow (fun j => (sh_pI (sh_pI h1 6 (4 * s + 15) 3 0) 6 (4 * s + 16) 3 0).1 13 (sh_rc (4 * s + 17)) j) 0 (sh_m (4 * s + 17) * sh_w (4 * s + 17))) = h2 at z2 c3 b1 b2 b3 b4
  have b5 : ∀ c i j, ¬ (c = 6 ∧ 15 + 4 * s ≤ i ∧ i < 18 + 4 * s ∧ j = 3) → ¬ (c = 13 ∧ i = 23 + 4 * s) → h2.1 c i j = h1.1 c i j := fun c i j n1 n2 => (b1 c i j (by omega) n2).trans ((pI_ne (by omega)).trans (pI_ne (by omega)))
  have e15 : h2.1 6 (15 + 4 * s) 3 = 0 := (b1 _ _ _ (by omega) (by omega)).trans ((pI_ne (by omega)).trans (by rw [show 15 + 4 * s = 4 * s + 15 by omega, pI_at]))
  have e16 : h2.1 6 (16 + 4 * s) 3 = 0 := (b1 _ _ _ (by omega) (by omega)).trans (by rw [show 16 + 4 * s = 4 * s + 16 by omega, pI_at])
  have t2 : (sh_pI (sh_pJ (sh_pJ (sh_pJ (sh_pI h2 7 s 4 (0 : Int32)) 7 s 5 (0 : Int64)) 7 s 6 (0 : Int64)) 7 s 7 (0 : Int64)) 7 s 8 (0 : Int32)).1 7 s 4 = 0 := (pI_ne (by omega)).trans (pI_at h2 7 s 4 0)
  have tf : ∀ c i j, ¬ (c = 7 ∧ i = s) → (sh_pI (sh_pJ (sh_pJ (sh_pJ (sh_pI h2 7 s 4 (0 : Int32)) 7 s 5 (0 : Int64)) 7 s 6 (0 : Int64)) 7 s 7 (0 : Int64)) 7 s 8 (0 : Int32)).1 c i j = h2.1 c i j := fun c i j n => (pI_ne (by omega)).trans ((show (sh_pI h2 7 s 4 (0 : Int32)).1 c i j = h2.1 c i j from pI_ne (by omega)))
  have tj : ∀ c i j, ¬ (c = 7 ∧ i = s) → (sh_pI (sh_pJ (sh_pJ (sh_pJ (sh_pI h2 7 s 4 (0 : Int32)) 7 s 5 (0 : Int64)) 7 s 6 (0 : Int64)) 7 s 7 (0 : Int64)) 7 s 8 (0 : Int32)).2.1 c i j = h2.2.1 c i j := fun c i j n => (show (sh_pJ (sh_pJ (sh_pJ (sh_pI h2 7 s 4 (0 : Int32)) 7 s 5 (0 : Int64)) 7 s 6 (0 : Int64)) 7 s 7 (0 : Int64)).2.1 c i j = h2.2.1 c i j from (pJ_ne (by omega)).trans ((pJ_ne (by omega)).trans (pJ_ne (by omega))))
  have j7 : (sh_pI (sh_pJ (sh_pJ (sh_pJ (sh_pI h2 7 s 4 (0 : Int32)) 7 s 5 (0 : Int64)) 7 s 6 (0 : Int64)) 7 s 7 (0 : Int64)) 7 s 8 (0 : Int32)).2.1 7 s 7 = 0 := pJ_at (sh_pJ (sh_pJ (sh_pI h2 7 s 4 (0 : Int32)) 7 s 5 (0 : Int64)) 7 s 6 (0 : Int64)) 7 s 7 0
  have j6 : (sh_pI (sh_pJ (sh_pJ (sh_pJ (sh_pI h2 7 s 4 (0 : Int32)) 7 s 5 (0 : Int64)) 7 s 6 (0 : Int64)) 7 s 7 (0 : Int64)) 7 s 8 (0 : Int32)).2.1 7 s 6 = 0 := (show (sh_pJ (sh_pJ (sh_pJ (sh_pI h2 7 s 4 (0 : Int32)) 7 s 5 (0 : Int64)) 7 s 6 (0 : Int64)) 7 s 7 (0 : Int64)).2.1 7 s 6 = 0 from (pJ_ne (by omega)).trans (pJ_at (sh_pJ (sh_pI h2 7 s 4 (0 : Int32)) 7 s 5 (0 : Int64)) 7 s 6 0))
  have j5 : (sh_pI (sh_pJ (sh_pJ (sh_pJ (sh_pI h2 7 s 4 (0 : Int32)) 7 s 5 (0 : Int64)) 7 s 6 (0 : Int64)) 7 s 7 (0 : Int64)) 7 s 8 (0 : Int32)).2.1 7 s 5 = 0 := (show (sh_pJ (sh_pJ (sh_pJ (sh_pI h2 7 s 4 (0 : Int32)) 7 s 5 (0 : Int64)) 7 s 6 (0 : Int64)) 7 s 7 (0 : Int64)).2.1 7 s 5 = 0 from (pJ_ne (by omega)).trans ((pJ_ne (by omega)).trans (pJ_at (sh_pI h2 7 s 4 (0 : Int32)) 7 s 5 0)))
  refine ⟨sh_pI (sh_pJ (sh_pJ (sh_pJ (sh_pI h2 7 s 4 (0 : Int32)) 7 s 5 (0 : Int64)) 7 s 6 (0 : Int64)) 7 s 7 (0 : Int64)) 7 s 8 (0 : Int32), ?_, RC_of c3 (fun r j _ _ => tf _ _ _ (by omega)), ?_, fun q hq => ?_, ?_, ?_, ?_, fun q hq => ?_, t2, j5, j6, j7, pI_at .., fun c i j n1 n2 n3 => ?_, fun c i j n => ?_, ?_⟩
  · unfold f_State_clear f_Pieces_clear f_Rows_clear
    simp only [sh_let]
    rw [r1, z1, Option.bind_some, Option.bind_some, Option.bind_some, Option.bind_some, z2, Option.bind_some]
  · rw [tf _ _ _ (by omega), b5 _ _ _ (by omega) (by omega), a2]
  · rw [tf _ _ _ (by omega), b5 _ _ _ (by omega) (by omega), a3 q hq]
  · rw [tf _ _ _ (by omega), e15]
  · rw [tf _ _ _ (by omega), e16]
  · rw [tf _ _ _ (by omega), show 17 + 4 * s = 4 * s + 17 by omega, b2]
  · rw [tf _ _ _ (by omega), b3 q hq]
  · rw [tf _ _ _ n3, b5 _ _ _ (by omega) (by omega), a1 _ _ _ (by omega) (by omega)]
  · rw [tj _ _ _ n, b4, a4]
  · show h2.2.2 = h.2.2
    rw [b4, a4]
