/-! ===== the class: who is told, where one is ===== -/
theorem in_bI {k : Int32} {b : Nat} (hb : b < 1000) (P : Bool) : (k < 0 → bI (inP k 0 (nI b) && P) = 0) ∧ (nI (b + 1) ≤ k → bI (inP k 0 (nI b) && P) = 0) := by
  constructor
  · intro h
    have : inP k 0 (nI b) = false := by
      simp only [inP, decide_eq_false_iff_not, i32_le]
      simp only [i32_lt] at h
      intro h2
      have : (0 : Int32).toInt = 0 := rfl
      omega
    rw [this]; rfl
  · intro h
    have : inP k 0 (nI b) = false := by
      simp only [inP, decide_eq_false_iff_not, i32_le]
      simp only [i32_le] at h
      rw [nI_toInt (by omega)] at h ⊢
      intro h2
      omega
    rw [this]; rfl
theorem in_ok {k : Int32} {b : Nat} (hb : b < 1000) (h1 : ¬ k < 0) (h2 : ¬ nI (b + 1) ≤ k) : inP k 0 (nI b) = true := by
  simp only [inP, decide_eq_true_eq, i32_le]
  simp only [i32_le, i32_lt] at h1 h2
  rw [nI_toInt (by omega)] at h2 ⊢
  have : (0 : Int32).toInt = 0 := rfl
  omega
theorem cT_isPerson (L : xLn) (t : xN) (ta : Nat → xN) (k : Int32) : CT L mX6_isPerson 0 0 0 [.ref 0, .int k] (tolW 0 t ta) (fun r Y => r = some (.int (bI (inP k 0 (nI 7) && hasP (t 9) k))) ∧ Y = tolW 0 t ta) := by
  refine CT.of rfl (Nat.le_of_ble_eq_true rfl) (Nat.le_of_ble_eq_true rfl) ?_
  refine AJ.run kX6_isPerson [] 30 ⟨fun h => ⟨Or.inl rfl, ?_, rfl⟩, fun h => ⟨fun h2 => ⟨Or.inl rfl, ?_, rfl⟩, fun h2 => ⟨fun h3 => ⟨Or.inl rfl, ?_, rfl⟩, fun h3 => ⟨Or.inr rfl, ?_, rfl⟩⟩⟩⟩
  · rw [(in_bI (by omega) _).1 h]
  · rw [(in_bI (by omega) _).2 h2]
  · have h3 : ¬ t 9 >>> (k &&& 31) &&& 1 = 1 := h3
    rw [hasP_iff] at h3
    simp [h3, bI]
  · have h3 : t 9 >>> (k &&& 31) &&& 1 = 1 := h3
    rw [hasP_iff] at h3
    rw [in_ok (b := 7) (by omega) h h2, h3]; rfl
theorem cT_isTram (L : xLn) (t : xN) (ta : Nat → xN) (k : Int32) : CT L mX6_isTram 0 0 0 [.ref 0, .int k] (tolW 0 t ta) (fun r Y => r = some (.int (bI (inP k 0 (nI 1) && hasP (t 5) k))) ∧ Y = tolW 0 t ta) := by
  refine CT.of rfl (Nat.le_of_ble_eq_true rfl) (Nat.le_of_ble_eq_true rfl) ?_
  refine AJ.run kX6_isTram [] 30 ⟨fun h => ⟨Or.inl rfl, ?_, rfl⟩, fun h => ⟨fun h2 => ⟨Or.inl rfl, ?_, rfl⟩, fun h2 => ⟨fun h3 => ⟨Or.inl rfl, ?_, rfl⟩, fun h3 => ⟨Or.inr rfl, ?_, rfl⟩⟩⟩⟩
  · rw [(in_bI (by omega) _).1 h]
  · rw [(in_bI (by omega) _).2 h2]
  · have h3 : ¬ t 5 >>> (k &&& 31) &&& 1 = 1 := h3
    rw [hasP_iff] at h3
    simp [h3, bI]
  · have h3 : t 5 >>> (k &&& 31) &&& 1 = 1 := h3
    rw [hasP_iff] at h3
    rw [in_ok (b := 1) (by omega) h h2, h3]; rfl
theorem cT_isPlace (L : xLn) (t : xN) (ta : Nat → xN) (k : Int32) (l : Nat) (hl : t 0 = nI l) (h1 : 1 ≤ l) (h2 : l ≤ 12) : CT L mX6_isPlace 0 0 0 [.ref 0, .int k] (tolW 0 t ta) (fun r Y => r = some (.int (bI (inP k 0 (nI (l - 1))))) ∧ Y = tolW 0 t ta) := by
  refine CT.of rfl (Nat.le_of_ble_eq_true rfl) (Nat.le_of_ble_eq_true rfl) ?_
  have e : nI l = nI (l - 1 + 1) := by rw [Nat.sub_add_cancel h1]
  have f : ∀ P : Prop, P → P := fun _ h => h
  refine AJ.run kX6_isPlace [] 30 ⟨fun h => ⟨Or.inl rfl, ?_, rfl⟩, fun h => ⟨fun h3 => ⟨Or.inl rfl, ?_, rfl⟩, fun h3 => ⟨fun h4 => ⟨Or.inl rfl, ?_, rfl⟩, fun h4 => ⟨Or.inr rfl, ?_, rfl⟩⟩⟩⟩
  · have := (in_bI (b := l - 1) (by omega) true).1 h
    rw [Bool.and_true] at this
    rw [this]
  · have h3 : t 0 ≤ k := h3
    rw [hl, e] at h3
    have := (in_bI (b := l - 1) (by omega) true).2 h3
    rw [Bool.and_true] at this
    rw [this]
  · have h3 : ¬ t 0 ≤ k := h3
    have h4 : nI 12 ≤ k := h4
    exfalso
    rw [hl] at h3
    simp only [i32_le] at h3 h4
    rw [nI_toInt (by omega)] at h3 h4
    omega
  · have h3 : ¬ t 0 ≤ k := h3
    rw [hl, e] at h3
    rw [in_ok (by omega) h h3]; rfl
theorem nI_m1 {n : Nat} (h : n < 2 ^ 31) : ¬ nI n = -1 := by
  intro q
  rw [i32_eq, nI_toInt h] at q
  have : (-1 : Int32).toInt = -1 := rfl
  omega
theorem in_nI {p b : Nat} (hb : b < 1000) : inP (nI p) 0 (nI b) = decide (p ≤ b) ∨ 2 ^ 31 ≤ p := by
  by_cases h : p < 2 ^ 31
  · left
    simp only [inP, i32_le]
    rw [nI_toInt h, nI_toInt (by omega)]
    have : (0 : Int32).toInt = 0 := rfl
    congr 1
    simp only [eq_iff_iff]
    omega
  · right; omega
theorem in_nI' {p b : Nat} (hb : b < 1000) (hp : p < 2 ^ 31) : inP (nI p) 0 (nI b) = decide (p ≤ b) := by
  rcases in_nI (p := p) hb with h | h
  · exact h
  · omega
/-- whose tram: none, or one -/
theorem cD_tramOf (L : xLn) (d : xN) (da : Nat → xN) (t : xN) (ta : Nat → xN) (N : xN) (q : Nat) (hq : q < 8) (hP : RP da N) (hN : abO N) : CT L mX0_tramOf 0 0 0 [.ref 0, .int (nI q)] (dtW d da t ta) (fun r Y => r = some (.int (N (17 + q))) ∧ Y = dtW d da t ta) := by
  refine CT.of rfl (Nat.le_of_ble_eq_true rfl) (Nat.le_of_ble_eq_true rfl) ?_
  have b0 := hP.1 0 (by omega) q (by omega)
  have b1 := hP.1 1 (by omega) q (by omega)
  have key : ∀ k, k < 2 → (da 6 k >>> (nI q &&& 31) &&& 1 = 1 ↔ N (17 + q) = nI k) := by
    intro k hk
    rw [hasP_iff, hP.1 k hk q (by omega)]
    simp [hq]
  refine AJ.run kX0_tramOf [] 60 ⟨fun h => absurd h (by decide), fun h => ⟨0, rfl, by omega, fun h2 => ⟨fun h => absurd h (by decide), fun h => ⟨1, rfl, by omega, fun h3 => ⟨fun h => ⟨?_, rfl⟩, fun h => absurd (by decide) h⟩, fun h3 => ⟨?_, rfl⟩⟩⟩, fun h2 => ⟨?_, rfl⟩⟩⟩
  · have h2 : ¬ da 6 0 >>> (nI q &&& 31) &&& 1 = 1 := h2
    have h3 : ¬ da 6 1 >>> (nI q &&& 31) &&& 1 = 1 := h3
    rw [key 0 (by omega)] at h2
    rw [key 1 (by omega)] at h3
    rcases hN q hq with h | h | h
    · rw [h]
    · exact absurd h h2
    · exact absurd h h3
  · have h3 : da 6 1 >>> (nI q &&& 31) &&& 1 = 1 := h3
    rw [key 1 (by omega)] at h3
    rw [h3]; rfl
  · have h2 : da 6 0 >>> (nI q &&& 31) &&& 1 = 1 := h2
    rw [key 0 (by omega)] at h2
    rw [h2]; rfl
theorem IVp.ab {e : Nat} {s : xN} {a : Nat → xN} {N : xN} (h : IVp e s a N) : abO N := by
  intro p hp
  rcases (h p hp).1 with h1 | ⟨k, hk, h1, -⟩
  · exact Or.inl h1
  · rcases (show k = 0 ∨ k = 1 by omega) with rfl | rfl
    · exact Or.inr (Or.inl h1)
    · exact Or.inr (Or.inr h1)
theorem cD_placeOf (L : xLn) (d : xN) (da : Nat → xN) (t : xN) (ta : Nat → xN) (m e : Nat) (s : xN) (a : Nat → xN) (N : xN) (q : Nat) (hq : q < 8) (hT : RT m t ta s a) (hf : hasP (s 7) (nI q) = true) (hA : RA d da N) (hP : RP da N) (hI : IVp e s a N) : CT L mX0_placeOf 1 0 0 [.ref 0, .int (nI q)] (dtW d da t ta) (fun r Y => r = some (.int (plP N q)) ∧ Y = dtW d da t ta) := by
  refine CT.of rfl (Nat.le_of_ble_eq_true rfl) (Nat.le_of_ble_eq_true rfl) ?_
  have hN := hI.ab
  have e1 : bI (inP (nI q) 0 (nI 7) && hasP (t 9) (nI q)) = 1 := by
    rw [in_nI' (by omega) (by omega), hT.1.2.2.2.2.2.2.1, hf]
    have : q ≤ 7 := by omega
    simp [this, bI]
  have e2 := hT.2.2.1 q hq
  have e3 := (hI q hq).2.2.1
  have e4 := (hP.2 q hq).1
  refine AJ.run kX0_placeOf [] 30 ?_
  refine AJ.callP kX0_placeOf (cT_isPerson L t ta (nI q)) bX6_isPerson rfl (by decide +kernel) [13, 14, 15, 16, 17, 18, 19, 20, 21, 22] [] rfl rfl rfl rfl rfl rfl rfl rfl rfl rfl ?_
  rintro r rfl
  rw [e1]
  refine AJ.run kX0_placeOf [] 30 ⟨fun _ => ?_, fun h => absurd h (by decide)⟩
  refine AJ.callF kX0_placeOf (cD_tramOf L d da t ta N q hq hP hN) bX0_tramOf rfl (by decide +kernel) [] rfl rfl rfl rfl rfl rfl rfl rfl ?_
  rintro r Y ⟨rfl, rfl⟩
  refine ⟨rfl, rfl, ?_⟩
  refine AJ.run kX0_placeOf [] 30 ⟨fun h => ?_, fun h => ?_⟩
  · have h : N (17 + q) = -1 := h
    refine ⟨q, rfl, by omega, fun h2 => ⟨q, rfl, by omega, ?_, rfl⟩, fun h2 => ⟨q, rfl, by omega, ?_, rfl⟩⟩
    · have h2 : ¬ da 8 q = -1 := h2
      rw [e4] at h2
      show some (Value.int (ta 11 q)) = _
      rw [plP, if_pos h, e3, if_neg h2, e2.2]
    · have h2 : da 8 q = -1 := h2
      rw [e4] at h2
      show some (Value.int (ta 10 q)) = _
      rw [plP, if_pos h, e3, if_pos h2, e2.1]
  · have h : ¬ N (17 + q) = -1 := h
    rcases hN q hq with h2 | h2 | h2
    · exact absurd h2 h
    · refine ⟨0, h2, by omega, ?_, rfl⟩
      show some (Value.int (da 4 0)) = _
      rw [plP, if_neg h, h2, (hA.2 0 (by omega)).1, nI_clamp (by omega)]
    · refine ⟨1, h2, by omega, ?_, rfl⟩
      show some (Value.int (da 4 1)) = _
      rw [plP, if_neg h, h2, (hA.2 1 (by omega)).1, nI_clamp (by omega)]
