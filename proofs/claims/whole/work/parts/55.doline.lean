/-! ===== the reference: a line is done ===== -/
/-- this answer, this world -/
def eqQ (r0 : Option Value) (Y0 : List xE) : Option Value → List xE → Prop := fun r Y => r = r0 ∧ Y = Y0
theorem dlS_w0 (ns s : xN) : dlS 0 ns s = upd (upd (upd (upd s 0 (ns 0)) 5 0) 7 0) 9 0 := by simp [dlS]
theorem dlS_w1 (ns s : xN) : dlS 1 ns s = upd (upd s 1 (ns 0)) 2 (ns 1) := by simp [dlS]
theorem dlS_w2 (ns s : xN) : dlS 2 ns s = upd s 3 (ns 0) := by simp [dlS]
theorem dlS_w3 (ns s : xN) : dlS 3 ns s = upd s 4 (ns 0) := by simp [dlS]
theorem dlS_w4 (ns s : xN) : dlS 4 ns s = upd s 5 (s 5 ||| 1 <<< (ns 0 &&& 31)) := by simp [dlS]
theorem dlS_w5 (ns s : xN) : dlS 5 ns s = upd s 7 (s 7 ||| 1 <<< (ns 0 &&& 31)) := by simp [dlS]
theorem dlS_w9 (ns s : xN) : dlS 9 ns s = upd s 9 0 := by simp [dlS]
theorem dlS_wm {w : Nat} (h : 6 ≤ w ∧ w ≤ 8) (ns s : xN) : dlS w ns s = upd s 9 (s 9 + 1) := by
  unfold dlS
  rw [if_neg (by omega), if_neg (by omega), if_neg (by omega), if_neg (by omega), if_neg (by omega), if_neg (by omega), if_neg (by omega), if_pos (by omega)]
theorem dlA_w {w : Nat} (h : w < 4 ∨ w = 9) (ns s : xN) (a : Nat → xN) : dlA w ns s a = a := by
  unfold dlA
  rw [if_neg (by omega), if_neg (by omega), if_neg (by omega)]
theorem dlA_w4 (ns s : xN) (a : Nat → xN) : dlA 4 ns s a = va_up a 6 (upd (upd (upd (a 6) (3 * (ns 0).toNatClampNeg) (ns 1)) (3 * (ns 0).toNatClampNeg + 1) (ns 2)) (3 * (ns 0).toNatClampNeg + 2) (ns 3)) := by simp [dlA]
theorem dlA_w5 (ns s : xN) (a : Nat → xN) : dlA 5 ns s a = va_up a 8 (upd (upd (a 8) (2 * (ns 0).toNatClampNeg) (ns 1)) (2 * (ns 0).toNatClampNeg + 1) (ns 2)) := by simp [dlA]
theorem dlA_wm {w : Nat} (h : 6 ≤ w ∧ w ≤ 8) (ns s : xN) (a : Nat → xN) : dlA w ns s a = addP a (s 9).toNatClampNeg (ns 0) (nI w - 6) (ns 1) := by
  unfold dlA
  rw [if_neg (by omega), if_neg (by omega), if_pos h]
set_option maxHeartbeats 1000000 in
theorem c8_doLine (L : xLn) (s : xN) (j : Int64) (a : Nat → xN) (i w m : Nat) (ns : xN) (hi : i < 10) (hm : s 9 = nI m) (hm2 : m ≤ 24) (ha : a 25 (5 * i) = nI w) (hns : ∀ k, a 25 (5 * i + 1 + k) = ns k) (hl : lnOK w ns s) : CT L mX8_doLine 1 0 0 [.ref 0, .int (nI (5 * i))] (modW s j a) (eqQ none (modW (dlS w ns s) j (dlA w ns s a))) := by
  refine CT.of rfl (Nat.le_of_ble_eq_true rfl) (Nat.le_of_ble_eq_true rfl) ?_
  have nxt : eqQ none (modW (dlS w ns s) j (dlA w ns s a)) none (modW (dlS w ns s) j (dlA w ns s a)) := ⟨rfl, rfl⟩
  generalize eqQ none (modW (dlS w ns s) j (dlA w ns s a)) = Q at nxt ⊢
  obtain ⟨hw, hl2, hl3⟩ := hl
  have i1 : nI (5 * i) + 1 = nI (5 * i + 1) := nI_1 _
  have i2 : nI (5 * i) + 2 = nI (5 * i + 2) := nI_add _ 2
  have i3 : nI (5 * i) + 3 = nI (5 * i + 3) := nI_add _ 3
  have q0 : a 25 (5 * i + 1) = ns 0 := hns 0
  have q1 : a 25 (5 * i + 2) = ns 1 := hns 1
  have q2 : a 25 (5 * i + 3) = ns 2 := hns 2
  have q3 : a 25 (5 * i + 4) = ns 3 := hns 3
  have sw : ∀ k, a 25 (5 * i) = nI k → k < 10 → k = w := by
    intro k hk h
    rw [ha, nI_eq (by omega) (by omega)] at hk
    exact hk.symm
  refine AJ.run kX8_doLine [80, 103, 116, 124, 132, 184, 226, 234] 60 ⟨5 * i + 1, i1, by omega, 5 * i + 2, i2, by omega, 5 * i, rfl, by omega, ?_⟩
  rw [q0, q1]
  refine ⟨fun h => ?_, fun h0 => ⟨fun h => ?_, fun h1 => ⟨fun h => ?_, fun h2 => ⟨fun h => ?_, fun h3 => ⟨fun h => ?_, fun h4 => ⟨fun h => ?_, fun h5 => ⟨fun h => ?_, fun h6 => ⟨fun h => ?_, fun h7 => ⟨fun h => ?_, fun h8 => ⟨fun h => ?_, fun h9 => ?_⟩⟩⟩⟩⟩⟩⟩⟩⟩⟩
  · obtain rfl := sw 0 h (by omega)
    rw [dlS_w0, dlA_w (by omega)] at nxt
    exact AJ.run kX8_doLine [] 60 nxt
  · obtain rfl := sw 1 h (by omega)
    rw [dlS_w1, dlA_w (by omega)] at nxt
    exact AJ.run kX8_doLine [] 60 nxt
  · obtain rfl := sw 2 h (by omega)
    rw [dlS_w2, dlA_w (by omega)] at nxt
    exact AJ.run kX8_doLine [] 60 nxt
  · obtain rfl := sw 3 h (by omega)
    rw [dlS_w3, dlA_w (by omega)] at nxt
    exact AJ.run kX8_doLine [] 60 nxt
  · obtain rfl := sw 4 h (by omega)
    obtain ⟨v, hv, ev⟩ := inP_nI (n := 1) (by omega) (hl3 0 (by decide))
    rw [dlS_w4, dlA_w4, ev, nI_clamp (by omega), ← q1, ← q2, ← q3] at nxt
    rw [ev]
    have j0 : 3 * nI v + 0 = nI (3 * v) := by rw [show (3 : Int32) = nI 3 from rfl, pk_mul]; exact nI_add _ 0
    have j1 : 3 * nI v + (0 + 1) = nI (3 * v + 1) := by rw [show (3 : Int32) = nI 3 from rfl, pk_mul]; exact nI_add _ 1
    have j2 : 3 * nI v + (0 + 1 + 1) = nI (3 * v + 2) := by rw [show (3 : Int32) = nI 3 from rfl, pk_mul]; exact nI_add _ 2
    have l0 : nI (5 * i) + 2 + 0 = nI (5 * i + 2) := by rw [i2]; exact nI_add _ 0
    have l1 : nI (5 * i) + 2 + (0 + 1) = nI (5 * i + 3) := by rw [i2]; exact nI_add _ 1
    have l2 : nI (5 * i) + 2 + (0 + 1 + 1) = nI (5 * i + 4) := by rw [i2]; exact nI_add _ 2
    exact AJ.run kX8_doLine [] 150 ⟨fun hz => absurd hz (by decide), fun _ => ⟨5 * i + 2, l0, by omega, 3 * v, j0, by omega, fun hz => absurd hz (by decide), fun _ => ⟨5 * i + 3, l1, by omega, 3 * v + 1, j1, by omega, fun hz => absurd hz (by decide), fun _ => ⟨5 * i + 4, l2, by omega, 3 * v + 2, j2, by omega, fun _ => nxt, fun hz => absurd (by decide) hz⟩⟩⟩⟩
  · obtain rfl := sw 5 h (by omega)
    obtain ⟨v, hv, ev⟩ := inP_nI (n := 7) (by omega) (hl3 0 (by decide))
    rw [dlS_w5, dlA_w5, ev, nI_clamp (by omega), ← q2] at nxt
    rw [ev]
    have j0 : 2 * nI v = nI (2 * v) := by rw [show (2 : Int32) = nI 2 from rfl, pk_mul]
    have j1 : 2 * nI v + 1 = nI (2 * v + 1) := by rw [j0, nI_1]
    exact AJ.run kX8_doLine [] 150 ⟨2 * v, j0, by omega, 5 * i + 3, i3, by omega, 2 * v + 1, j1, by omega, nxt⟩
  case refine_10 =>
    obtain rfl := sw 9 h (by omega)
    rw [dlS_w9, dlA_w (by omega)] at nxt
    exact AJ.run kX8_doLine [] 60 nxt
  case refine_11 =>
    exfalso
    rcases w10 hw with z | z | z | z | z | z | z | z | z | z <;> subst z
    · exact h0 ha
    · exact h1 ha
    · exact h2 ha
    · exact h3 ha
    · exact h4 ha
    · exact h5 ha
    · exact h6 ha
    · exact h7 ha
    · exact h8 ha
    · exact h9 ha
  all_goals
    have hw3 : 6 ≤ w ∧ w ≤ 8 := by
      first
      | exact ⟨by rw [← sw 6 h (by omega)]; omega, by rw [← sw 6 h (by omega)]; omega⟩
      | exact ⟨by rw [← sw 7 h (by omega)]; omega, by rw [← sw 7 h (by omega)]; omega⟩
      | exact ⟨by rw [← sw 8 h (by omega)]; omega, by rw [← sw 8 h (by omega)]; omega⟩
    have hm24 : m < 24 := by
      have h24 := hl2 hw3
      rw [hm] at h24
      rcases Nat.lt_or_ge m 24 with z | z
      · exact z
      · exact absurd (by rw [show m = 24 by omega]; rfl) h24
    rw [dlS_wm hw3, dlA_wm hw3, hm, nI_clamp (by omega), ← hm, ← ha] at nxt
    refine AJ.run kX8_doLine [246] 60 ⟨5 * i, rfl, by omega, ?_⟩
    refine AJ.callF kX8_doLine (c8_addMood L s j a (ns 0) (a 25 (5 * i) - 6) (ns 1) m hm (by omega)) bX8_addMood rfl (by decide +kernel) [] rfl rfl rfl rfl rfl rfl rfl rfl ?_
    rintro r Y ⟨rfl, rfl⟩
    exact ⟨rfl, rfl, AJ.run kX8_doLine [] 60 nxt⟩
