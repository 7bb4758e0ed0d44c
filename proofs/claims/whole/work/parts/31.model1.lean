/-! ===== the reference, its small methods ===== -/
theorem c8_in (L : xLn) (v a b : Int32) : CT L mX8_in 0 0 0 [.int v, .int a, .int b] [] (fun r Y => r = some (.int (bI (inP v a b))) ∧ Y = []) := by
  refine CT.of rfl (Nat.le_of_ble_eq_true rfl) (Nat.le_of_ble_eq_true rfl) ?_
  refine AJ.run kX8_in [] 20 ?_
  refine ⟨fun h => ⟨Or.inl rfl, ?_, rfl⟩, fun h => ⟨fun h2 => ⟨Or.inl rfl, ?_, rfl⟩, fun h2 => ⟨Or.inr rfl, ?_, rfl⟩⟩⟩
  all_goals
    simp only [i32_lt, i32_le] at *
    simp only [inP, i32_le, bI]
    simp
    omega
theorem c8_has (L : xLn) (s k : Int32) : CT L mX8_has 0 0 0 [.int s, .int k] [] (fun r Y => r = some (.int (bI (hasP s k))) ∧ Y = []) := by
  refine CT.of rfl (Nat.le_of_ble_eq_true rfl) (Nat.le_of_ble_eq_true rfl) ?_
  refine AJ.run kX8_has [] 20 ?_
  refine ⟨fun h => ⟨Or.inl rfl, ?_, rfl⟩, fun h => ⟨Or.inr rfl, ?_, rfl⟩⟩
  · simp [hasP, h, bI]
  · simp [hasP, h, bI]
def isPersonP (s : Nat → Int32) (k : Int32) : Bool := inP k 0 7 && hasP (s 7) k
theorem c8_isPerson (L : xLn) (s : Nat → Int32) (j : Int64) (a : Nat → Nat → Int32) (k : Int32) : CT L mX8_isPerson 1 0 0 [.ref 0, .int k] (modW s j a) (fun r Y => r = some (.int (bI (isPersonP s k))) ∧ Y = modW s j a) := by
  refine CT.of rfl (Nat.le_of_ble_eq_true rfl) (Nat.le_of_ble_eq_true rfl) ?_
  refine AJ.run kX8_isPerson [] 30 ?_
  refine AJ.callS kX8_isPerson (c8_in L k 0 7) bX8_in rfl (by decide +kernel) [] [] rfl rfl rfl rfl rfl rfl rfl ?_
  rintro r Y ⟨rfl, rfl⟩
  refine ⟨rfl, ?_⟩
  refine AJ.run kX8_isPerson [] 30 ?_
  refine ⟨fun h => ⟨Or.inl rfl, ?_, rfl⟩, fun h => ?_⟩
  · rw [bI_eq0] at h
    simp [isPersonP, h, bI]
  rw [bI_ne0] at h
  refine AJ.callS kX8_isPerson (c8_has L (s 7) k) bX8_has rfl (by decide +kernel) [] [] rfl rfl rfl rfl rfl rfl rfl ?_
  rintro r Y ⟨rfl, rfl⟩
  refine ⟨rfl, ?_⟩
  refine AJ.run kX8_isPerson [] 30 ?_
  refine ⟨fun h2 => ⟨Or.inl rfl, ?_, rfl⟩, fun h2 => ⟨Or.inr rfl, ?_, rfl⟩⟩
  · rw [bI_eq0] at h2
    simp [isPersonP, h, h2, bI]
  · rw [bI_ne0] at h2
    simp [isPersonP, h, h2, bI]
def bitsP (s : Int32) : Nat → Int32
  | 0 => 0
  | k + 1 => bitsP s k + (s >>> (nI k &&& 31) &&& 1)
theorem c8_bits (L : xLn) (s : Int32) : CT L mX8_bits 0 0 0 [.int s] [] (fun r Y => r = some (.int (bitsP s 8)) ∧ Y = []) := by
  refine CT.of rfl (Nat.le_of_ble_eq_true rfl) (Nat.le_of_ble_eq_true rfl) ?_
  have loop : ∀ (n k : Nat), k + n = 8 → AJ L mX8_bits 0 0 0 (fun r Y => r = some (.int (bitsP s 8)) ∧ Y = []) 0 (0, 0) 4 [some (.int s), some (.int (bitsP s k)), some (.int (nI k))] [] [] := by
    intro n
    induction n with
    | zero =>
      intro k hk
      obtain rfl : k = 8 := by omega
      refine AJ.run kX8_bits [4] 30 ?_
      exact ⟨fun h => ⟨rfl, rfl⟩, fun h => absurd (by decide) h⟩
    | succ n ih =>
      intro k hk
      refine AJ.run kX8_bits [4] 30 ?_
      refine ⟨fun h => absurd h (nI_ge (b := 8) (by omega) (by omega)), fun h => ?_⟩
      have := ih (k + 1) (by omega)
      rw [nI_succ] at this
      exact this
  exact AJ.run kX8_bits [4] 30 (loop 8 0 rfl)
