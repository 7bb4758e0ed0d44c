/-! ===== the reference: a day ===== -/
theorem fa_lit (n : Nat) : (OfNat.ofNat n : Int32) = nI n := rfl
abbrev xN : Type := Nat → Int32
def modN (s : xN) (j : Int64) (a : Nat → xN) (N : xN) : List xE := modW s j (va_up a 26 N)
theorem c8_isTram (L : xLn) (s : xN) (j : Int64) (a : Nat → xN) (k : Int32) : CT L mX8_isTram 1 0 0 [.ref 0, .int k] (modW s j a) (fun r Y => r = some (.int (bI (inP k 0 1 && hasP (s 5) k))) ∧ Y = modW s j a) := by
  refine CT.of rfl (Nat.le_of_ble_eq_true rfl) (Nat.le_of_ble_eq_true rfl) ?_
  refine AJ.run kX8_isTram [] 30 ?_
  refine AJ.callS kX8_isTram (c8_in L k 0 1) bX8_in rfl (by decide +kernel) [] [] rfl rfl rfl rfl rfl rfl rfl ?_
  rintro r Y ⟨rfl, rfl⟩
  refine ⟨rfl, AJ.run kX8_isTram [] 30 ⟨fun h => ⟨Or.inl rfl, ?_, rfl⟩, fun h => ?_⟩⟩
  · rw [bI_eq0] at h
    simp [h, bI]
  rw [bI_ne0] at h
  refine AJ.callS kX8_isTram (c8_has L (s 5) k) bX8_has rfl (by decide +kernel) [] [] rfl rfl rfl rfl rfl rfl rfl ?_
  rintro r Y ⟨rfl, rfl⟩
  refine ⟨rfl, AJ.run kX8_isTram [] 30 ⟨fun h2 => ⟨Or.inl rfl, ?_, rfl⟩, fun h2 => ⟨Or.inr rfl, ?_, rfl⟩⟩⟩
  · rw [bI_eq0] at h2
    simp [h, h2, bI]
  · rw [bI_ne0] at h2
    simp [h, h2, bI]
theorem c8_isPlace (L : xLn) (s : xN) (j : Int64) (a : Nat → xN) (k : Int32) : CT L mX8_isPlace 1 0 0 [.ref 0, .int k] (modW s j a) (fun r Y => r = some (.int (bI (inP k 0 (s 0 - 1)))) ∧ Y = modW s j a) := by
  refine CT.of rfl (Nat.le_of_ble_eq_true rfl) (Nat.le_of_ble_eq_true rfl) ?_
  refine AJ.run kX8_isPlace [] 30 ?_
  refine AJ.callS kX8_isPlace (c8_in L k 0 (s 0 - 1)) bX8_in rfl (by decide +kernel) [] [] rfl rfl rfl rfl rfl rfl rfl ?_
  rintro r Y ⟨rfl, rfl⟩
  exact ⟨rfl, AJ.run kX8_isPlace [] 30 ⟨bI_or _, rfl, rfl⟩⟩
theorem c8_erase (L : xLn) (s : xN) (j : Int64) (a : Nat → xN) : CT L mX8_erase 0 0 0 [.ref 0] (modW s j a) (fun r Y => r = some (.int (s 13)) ∧ Y = modW (upd s 13 0) j a) := by
  refine CT.of rfl (Nat.le_of_ble_eq_true rfl) (Nat.le_of_ble_eq_true rfl) ?_
  exact AJ.run kX8_erase [] 30 ⟨rfl, rfl⟩
theorem c8_forget (L : xLn) (s : xN) (j : Int64) (a : Nat → xN) : CT L mX8_forget 0 0 0 [.ref 0] (modW s j a) (fun r Y => r = some (.int (s 11)) ∧ Y = modW (upd s 11 0) j a) := by
  refine CT.of rfl (Nat.le_of_ble_eq_true rfl) (Nat.le_of_ble_eq_true rfl) ?_
  exact AJ.run kX8_forget [] 30 ⟨rfl, rfl⟩
theorem c8_fails (L : xLn) (s : xN) (j : Int64) (a : Nat → xN) : CT L mX8_fails 0 0 0 [.ref 0] (modW s j a) (fun r Y => r = some (.int 0) ∧ Y = modW (upd s 20 (s 16)) j a) := by
  refine CT.of rfl (Nat.le_of_ble_eq_true rfl) (Nat.le_of_ble_eq_true rfl) ?_
  exact AJ.run kX8_fails [] 30 ⟨Or.inl rfl, rfl, rfl⟩
def toldP (s : xN) : xN := upd (upd (upd s 30 (s 1)) 31 (s 2)) 32 (s 9)
theorem c8_asTold (L : xLn) (s : xN) (j : Int64) (a : Nat → xN) : CT L mX8_asTold 0 0 0 [.ref 0] (modW s j a) (fun r Y => r = none ∧ Y = modW (toldP s) j a) := by
  refine CT.of rfl (Nat.le_of_ble_eq_true rfl) (Nat.le_of_ble_eq_true rfl) ?_
  exact AJ.run kX8_asTold [] 30 ⟨rfl, rfl⟩
theorem c8_haltMany (L : xLn) (s : xN) (j : Int64) (a : Nat → xN) : CT L mX8_haltMany 0 0 0 [.ref 0] (modW s j a) (fun r Y => r = some (.int (a 26 7 + a 26 8)) ∧ Y = modW s j a) := by
  refine CT.of rfl (Nat.le_of_ble_eq_true rfl) (Nat.le_of_ble_eq_true rfl) ?_
  exact AJ.run kX8_haltMany [] 30 ⟨7, rfl, Nat.le_of_ble_eq_true rfl, 8, rfl, Nat.le_of_ble_eq_true rfl, rfl, rfl⟩
def addP (a : Nat → xN) (m : Nat) (w k t : Int32) : Nat → xN := va_up a 10 (upd (upd (upd (a 10) (3 * m) w) (3 * m + 1) k) (3 * m + 2) t)
theorem c8_addMood (L : xLn) (s : xN) (j : Int64) (a : Nat → xN) (w k t : Int32) (m : Nat) (hs : s 9 = nI m) (hm : m < 26) : CT L mX8_addMood 0 0 0 [.ref 0, .int w, .int k, .int t] (modW s j a) (fun r Y => r = none ∧ Y = modW (upd s 9 (s 9 + 1)) j (addP a m w k t)) := by
  refine CT.of rfl (Nat.le_of_ble_eq_true rfl) (Nat.le_of_ble_eq_true rfl) ?_
  refine AJ.run kX8_addMood [] 60 ⟨3 * m, ?_, ?_, 3 * m + 1, ?_, ?_, 3 * m + 2, ?_, ?_, rfl, rfl⟩
  all_goals first | omega | (rw [hs]; simp only [fa_lit, nI_add, pk_mul])
/-- where one is -/
def plP (N : xN) (p : Nat) : Int32 := if N (17 + p) = -1 then N (9 + p) else N (1 + (N (17 + p)).toNatClampNeg)
/-- nobody, or aboard of 0 or of 1 -/
def abO (N : xN) : Prop := ∀ p, p < 8 → N (17 + p) = -1 ∨ N (17 + p) = nI 0 ∨ N (17 + p) = nI 1
theorem c8_placeNow (L : xLn) (s : xN) (j : Int64) (a : Nat → xN) (N : xN) (p : Nat) (hp : p < 8) (hN : abO N) : CT L mX8_placeNow 0 0 0 [.ref 0, .int (nI p)] (modN s j a N) (fun r Y => r = some (.int (plP N p)) ∧ Y = modN s j a N) := by
  refine CT.of rfl (Nat.le_of_ble_eq_true rfl) (Nat.le_of_ble_eq_true rfl) ?_
  refine AJ.run kX8_placeNow [] 60 ⟨17 + p, nI_add 17 p, by omega, fun h => ?_, fun h => ?_⟩
  · have h : ¬ N (17 + p) = -1 := h
    have key : ∃ t, t < 2 ∧ N (17 + p) = nI t := by
      rcases hN p hp with h1 | h1 | h1
      · exact absurd h1 h
      · exact ⟨0, by omega, h1⟩
      · exact ⟨1, by omega, h1⟩
    obtain ⟨t, ht, et⟩ := key
    refine ⟨17 + p, nI_add 17 p, by omega, 1 + t, ?_, by omega, ?_, rfl⟩
    · show 1 + N (17 + p) = nI (1 + t)
      rw [et]; exact nI_add 1 t
    · show some (Value.int (N (1 + t))) = some (.int (plP N p))
      rw [plP, if_neg h, et, nI_clamp (by omega)]
  · have h : N (17 + p) = -1 := h
    refine ⟨9 + p, nI_add 9 p, by omega, ?_, rfl⟩
    show some (Value.int (N (9 + p))) = some (.int (plP N p))
    rw [plP, if_pos h]
theorem c8_late (L : xLn) (s : xN) (j : Int64) (a : Nat → xN) (N : xN) (p : Nat) (hp : p < 8) : CT L mX8_late 0 0 0 [.ref 0, .int (nI p)] (modN s j a N) (fun r Y => r = some (.int (if N (25 + p) = -1 then 60 else N (25 + p))) ∧ Y = modN s j a N) := by
  refine CT.of rfl (Nat.le_of_ble_eq_true rfl) (Nat.le_of_ble_eq_true rfl) ?_
  refine AJ.run kX8_late [] 60 ⟨25 + p, nI_add 25 p, by omega, fun h => ⟨25 + p, nI_add 25 p, by omega, ?_, rfl⟩, fun h => ⟨?_, rfl⟩⟩
  · have h : ¬ N (25 + p) = -1 := h
    rw [if_neg h]; rfl
  · have h : N (25 + p) = -1 := h
    rw [if_pos h]
/-- is mood k a cause at place q -/
def isC (ns sp : Int32) (mo N : xN) (q : Int32) (k : Nat) : Bool := decide (N (41 + k) = q) && decide (N (67 + k) = 0) && hasP ns (mo (3 * k + 1)) && decide (N 0 - mo (3 * k + 2) < sp)
/-- the eldest cause among the first k -/
def caP (ns sp : Int32) (mo N : xN) (q : Int32) : Nat → Int32
  | 0 => -1
  | k + 1 => if isC ns sp mo N q k = true ∧ (caP ns sp mo N q k = -1 ∨ mo (3 * k + 2) < mo (3 * (caP ns sp mo N q k).toNatClampNeg + 2)) then nI k else caP ns sp mo N q k
theorem caP_in (ns sp : Int32) (mo N : xN) (q : Int32) : ∀ k, caP ns sp mo N q k = -1 ∨ ∃ c, c < k ∧ caP ns sp mo N q k = nI c
  | 0 => Or.inl rfl
  | k + 1 => by
    rw [caP]
    split
    · exact Or.inr ⟨k, by omega, rfl⟩
    · rcases caP_in ns sp mo N q k with h | ⟨c, h1, h2⟩
      · exact Or.inl h
      · exact Or.inr ⟨c, by omega, h2⟩
set_option maxHeartbeats 2000000 in
theorem c8_causeOf (L : xLn) (s : xN) (j : Int64) (a : Nat → xN) (N : xN) (q : Int32) (m : Nat) (hs : s 32 = nI m) (hm : m ≤ 26) : CT L mX8_causeOf 1 0 0 [.ref 0, .int q] (modN s j a N) (fun r Y => r = some (.int (caP (s 30) (s 31) (a 10) N q m)) ∧ Y = modN s j a N) := by
  refine CT.of rfl (Nat.le_of_ble_eq_true rfl) (Nat.le_of_ble_eq_true rfl) ?_
  have loop : ∀ (n k : Nat) (x4 : Option Value), k + n = m → xokv 13 (x4.getD .null) = true → AJ L mX8_causeOf 1 0 0 (fun r Y => r = some (.int (caP (s 30) (s 31) (a 10) N q m)) ∧ Y = modN s j a N) (modN s j a N).length (0, 0) 4 [some (.ref 0), some (.int q), some (.int (caP (s 30) (s 31) (a 10) N q k)), some (.int (nI k)), x4] [] (modN s j a N) := by
    intro n
    induction n with
    | zero =>
      intro k x4 hk hx
      obtain rfl : k = m := by omega
      refine AJ.run kX8_causeOf [4] 60 ⟨fun h => ⟨rfl, rfl⟩, fun h => absurd ?_ h⟩
      show s 32 ≤ nI k
      rw [hs]; exact nI_le (by omega) (by omega)
    | succ n ih =>
      intro k x4 hk hx
      -- behind the test: x is 1 if k is a cause
      have tail : ∀ b : Bool, b = isC (s 30) (s 31) (a 10) N q k → AJ L mX8_causeOf 1 0 0 (fun r Y => r = some (.int (caP (s 30) (s 31) (a 10) N q m)) ∧ Y = modN s j a N) (modN s j a N).length (0, 0) 86 [some (.ref 0), some (.int q), some (.int (caP (s 30) (s 31) (a 10) N q k)), some (.int (nI k)), x4] [.int (bI b)] (modN s j a N) := by
        intro b hb
        have next : ∀ c : Int32, c = caP (s 30) (s 31) (a 10) N q (k + 1) → AJ L mX8_causeOf 1 0 0 (fun r Y => r = some (.int (caP (s 30) (s 31) (a 10) N q m)) ∧ Y = modN s j a N) (modN s j a N).length (0, 0) 126 [some (.ref 0), some (.int q), some (.int (caP (s 30) (s 31) (a 10) N q k)), some (.int (nI k)), some (.int (bI b))] [.int c] (modN s j a N) := by
          intro c hc
          subst hc
          have h2 := ih (k + 1) (some (.int (bI b))) (by omega) rfl
          rw [nI_succ] at h2
          exact AJ.run kX8_causeOf [4] 60 h2
        refine AJ.run kX8_causeOf [4, 126] 60 ⟨fun h => next _ ?_, fun h => ⟨fun h2 => next _ ?_, fun h2 => ?_⟩⟩
        · rw [bI_eq0] at h
          rw [caP, if_neg]
          rw [← hb, h]
          simp
        · have h2 : caP (s 30) (s 31) (a 10) N q k = -1 := h2
          rw [bI_ne0] at h
          rw [caP, if_pos ⟨by rw [← hb, h], Or.inl h2⟩]
        · have h2 : ¬ caP (s 30) (s 31) (a 10) N q k = -1 := h2
          rw [bI_ne0] at h
          rcases caP_in (s 30) (s 31) (a 10) N q k with h3 | ⟨c, hc1, hc2⟩
          · exact absurd h3 h2
          refine ⟨3 * k + 2, by simp only [fa_lit, nI_add, pk_mul], by omega, 3 * c + 2, ?_, by omega, fun h4 => next _ ?_, fun h4 => next _ ?_⟩
          · show 3 * caP (s 30) (s 31) (a 10) N q k + 2 = nI (3 * c + 2)
            rw [hc2]; simp only [fa_lit, nI_add, pk_mul]
          · have h4 : a 10 (3 * c + 2) ≤ a 10 (3 * k + 2) := h4
            show caP (s 30) (s 31) (a 10) N q k = _
            rw [caP, if_neg]
            rintro ⟨-, h5 | h5⟩
            · exact h2 h5
            · rw [hc2, nI_clamp (by omega)] at h5
              simp only [i32_lt, i32_le] at h4 h5
              omega
          · have h4 : ¬ a 10 (3 * c + 2) ≤ a 10 (3 * k + 2) := h4
            show nI k = _
            rw [caP, if_pos]
            refine ⟨by rw [← hb, h], Or.inr ?_⟩
            rw [hc2, nI_clamp (by omega)]
            simp only [i32_lt, i32_le] at h4 ⊢
            omega
      refine AJ.run kX8_causeOf [4, 86] 60 ⟨fun h => absurd h ?_, fun h => ⟨41 + k, nI_add 41 k, by omega, fun h1 => tail false ?_, fun h1 => ⟨67 + k, nI_add 67 k, by omega, fun h2 => tail false ?_, fun h2 => ⟨3 * k + 1, by simp only [fa_lit, nI_add, pk_mul], by omega, ?_⟩⟩⟩⟩
      · show ¬ s 32 ≤ nI k
        rw [hs]; exact nI_ge (by omega) (by omega)
      · have h1 : ¬ N (41 + k) = q := h1
        simp [isC, h1]
      · have h2 : ¬ N (67 + k) = 0 := h2
        simp [isC, h2]
      · have h1 : N (41 + k) = q := h1
        have h2 : N (67 + k) = 0 := h2
        refine AJ.callS kX8_causeOf (c8_has L (s 30) (a 10 (3 * k + 1))) bX8_has rfl (by decide +kernel) [] [] rfl rfl rfl rfl ?_ rfl rfl ?_
        · cases x4 with
          | none => rfl
          | some u => simpa [xwf, xokv, modN, modW, xoke] using hx
        rintro r Y ⟨rfl, rfl⟩
        refine ⟨rfl, AJ.run kX8_causeOf [4, 86] 60 ⟨fun h3 => tail false ?_, fun h3 => ⟨0, rfl, by omega, 3 * k + 2, by simp only [fa_lit, nI_add, pk_mul], by omega, fun h4 => tail false ?_, fun h4 => tail true ?_⟩⟩⟩
        · rw [bI_eq0] at h3
          simp [isC, h3]
        · have h4 : s 31 ≤ N 0 - a 10 (3 * k + 2) := h4
          have : ¬ N 0 - a 10 (3 * k + 2) < s 31 := by
            simp only [i32_lt, i32_le] at h4 ⊢; omega
          simp [isC, this]
        · have h4 : ¬ s 31 ≤ N 0 - a 10 (3 * k + 2) := h4
          have h5 : N 0 - a 10 (3 * k + 2) < s 31 := by
            simp only [i32_lt, i32_le] at h4 ⊢; omega
          rw [bI_ne0] at h3
          simp [isC, h1, h2, h3, h5]
  exact AJ.run kX8_causeOf [4] 30 (loop m 0 none (by omega) rfl)
