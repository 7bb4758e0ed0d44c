/-! ===== the reference: days, and what is asked of them ===== -/
theorem tramF_out (s : xN) (a : Nat → xN) (m : Nat) (N : xN) {k i : Nat} (hk : k < 2) (hi : i = 0 ∨ 41 ≤ i ∧ i < 67) : tramF s a m N k i = N i := by
  unfold tramF
  split
  · split
    · exact goOnP_out _ _ _ _ hk (by omega)
    · exact haltP_out _ _ _ _ hk (by omega)
  · rfl
theorem minP_0 (s : xN) (a : Nat → xN) (m : Nat) (N : xN) (hm : m ≤ 26) : minP s a m N 0 = N 0 + 1 := by
  rw [minP, pk_us, tramF_out s a m _ (by omega) (by omega), tramF_out s a m _ (by omega) (by omega), feltL_out _ _ (by omega) m hm]
/-- a day as it can be: the minute, who is aboard, how many halts -/
def okN (N : xN) : Prop := abO N ∧ ∃ g h : Nat, N 0 = nI g ∧ g ≤ 60 ∧ N 7 + N 8 = nI h ∧ h ≤ 2 * g
theorem minP_ok (s : xN) (a : Nat → xN) (m : Nat) (N : xN) (hm : m ≤ 26) (hN : okN N) (h60 : N 0 < 60) : okN (minP s a m N) := by
  obtain ⟨h1, g, h, e1, e2, e3, e4⟩ := hN
  have hg : g < 60 := by
    rw [e1, i32_lt, nI_toInt (by omega)] at h60
    have : (60 : Int32).toInt = 60 := rfl
    omega
  have a1 := feltL_abO (a 10) N h1 (k := m) hm
  have e7 : feltL (a 10) N m 7 + feltL (a 10) N m 8 = nI h := by rw [feltL_out _ _ (by omega) m hm, feltL_out _ _ (by omega) m hm]; exact e3
  obtain ⟨h', p1, p2, p3⟩ := tramF_hm s a m (feltL (a 10) N m) (k := 0) (by omega) e7
  obtain ⟨h'', q1, q2, q3⟩ := tramF_hm s a m (tramF s a m (feltL (a 10) N m) 0) (k := 1) (by omega) p3
  refine ⟨?_, g + 1, h'', ?_, by omega, ?_, by omega⟩
  · refine abO_of (tramF_abO s a m _ (k := 1) (by omega) (tramF_abO s a m _ (k := 0) (by omega) a1)) (fun i h1 h2 => ?_)
    rw [minP, pk_un (by omega)]
  · rw [minP_0 s a m N hm, e1, nI_1]
  · rw [minP, pk_un (by omega), pk_un (by omega)]; exact q3
/-- n minutes, no more than are left -/
def goL (s : xN) (a : Nat → xN) (m : Nat) (N : xN) : Nat → xN
  | 0 => N
  | n + 1 => if goL s a m N n 0 < 60 then minP s a m (goL s a m N n) else goL s a m N n
theorem goL_ok (s : xN) (a : Nat → xN) (m : Nat) (N : xN) (hm : m ≤ 26) (hN : okN N) : ∀ n, okN (goL s a m N n)
  | 0 => hN
  | n + 1 => by
    rw [goL]
    split
    · next h => exact minP_ok s a m _ hm (goL_ok s a m N hm hN n) h
    · exact goL_ok s a m N hm hN n

def cpL (f : xN) (x : Nat) (g : xN) (y : Nat) : Nat → xN
  | 0 => g
  | k + 1 => upd (cpL f x g y k) (y + k) (f (x + k))
theorem cpL_at (f : xN) (x : Nat) (g : xN) (y i : Nat) : ∀ k, cpL f x g y k i = if y ≤ i ∧ i < y + k then f (x + (i - y)) else g i
  | 0 => by rw [cpL, if_neg (by omega)]
  | k + 1 => by
    rw [cpL]
    by_cases h : i = y + k
    · subst h
      rw [pk_us, if_pos (by omega), Nat.add_sub_cancel_left]
    · rw [pk_un h, cpL_at f x g y i k]
      by_cases h2 : y ≤ i ∧ i < y + k
      · rw [if_pos h2, if_pos (by omega)]
      · rw [if_neg h2, if_neg (by omega)]
theorem c8_copy_573_573 (L : xLn) (f g : xN) (x y : Nat) (hx : x + 573 ≤ 573) (hy : y + 573 ≤ 573) : CT L mX8_copy 0 0 0 [.ref 0, .int (nI x), .ref 1, .int (nI y)] [.inl (0, 573, f), .inl (0, 573, g)] (fun r Y => r = none ∧ Y = [.inl (0, 573, f), .inl (0, 573, cpL f x g y 573)]) := by
  refine CT.of rfl (Nat.le_of_ble_eq_true rfl) (Nat.le_of_ble_eq_true rfl) ?_
  have loop : ∀ (n k : Nat), k + n = 573 → AJ L mX8_copy 0 0 0 (fun r Y => r = none ∧ Y = [.inl (0, 573, f), .inl (0, 573, cpL f x g y 573)]) 2 (0, 0) 3 [some (.ref 0), some (.int (nI x)), some (.ref 1), some (.int (nI y)), some (.int (nI k))] [] [.inl (0, 573, f), .inl (0, 573, cpL f x g y k)] := by
    intro n
    induction n with
    | zero =>
      intro k hk
      obtain rfl : k = 573 := by omega
      exact AJ.run kX8_copy [3] 60 ⟨fun _ => ⟨rfl, rfl⟩, fun h => absurd (by decide) h⟩
    | succ n ih =>
      intro k hk
      have h2 := ih (k + 1) (by omega)
      rw [nI_succ] at h2
      exact AJ.run kX8_copy [3] 60 ⟨fun h => absurd h (nI_ge (b := 573) (by omega) (by omega)), fun _ => ⟨x + k, nI_add x k, by omega, y + k, nI_add y k, by omega, h2⟩⟩
  exact AJ.run kX8_copy [3] 60 (loop 573 0 rfl)
theorem c8_copy_573_1146 (L : xLn) (f g : xN) (x y : Nat) (hx : x + 573 ≤ 573) (hy : y + 573 ≤ 1146) : CT L mX8_copy 0 0 0 [.ref 0, .int (nI x), .ref 1, .int (nI y)] [.inl (0, 573, f), .inl (0, 1146, g)] (fun r Y => r = none ∧ Y = [.inl (0, 573, f), .inl (0, 1146, cpL f x g y 573)]) := by
  refine CT.of rfl (Nat.le_of_ble_eq_true rfl) (Nat.le_of_ble_eq_true rfl) ?_
  have loop : ∀ (n k : Nat), k + n = 573 → AJ L mX8_copy 0 0 0 (fun r Y => r = none ∧ Y = [.inl (0, 573, f), .inl (0, 1146, cpL f x g y 573)]) 2 (0, 0) 3 [some (.ref 0), some (.int (nI x)), some (.ref 1), some (.int (nI y)), some (.int (nI k))] [] [.inl (0, 573, f), .inl (0, 1146, cpL f x g y k)] := by
    intro n
    induction n with
    | zero =>
      intro k hk
      obtain rfl : k = 573 := by omega
      exact AJ.run kX8_copy [3] 60 ⟨fun _ => ⟨rfl, rfl⟩, fun h => absurd (by decide) h⟩
    | succ n ih =>
      intro k hk
      have h2 := ih (k + 1) (by omega)
      rw [nI_succ] at h2
      exact AJ.run kX8_copy [3] 60 ⟨fun h => absurd h (nI_ge (b := 573) (by omega) (by omega)), fun _ => ⟨x + k, nI_add x k, by omega, y + k, nI_add y k, by omega, h2⟩⟩
  exact AJ.run kX8_copy [3] 60 (loop 573 0 rfl)
theorem c8_copy_1146_573 (L : xLn) (f g : xN) (x y : Nat) (hx : x + 573 ≤ 1146) (hy : y + 573 ≤ 573) : CT L mX8_copy 0 0 0 [.ref 0, .int (nI x), .ref 1, .int (nI y)] [.inl (0, 1146, f), .inl (0, 573, g)] (fun r Y => r = none ∧ Y = [.inl (0, 1146, f), .inl (0, 573, cpL f x g y 573)]) := by
  refine CT.of rfl (Nat.le_of_ble_eq_true rfl) (Nat.le_of_ble_eq_true rfl) ?_
  have loop : ∀ (n k : Nat), k + n = 573 → AJ L mX8_copy 0 0 0 (fun r Y => r = none ∧ Y = [.inl (0, 1146, f), .inl (0, 573, cpL f x g y 573)]) 2 (0, 0) 3 [some (.ref 0), some (.int (nI x)), some (.ref 1), some (.int (nI y)), some (.int (nI k))] [] [.inl (0, 1146, f), .inl (0, 573, cpL f x g y k)] := by
    intro n
    induction n with
    | zero =>
      intro k hk
      obtain rfl : k = 573 := by omega
      exact AJ.run kX8_copy [3] 60 ⟨fun _ => ⟨rfl, rfl⟩, fun h => absurd (by decide) h⟩
    | succ n ih =>
      intro k hk
      have h2 := ih (k + 1) (by omega)
      rw [nI_succ] at h2
      exact AJ.run kX8_copy [3] 60 ⟨fun h => absurd h (nI_ge (b := 573) (by omega) (by omega)), fun _ => ⟨x + k, nI_add x k, by omega, y + k, nI_add y k, by omega, h2⟩⟩
  exact AJ.run kX8_copy [3] 60 (loop 573 0 rfl)
/-- a whole day, now set aside -/
theorem c8_goDay (L : xLn) (s : xN) (j : Int64) (a : Nat → xN) (N : xN) (m : Nat) (hok : okD s a m) (hb : okN (beginP (a 6) (a 8) N)) : CT L mX8_goDay 3 0 0 [.ref 0] (modN s j a N) (fun r Y => r = none ∧ ∃ n, ¬ goL s a m (beginP (a 6) (a 8) N) n 0 < 60 ∧ Y = modN s j (va_up a 27 (cpL N 0 (a 27) 0 573)) (goL s a m (beginP (a 6) (a 8) N) n)) := by
  refine CT.of rfl (Nat.le_of_ble_eq_true rfl) (Nat.le_of_ble_eq_true rfl) ?_
  refine AJ.run kX8_goDay [] 60 ?_
  refine AJ.callS kX8_goDay (c8_copy_573_573 L N (a 27) 0 0 (by omega) (by omega)) bX8_copy rfl (by decide +kernel) [7, 8] [] rfl rfl rfl rfl rfl rfl rfl ?_
  rintro r Y ⟨rfl, rfl⟩
  refine ⟨rfl, AJ.run kX8_goDay [] 60 ?_⟩
  refine AJ.callV kX8_goDay (c8_begin L s j (va_up a 27 (cpL N 0 (a 27) 0 573)) N) bX8_begin rfl (by decide +kernel) [0, 1, 2, 3, 4, 5, 6, 7, 8, 9, 10, 11, 12] [] rfl rfl rfl rfl rfl rfl rfl rfl rfl rfl ?_
  rintro r Y ⟨rfl, rfl⟩
  refine ⟨rfl, ?_⟩
  have hok2 : okD s (va_up a 27 (cpL N 0 (a 27) 0 573)) m := hok
  have e1 : ∀ B, minP s (va_up a 27 (cpL N 0 (a 27) 0 573)) m B = minP s a m B := fun B => rfl
  have loop : ∀ (f n : Nat), (∃ g, goL s a m (beginP (a 6) (a 8) N) n 0 = nI g ∧ g ≤ 60 ∧ 60 < g + f) → AJ L mX8_goDay 3 0 0 (fun r Y => r = none ∧ ∃ n, ¬ goL s a m (beginP (a 6) (a 8) N) n 0 < 60 ∧ Y = modN s j (va_up a 27 (cpL N 0 (a 27) 0 573)) (goL s a m (beginP (a 6) (a 8) N) n)) (modN s j a N).length (0, 0) 17 [some (.ref 0)] [] (modN s j (va_up a 27 (cpL N 0 (a 27) 0 573)) (goL s a m (beginP (a 6) (a 8) N) n)) := by
    intro f
    induction f with
    | zero => rintro n ⟨g, -, h1, h2⟩; omega
    | succ f ih =>
      rintro n ⟨g, h1, h2, h3⟩
      have okn := goL_ok s a m (beginP (a 6) (a 8) N) hok.2.1 hb n
      refine AJ.run kX8_goDay [17] 60 ⟨0, rfl, by omega, fun h => ⟨rfl, n, ?_, rfl⟩, fun h => ?_⟩
      · have h : (60 : Int32) ≤ goL s a m (beginP (a 6) (a 8) N) n 0 := h
        simp only [i32_lt, i32_le] at h ⊢
        omega
      · have h : ¬ (60 : Int32) ≤ goL s a m (beginP (a 6) (a 8) N) n 0 := h
        have hl : goL s a m (beginP (a 6) (a 8) N) n 0 < 60 := by
          simp only [i32_lt, i32_le] at h ⊢
          omega
        have hg : g < 60 := by
          rw [h1, i32_lt, nI_toInt (by omega)] at hl
          have : (60 : Int32).toInt = 60 := rfl
          omega
        obtain ⟨ab, g', h', e2, e3, e4, e5⟩ := okn
        have hgg : g = g' := by
          have := h1.symm.trans e2
          exact (nI_eq (by omega) (by omega)).mp this
        have n2 := ih (n + 1) ⟨g + 1, by rw [goL, if_pos hl, minP_0 s a m _ hok.2.1, h1, nI_1], by omega, by omega⟩
        rw [show goL s a m (beginP (a 6) (a 8) N) (n + 1) = (if goL s a m (beginP (a 6) (a 8) N) n 0 < 60 then minP s a m (goL s a m (beginP (a 6) (a 8) N) n) else goL s a m (beginP (a 6) (a 8) N) n) from rfl, if_pos hl] at n2
        refine AJ.callV kX8_goDay (c8_goMinute L s j (va_up a 27 (cpL N 0 (a 27) 0 573)) (goL s a m (beginP (a 6) (a 8) N) n) m h' hok2 ab e4 (by omega)) bX8_goMinute rfl (by decide +kernel) [0, 1, 2, 3, 4, 5, 6, 7, 8, 9, 10, 11, 12] [] rfl rfl rfl rfl rfl rfl rfl rfl rfl rfl ?_
        rintro r Y ⟨rfl, rfl⟩
        exact ⟨rfl, AJ.run kX8_goDay [17] 60 n2⟩
  obtain ⟨-, g, h, e2, e3, -⟩ := hb
  exact loop 61 0 ⟨g, e2, e3, by omega⟩
theorem c8_putBack (L : xLn) (s : xN) (j : Int64) (a : Nat → xN) (N : xN) : CT L mX8_putBack 1 0 0 [.ref 0] (modN s j a N) (fun r Y => r = none ∧ Y = modN s j a (cpL (a 27) 0 N 0 573)) := by
  refine CT.of rfl (Nat.le_of_ble_eq_true rfl) (Nat.le_of_ble_eq_true rfl) ?_
  refine AJ.run kX8_putBack [] 60 ?_
  refine AJ.callS kX8_putBack (c8_copy_573_573 L (a 27) N 0 0 (by omega) (by omega)) bX8_copy rfl (by decide +kernel) [8, 7] [] rfl rfl rfl rfl rfl rfl rfl ?_
  rintro r Y ⟨rfl, rfl⟩
  exact ⟨rfl, AJ.run kX8_putBack [] 60 ⟨rfl, rfl⟩⟩

