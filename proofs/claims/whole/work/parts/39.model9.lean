/-! ===== the reference: what is foretold ===== -/
/-- all that a day needs of the told is the same -/
def eqT (s : xN) (a : Nat → xN) (s' : xN) (a' : Nat → xN) : Prop := (s' 0 = s 0 ∧ s' 3 = s 3 ∧ s' 4 = s 4 ∧ s' 5 = s 5 ∧ s' 7 = s 7 ∧ s' 30 = s 30 ∧ s' 31 = s 31) ∧ a' 6 = a 6 ∧ a' 8 = a 8 ∧ a' 10 = a 10
theorem minP_congr {s s' : xN} {a a' : Nat → xN} (h : eqT s a s' a') (m : Nat) (N : xN) : minP s' a' m N = minP s a m N := by
  obtain ⟨⟨h0, h3, h4, h5, h7, h30, h31⟩, a6, a8, a10⟩ := h
  have t : ∀ (N : xN) (k : Nat), tramF s' a' m N k = tramF s a m N k := by
    intro N k
    unfold tramF
    rw [h0, h3, h4, h5, h7, h30, h31, a6, a8, a10]
  unfold minP
  rw [t, t, a10]
theorem goL_congr {s s' : xN} {a a' : Nat → xN} (h : eqT s a s' a') (m : Nat) (N : xN) : ∀ n, goL s' a' m N n = goL s a m N n
  | 0 => rfl
  | n + 1 => by rw [goL, goL, goL_congr h m N n, minP_congr h]
theorem dq_congr {s s' : xN} {a a' : Nat → xN} (h : eqT s a s' a') (m : Nat) : dq s' a' m = dq s a m := by
  unfold dq dayP
  rw [goL_congr h, h.2.1, h.2.2.1]
/-- the object as it was, but for what nobody is told -/
def keptM (m : Nat) (s : xN) (a : Nat → xN) (s' : xN) (a' : Nat → xN) : Prop := (∀ i, i < 15 → s' i = s i) ∧ (a' 6 = a 6 ∧ a' 8 = a 8 ∧ a' 12 = a 12 ∧ a' 14 = a 14 ∧ a' 28 = a 28 ∧ a' 29 = a 29) ∧ (∀ i, i < 3 * m → a' 10 i = a 10 i) ∧ ∀ i, i < 573 → a' 26 i = a 26 i
theorem keptM.rf (m : Nat) (s : xN) (a : Nat → xN) : keptM m s a s a := ⟨fun _ _ => rfl, ⟨rfl, rfl, rfl, rfl, rfl, rfl⟩, fun _ _ => rfl, fun _ _ => rfl⟩
theorem put_back (N A D : xN) {i : Nat} (hi : i < 573) : cpL (cpL N 0 A 0 573) 0 D 0 573 i = N i := by
  rw [cpL_at, if_pos (by omega), cpL_at, if_pos (by omega)]
  congr 1
  omega
/-- the moods that are told -/
def okT (s : xN) (a : Nat → xN) (m : Nat) : Prop := s 9 = nI m ∧ m ≤ 24 ∧ ∀ k, k < m → ∃ p, p < 8 ∧ a 10 (3 * k) = nI p
theorem okT.d {s : xN} {a : Nat → xN} {m : Nat} (h : okT s a m) : okD (toldP s) a m := ⟨h.1, by have := h.2.1; omega, h.2.2⟩
theorem inP_nI {k : Int32} {n : Nat} (hn : n < 1000) (h : inP k 0 (nI n) = true) : ∃ p, p ≤ n ∧ k = nI p := by
  have h := of_decide_eq_true h
  refine nI_of2 (M := nI n) (nI_toInt (by omega)) ?_ h.2
  have := h.1
  simp only [i32_lt, i32_le] at this ⊢
  omega
theorem c8_dayA (L : xLn) (s : xN) (j : Int64) (a : Nat → xN) (m : Nat) (hok : okD s a m) : CT L mX8_goDay 3 0 0 [.ref 0] (modW s j a) (fun r Y => r = none ∧ ∃ N, isDay s a m N ∧ Y = modN s j (va_up a 27 (cpL (a 26) 0 (a 27) 0 573)) N) := by
  have h := c8_day L s j a (a 26) m hok
  exact h.mono (fun r Y h => ⟨h.1, dayP s a m (a 26), dayP_is s a m _ hok, h.2⟩)
theorem c8_home (L : xLn) (s : xN) (j : Int64) (a : Nat → xN) (m : Nat) (hok : okT s a m) (k : Int32) : CT L mX8_home 4 0 0 [.ref 0, .int k] (modW s j a) (fun r Y => r = some (.int (if isPersonP s k = true then dq (toldP s) a m (25 + k.toNatClampNeg) else -2)) ∧ ∃ s' j' a', Y = modW s' j' a' ∧ keptM m s a s' a') := by
  refine CT.of rfl (Nat.le_of_ble_eq_true rfl) (Nat.le_of_ble_eq_true rfl) ?_
  refine AJ.run kX8_home [] 60 ?_
  refine AJ.callF kX8_home (c8_isPerson L s j a k) bX8_isPerson rfl (by decide +kernel) [] rfl rfl rfl rfl rfl rfl rfl rfl ?_
  rintro r Y ⟨rfl, rfl⟩
  refine ⟨rfl, rfl, AJ.run kX8_home [] 60 ⟨fun h => ?_, fun h => ⟨by rw [bI_eq0] at h; rw [if_neg (by rw [h]; simp)], s, j, a, rfl, keptM.rf m s a⟩⟩⟩
  rw [bI_ne0] at h
  have hk : ∃ p, p ≤ 7 ∧ k = nI p := by
    have h2 := h
    simp only [isPersonP, Bool.and_eq_true] at h2
    exact inP_nI (n := 7) (by omega) h2.1
  obtain ⟨p, hp, rfl⟩ := hk
  refine AJ.callF kX8_home (c8_asTold L s j a) bX8_asTold rfl (by decide +kernel) [] rfl rfl rfl rfl rfl rfl rfl rfl ?_
  rintro r Y ⟨rfl, rfl⟩
  refine ⟨rfl, rfl, AJ.run kX8_home [] 60 ?_⟩
  refine AJ.callF kX8_home (c8_dayA L (toldP s) j a m hok.d) bX8_goDay rfl (by decide +kernel) [] rfl rfl rfl rfl rfl rfl rfl rfl ?_
  rintro r Y ⟨rfl, N, hN, rfl⟩
  refine ⟨rfl, rfl, AJ.run kX8_home [] 60 ⟨25 + p, nI_add 25 p, by omega, ?_⟩⟩
  refine AJ.callF kX8_home (c8_putBack L (toldP s) j (va_up a 27 (cpL (a 26) 0 (a 27) 0 573)) N) bX8_putBack rfl (by decide +kernel) [] rfl rfl rfl rfl rfl rfl rfl rfl ?_
  rintro r Y ⟨rfl, rfl⟩
  refine ⟨rfl, rfl, AJ.run kX8_home [] 60 ⟨?_, toldP s, j, va_up (va_up a 27 (cpL (a 26) 0 (a 27) 0 573)) 26 (cpL (cpL (a 26) 0 (a 27) 0 573) 0 N 0 573), rfl, ?_⟩⟩
  · obtain ⟨-, h', e1, e2, e3⟩ := hN
    show some (Value.int (N (25 + p))) = _
    rw [if_pos h, nI_clamp (by omega), e3 (25 + p) (by omega)]
  · refine ⟨fun i hi => ?_, ⟨rfl, rfl, rfl, rfl, rfl, rfl⟩, fun _ _ => rfl, fun i hi => put_back _ _ _ hi⟩
    show toldP s i = s i
    unfold toldP
    rw [pk_un (by omega), pk_un (by omega), pk_un (by omega)]
def wornL (N : xN) (q : Int32) : Nat → Int32
  | 0 => 0
  | i + 1 => wornL N q i + (if N (93 + 4 * i + 1) = q then 1 else 0)
theorem wornL_ag {h : Nat} {N B : xN} (hN : agN h N B) (q : Int32) : ∀ i, i ≤ h → wornL N q i = wornL B q i
  | 0, _ => rfl
  | i + 1, hi => by rw [wornL, wornL, wornL_ag hN q i (by omega), hN (93 + 4 * i + 1) (by omega)]
set_option maxHeartbeats 1000000 in
theorem c8_wornAt (L : xLn) (s : xN) (j : Int64) (a : Nat → xN) (N : xN) (q : Int32) (h : Nat) (hh : N 7 + N 8 = nI h) (h120 : h ≤ 120) : CT L mX8_wornAt 1 0 0 [.ref 0, .int q] (modN s j a N) (fun r Y => r = some (.int (wornL N q h)) ∧ Y = modN s j a N) := by
  refine CT.of rfl (Nat.le_of_ble_eq_true rfl) (Nat.le_of_ble_eq_true rfl) ?_
  have loop : ∀ (n i : Nat), i + n = h → AJ L mX8_wornAt 1 0 0 (fun r Y => r = some (.int (wornL N q h)) ∧ Y = modN s j a N) (modN s j a N).length (0, 0) 4 [some (.ref 0), some (.int q), some (.int (wornL N q i)), some (.int (nI i))] [] (modN s j a N) := by
    intro n
    induction n with
    | zero =>
      intro i hi
      obtain rfl : i = h := by omega
      refine AJ.run kX8_wornAt [4] 60 ?_
      refine AJ.callF kX8_wornAt (c8_haltMany L s j (va_up a 26 N)) bX8_haltMany rfl (by decide +kernel) [.int (nI i)] rfl rfl rfl rfl rfl rfl rfl rfl ?_
      rintro r Y ⟨rfl, rfl⟩
      refine ⟨rfl, rfl, AJ.run kX8_wornAt [4] 60 ⟨fun _ => ⟨rfl, rfl⟩, fun hz => absurd ?_ hz⟩⟩
      show N 7 + N 8 ≤ nI i
      rw [hh]; exact nI_le (by omega) (by omega)
    | succ n ih =>
      intro i hi
      have h2 := ih (i + 1) (by omega)
      rw [nI_succ] at h2
      refine AJ.run kX8_wornAt [4] 60 ?_
      refine AJ.callF kX8_wornAt (c8_haltMany L s j (va_up a 26 N)) bX8_haltMany rfl (by decide +kernel) [.int (nI i)] rfl rfl rfl rfl rfl rfl rfl rfl ?_
      rintro r Y ⟨rfl, rfl⟩
      refine ⟨rfl, rfl, AJ.run kX8_wornAt [4] 60 ⟨fun hz => absurd hz ?_, fun _ => ⟨93 + 4 * i + 1, by simp only [fa_lit, nI_add, pk_mul], by omega, fun h3 => ?_, fun h3 => ?_⟩⟩⟩
      · show ¬ N 7 + N 8 ≤ nI i
        rw [hh]; exact nI_ge (by omega) (by omega)
      · have h3 : ¬ N (93 + 4 * i + 1) = q := h3
        rw [show wornL N q (i + 1) = wornL N q i + (if N (93 + 4 * i + 1) = q then 1 else 0) from rfl, if_neg h3] at h2
        exact h2
      · have h3 : N (93 + 4 * i + 1) = q := h3
        rw [show wornL N q (i + 1) = wornL N q i + (if N (93 + 4 * i + 1) = q then 1 else 0) from rfl, if_pos h3] at h2
        exact h2
  exact AJ.run kX8_wornAt [4] 60 (loop h 0 (by omega))
/-- how many halts a day has -/
def hmP (N : xN) : Nat := (N 7 + N 8).toNatClampNeg
theorem isDay_hm {s : xN} {a : Nat → xN} {m : Nat} {N : xN} (h : isDay s a m N) : N 7 + N 8 = nI (hmP (dq s a m)) ∧ hmP (dq s a m) ≤ 120 ∧ agN (hmP (dq s a m)) N (dq s a m) := by
  obtain ⟨-, h', e1, e2, e3⟩ := h
  have : hmP (dq s a m) = h' := by
    unfold hmP
    rw [← e3 7 (by omega), ← e3 8 (by omega), e1, nI_clamp (by omega)]
  rw [this]
  exact ⟨e1, e2, e3⟩
theorem c8_worn (L : xLn) (s : xN) (j : Int64) (a : Nat → xN) (m : Nat) (hok : okT s a m) (q : Int32) : CT L mX8_worn 4 0 0 [.ref 0, .int q] (modW s j a) (fun r Y => r = some (.int (if inP q 0 (s 0 - 1) = true then wornL (dq (toldP s) a m) q (hmP (dq (toldP s) a m)) else -2)) ∧ ∃ s' j' a', Y = modW s' j' a' ∧ keptM m s a s' a') := by
  refine CT.of rfl (Nat.le_of_ble_eq_true rfl) (Nat.le_of_ble_eq_true rfl) ?_
  refine AJ.run kX8_worn [] 60 ?_
  refine AJ.callF kX8_worn (c8_isPlace L s j a q) bX8_isPlace rfl (by decide +kernel) [] rfl rfl rfl rfl rfl rfl rfl rfl ?_
  rintro r Y ⟨rfl, rfl⟩
  refine ⟨rfl, rfl, AJ.run kX8_worn [] 60 ⟨fun h => ?_, fun h => ⟨by rw [bI_eq0] at h; rw [if_neg (by rw [h]; simp)], s, j, a, rfl, keptM.rf m s a⟩⟩⟩
  rw [bI_ne0] at h
  refine AJ.callF kX8_worn (c8_asTold L s j a) bX8_asTold rfl (by decide +kernel) [] rfl rfl rfl rfl rfl rfl rfl rfl ?_
  rintro r Y ⟨rfl, rfl⟩
  refine ⟨rfl, rfl, AJ.run kX8_worn [] 60 ?_⟩
  refine AJ.callF kX8_worn (c8_dayA L (toldP s) j a m hok.d) bX8_goDay rfl (by decide +kernel) [] rfl rfl rfl rfl rfl rfl rfl rfl ?_
  rintro r Y ⟨rfl, N, hN, rfl⟩
  obtain ⟨e1, e2, e3⟩ := isDay_hm hN
  refine ⟨rfl, rfl, AJ.run kX8_worn [] 60 ?_⟩
  refine AJ.callF kX8_worn (c8_wornAt L (toldP s) j (va_up a 27 (cpL (a 26) 0 (a 27) 0 573)) N q _ e1 e2) bX8_wornAt rfl (by decide +kernel) [] rfl rfl rfl rfl rfl rfl rfl rfl ?_
  rintro r Y ⟨rfl, rfl⟩
  refine ⟨rfl, rfl, AJ.run kX8_worn [] 60 ?_⟩
  refine AJ.callF kX8_worn (c8_putBack L (toldP s) j (va_up a 27 (cpL (a 26) 0 (a 27) 0 573)) N) bX8_putBack rfl (by decide +kernel) [] rfl rfl rfl rfl rfl rfl rfl rfl ?_
  rintro r Y ⟨rfl, rfl⟩
  refine ⟨rfl, rfl, AJ.run kX8_worn [] 60 ⟨?_, toldP s, j, va_up (va_up a 27 (cpL (a 26) 0 (a 27) 0 573)) 26 (cpL (cpL (a 26) 0 (a 27) 0 573) 0 N 0 573), rfl, ?_⟩⟩
  · show some (Value.int (wornL N q _)) = _
    rw [if_pos h, wornL_ag e3 q _ (Nat.le_refl _)]
  · refine ⟨fun i hi => ?_, ⟨rfl, rfl, rfl, rfl, rfl, rfl⟩, fun _ _ => rfl, fun i hi => put_back _ _ _ hi⟩
    show toldP s i = s i
    unfold toldP
    rw [pk_un (by omega), pk_un (by omega), pk_un (by omega)]

