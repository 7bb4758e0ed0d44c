/-! ===== the reference: more of what is foretold, and what is asked of today ===== -/
theorem toldP_lo (s : xN) {i : Nat} (hi : i < 15) : toldP s i = s i := by
  unfold toldP
  rw [pk_un (by omega), pk_un (by omega), pk_un (by omega)]
theorem kept_day (m : Nat) (s : xN) (a : Nat → xN) (N : xN) : keptM m s a (toldP s) (va_up (va_up a 27 (cpL (a 26) 0 (a 27) 0 573)) 26 (cpL (cpL (a 26) 0 (a 27) 0 573) 0 N 0 573)) := ⟨fun i hi => toldP_lo s hi, ⟨rfl, rfl, rfl, rfl, rfl, rfl⟩, fun _ _ => rfl, fun i hi => put_back _ _ _ hi⟩
def fareL (fo : Int32) (N : xN) : Nat → Int32
  | 0 => 0
  | q + 1 => fareL fo N q + (if hasP fo (nI q) = true then N (33 + q) else 0)
theorem fareL_ag {h : Nat} {N B : xN} (fo : Int32) (hN : agN h N B) : ∀ q, q ≤ 8 → fareL fo N q = fareL fo B q
  | 0, _ => rfl
  | q + 1, hq => by rw [fareL, fareL, fareL_ag fo hN q (by omega), hN (33 + q) (by omega)]
set_option maxHeartbeats 1000000 in
theorem c8_fares (L : xLn) (s : xN) (j : Int64) (a : Nat → xN) (m : Nat) (hok : okT s a m) : CT L mX8_fares 4 0 0 [.ref 0] (modW s j a) (fun r Y => r = some (.int (fareL (s 7) (dq (toldP s) a m) 8)) ∧ ∃ s' j' a', Y = modW s' j' a' ∧ keptM m s a s' a') := by
  refine CT.of rfl (Nat.le_of_ble_eq_true rfl) (Nat.le_of_ble_eq_true rfl) ?_
  refine AJ.run kX8_fares [] 60 ?_
  refine AJ.callF kX8_fares (c8_asTold L s j a) bX8_asTold rfl (by decide +kernel) [] rfl rfl rfl rfl rfl rfl rfl rfl ?_
  rintro r Y ⟨rfl, rfl⟩
  refine ⟨rfl, rfl, AJ.run kX8_fares [] 60 ?_⟩
  refine AJ.callF kX8_fares (c8_dayA L (toldP s) j a m hok.d) bX8_goDay rfl (by decide +kernel) [] rfl rfl rfl rfl rfl rfl rfl rfl ?_
  rintro r Y ⟨rfl, N, hN, rfl⟩
  obtain ⟨e1, e2, e3⟩ := isDay_hm hN
  refine ⟨rfl, rfl, ?_⟩
  have loop : ∀ (n q : Nat), q + n = 8 → AJ L mX8_fares 4 0 0 (fun r Y => r = some (.int (fareL (s 7) (dq (toldP s) a m) 8)) ∧ ∃ s' j' a', Y = modW s' j' a' ∧ keptM m s a s' a') (modW s j a).length (0, 0) 12 [some (.ref 0), some (.int (fareL (s 7) N q)), some (.int (nI q))] [] (modN (toldP s) j (va_up a 27 (cpL (a 26) 0 (a 27) 0 573)) N) := by
    intro n
    induction n with
    | zero =>
      intro q hq
      obtain rfl : q = 8 := by omega
      refine AJ.run kX8_fares [12] 60 ⟨fun _ => ?_, fun hz => absurd (by decide) hz⟩
      refine AJ.callF kX8_fares (c8_putBack L (toldP s) j (va_up a 27 (cpL (a 26) 0 (a 27) 0 573)) N) bX8_putBack rfl (by decide +kernel) [] rfl rfl rfl rfl rfl rfl rfl rfl ?_
      rintro r Y ⟨rfl, rfl⟩
      refine ⟨rfl, rfl, AJ.run kX8_fares [] 60 ⟨?_, toldP s, j, va_up (va_up a 27 (cpL (a 26) 0 (a 27) 0 573)) 26 (cpL (cpL (a 26) 0 (a 27) 0 573) 0 N 0 573), rfl, kept_day m s a N⟩⟩
      rw [fareL_ag (s 7) e3 8 (by omega)]
    | succ n ih =>
      intro q hq
      have h2 := ih (q + 1) (by omega)
      rw [nI_succ, show fareL (s 7) N (q + 1) = fareL (s 7) N q + (if hasP (s 7) (nI q) = true then N (33 + q) else 0) from rfl] at h2
      refine AJ.run kX8_fares [12] 60 ⟨fun hz => absurd hz (nI_ge (b := 8) (by omega) (by omega)), fun _ => ?_⟩
      refine AJ.callZ kX8_fares (c8_has L (s 7) (nI q)) bX8_has rfl (by decide +kernel) [.int (fareL (s 7) N q)] rfl rfl rfl rfl rfl ?_
      rintro r rfl
      refine AJ.run kX8_fares [12] 60 ⟨fun h3 => ?_, fun h3 => ⟨33 + q, nI_add 33 q, by omega, ?_⟩⟩
      · rw [bI_eq0] at h3
        rw [if_neg (by rw [h3]; simp)] at h2
        exact h2
      · rw [bI_ne0] at h3
        rw [if_pos h3] at h2
        exact h2
  exact AJ.run kX8_fares [12] 60 (loop 8 0 rfl)
def dryL (N : xN) (h : Nat) : Nat → Int32
  | 0 => 0
  | q + 1 => dryL N h q ||| (if wornL N (nI q) h = 0 then 1 <<< (nI q &&& 31) else 0)
theorem dryL_ag {h : Nat} {N B : xN} (hN : agN h N B) : ∀ q, dryL N h q = dryL B h q
  | 0 => rfl
  | q + 1 => by rw [dryL, dryL, dryL_ag hN q, wornL_ag hN (nI q) h (Nat.le_refl _)]
set_option maxHeartbeats 1000000 in
theorem c8_dry (L : xLn) (s : xN) (j : Int64) (a : Nat → xN) (m l : Nat) (hok : okT s a m) (hl : s 0 = nI l) (hl2 : l ≤ 12) : CT L mX8_dry 4 0 0 [.ref 0] (modW s j a) (fun r Y => r = some (.int (dryL (dq (toldP s) a m) (hmP (dq (toldP s) a m)) l)) ∧ ∃ s' j' a', Y = modW s' j' a' ∧ keptM m s a s' a') := by
  refine CT.of rfl (Nat.le_of_ble_eq_true rfl) (Nat.le_of_ble_eq_true rfl) ?_
  refine AJ.run kX8_dry [] 60 ?_
  refine AJ.callF kX8_dry (c8_asTold L s j a) bX8_asTold rfl (by decide +kernel) [] rfl rfl rfl rfl rfl rfl rfl rfl ?_
  rintro r Y ⟨rfl, rfl⟩
  refine ⟨rfl, rfl, AJ.run kX8_dry [] 60 ?_⟩
  refine AJ.callF kX8_dry (c8_dayA L (toldP s) j a m hok.d) bX8_goDay rfl (by decide +kernel) [] rfl rfl rfl rfl rfl rfl rfl rfl ?_
  rintro r Y ⟨rfl, N, hN, rfl⟩
  obtain ⟨e1, e2, e3⟩ := isDay_hm hN
  refine ⟨rfl, rfl, ?_⟩
  have loop : ∀ (n q : Nat), q + n = l → AJ L mX8_dry 4 0 0 (fun r Y => r = some (.int (dryL (dq (toldP s) a m) (hmP (dq (toldP s) a m)) l)) ∧ ∃ s' j' a', Y = modW s' j' a' ∧ keptM m s a s' a') (modW s j a).length (0, 0) 12 [some (.ref 0), some (.int (dryL N (hmP (dq (toldP s) a m)) q)), some (.int (nI q))] [] (modN (toldP s) j (va_up a 27 (cpL (a 26) 0 (a 27) 0 573)) N) := by
    intro n
    induction n with
    | zero =>
      intro q hq
      obtain rfl : q = l := by omega
      refine AJ.run kX8_dry [12] 60 ⟨fun _ => ?_, fun hz => absurd ?_ hz⟩
      · refine AJ.callF kX8_dry (c8_putBack L (toldP s) j (va_up a 27 (cpL (a 26) 0 (a 27) 0 573)) N) bX8_putBack rfl (by decide +kernel) [] rfl rfl rfl rfl rfl rfl rfl rfl ?_
        rintro r Y ⟨rfl, rfl⟩
        refine ⟨rfl, rfl, AJ.run kX8_dry [] 60 ⟨?_, toldP s, j, va_up (va_up a 27 (cpL (a 26) 0 (a 27) 0 573)) 26 (cpL (cpL (a 26) 0 (a 27) 0 573) 0 N 0 573), rfl, kept_day m s a N⟩⟩
        rw [dryL_ag e3 q]
      · show s 0 ≤ nI q
        rw [hl]; exact nI_le (by omega) (by omega)
    | succ n ih =>
      intro q hq
      have h2 := ih (q + 1) (by omega)
      rw [nI_succ, show dryL N (hmP (dq (toldP s) a m)) (q + 1) = dryL N (hmP (dq (toldP s) a m)) q ||| (if wornL N (nI q) (hmP (dq (toldP s) a m)) = 0 then 1 <<< (nI q &&& 31) else 0) from rfl] at h2
      refine AJ.run kX8_dry [12] 60 ⟨fun hz => absurd hz ?_, fun _ => ?_⟩
      · show ¬ s 0 ≤ nI q
        rw [hl]; exact nI_ge (by omega) (by omega)
      refine AJ.callF kX8_dry (c8_wornAt L (toldP s) j (va_up a 27 (cpL (a 26) 0 (a 27) 0 573)) N (nI q) _ e1 e2) bX8_wornAt rfl (by decide +kernel) [.int (dryL N (hmP (dq (toldP s) a m)) q)] rfl rfl rfl rfl rfl rfl rfl rfl ?_
      rintro r Y ⟨rfl, rfl⟩
      refine ⟨rfl, rfl, AJ.run kX8_dry [12] 60 ⟨fun h3 => ?_, fun h3 => ?_⟩⟩
      · have h3 : ¬ wornL N (nI q) (hmP (dq (toldP s) a m)) = 0 := h3
        rw [if_neg h3] at h2
        exact h2
      · have h3 : wornL N (nI q) (hmP (dq (toldP s) a m)) = 0 := h3
        rw [if_pos h3] at h2
        exact h2
  exact AJ.run kX8_dry [12] 60 (loop l 0 (by omega))
/-- Euclid's steps -/
def gcL : Nat → Nat → Nat → Nat
  | 0, x, _ => x
  | f + 1, x, y => if y = 0 then x else gcL f y (x % y)
theorem c8_divisor (L : xLn) (x y : Nat) (hx : x < 2 ^ 31) (hy : y < 2 ^ 31) : CT L mX8_divisor 0 0 0 [.int (nI x), .int (nI y)] [] (fun r Y => r = some (.int (nI (gcL (y + 1) x y))) ∧ Y = []) := by
  refine CT.of rfl (Nat.le_of_ble_eq_true rfl) (Nat.le_of_ble_eq_true rfl) ?_
  have loop : ∀ (f x' y' : Nat) (x4 : Option Value), x' < 2 ^ 31 → y' < 2 ^ 31 → y' < f → gcL f x' y' = gcL (y + 1) x y → AJ L mX8_divisor 0 0 0 (fun r Y => r = some (.int (nI (gcL (y + 1) x y))) ∧ Y = []) 0 (0, 0) 4 [some (.int (nI x)), some (.int (nI y)), some (.int (nI x')), some (.int (nI y')), x4] [] [] := by
    intro f
    induction f with
    | zero => intro x' y' x4 h1 h2 h3; omega
    | succ f ih =>
      intro x' y' x4 h1 h2 h3 h4
      refine AJ.run kX8_divisor [4] 60 ⟨fun h => ⟨?_, rfl⟩, fun h => ⟨h, ?_⟩⟩
      · have h5 : y' = 0 := by
          rcases Nat.eq_zero_or_pos y' with q | q
          · exact q
          · exact absurd h (nI_ne0 q h2)
        rw [← h4, gcL, if_pos h5]
      · have h5 : y' ≠ 0 := fun q => h (by rw [q]; rfl)
        have hm : x' % y' < y' := Nat.mod_lt _ (by omega)
        have := ih y' (x' % y') (some (.int (nI (x' % y')))) h2 (by omega) (by omega) (by rw [← h4, gcL, if_neg h5])
        rw [← pk_rem h1 (by omega) h2] at this
        exact this
  exact AJ.run kX8_divisor [4] 60 (loop (y + 1) x y none hx hy (by omega) rfl)
/-- what is asked by numbers -/
def cntP (s : xN) (a : Nat → xN) (k : Int32) : Int32 := if k = 0 then s 0 else if k = 1 then s 1 else if k = 2 then s 2 else if k = 3 then s 3 else if k = 4 then s 4 else if k = 5 then s 5 else if k = 6 then s 7 else if k = 7 then s 9 else if k = 8 then a 26 0 else if k = 9 then a 26 7 + a 26 8 else if k = 10 then s 11 else if k = 11 then s 13 else -3
theorem c8_count (L : xLn) (s : xN) (j : Int64) (a : Nat → xN) (k : Int32) : CT L mX8_count 1 0 0 [.ref 0, .int k] (modW s j a) (fun r Y => r = some (.int (cntP s a k)) ∧ Y = modW s j a) := by
  refine CT.of rfl (Nat.le_of_ble_eq_true rfl) (Nat.le_of_ble_eq_true rfl) ?_
  refine AJ.run kX8_count [] 60 ⟨fun h => ⟨by subst h; rfl, rfl⟩, fun h0 => ⟨fun h => ⟨by subst h; rfl, rfl⟩, fun h1 => ⟨fun h => ⟨by subst h; rfl, rfl⟩, fun h2 => ⟨fun h => ⟨by subst h; rfl, rfl⟩, fun h3 => ⟨fun h => ⟨by subst h; rfl, rfl⟩, fun h4 => ⟨fun h => ⟨by subst h; rfl, rfl⟩, fun h5 => ⟨fun h => ⟨by subst h; rfl, rfl⟩, fun h6 => ⟨fun h => ⟨by subst h; rfl, rfl⟩, fun h7 => ⟨fun h => ⟨0, rfl, by omega, by subst h; rfl, rfl⟩, fun h8 => ⟨fun h => ?_, fun h9 => ⟨fun h => ⟨by subst h; rfl, rfl⟩, fun h10 => ⟨fun h => ⟨by subst h; rfl, rfl⟩, fun h11 => ⟨?_, rfl⟩⟩⟩⟩⟩⟩⟩⟩⟩⟩⟩⟩⟩
  · refine AJ.callF kX8_count (c8_haltMany L s j a) bX8_haltMany rfl (by decide +kernel) [] rfl rfl rfl rfl rfl rfl rfl rfl ?_
    rintro r Y ⟨rfl, rfl⟩
    exact ⟨rfl, rfl, AJ.run kX8_count [] 60 ⟨by subst h; rfl, rfl⟩⟩
  · simp [cntP, h0, h1, h2, h3, h4, h5, h6, h7, h8, h9, h10, h11]

