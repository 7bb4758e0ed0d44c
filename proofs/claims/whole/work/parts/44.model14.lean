/-! ===== the reference: moods drawn; halts that were seen ===== -/
def poL (fo : Int32) : Nat → Nat → Nat → Int32
  | 0, _, _ => -1
  | f + 1, k, l => if hasP fo (nI k) = true then (if l = 0 then nI k else poL fo f (k + 1) (l - 1)) else poL fo f (k + 1) l
theorem c8_personOf (L : xLn) (s : xN) (j : Int64) (a : Nat → xN) (i : Nat) (hi : i < 2 ^ 31) : CT L mX8_personOf 1 0 0 [.ref 0, .int (nI i)] (modW s j a) (fun r Y => r = some (.int (poL (s 7) 8 0 i)) ∧ Y = modW s j a) := by
  refine CT.of rfl (Nat.le_of_ble_eq_true rfl) (Nat.le_of_ble_eq_true rfl) ?_
  obtain ⟨R, hR⟩ : ∃ R : Int32, R = poL (s 7) 8 0 i := ⟨_, rfl⟩
  rw [← hR]
  have loop : ∀ (f k l : Nat), k + f = 8 → l < 2 ^ 31 → poL (s 7) f k l = R → AJ L mX8_personOf 1 0 0 (fun r Y => r = some (.int R) ∧ Y = modW s j a) (modW s j a).length (0, 0) 4 [some (.ref 0), some (.int (nI i)), some (.int (nI l)), some (.int (nI k))] [] (modW s j a) := by
    intro f
    induction f with
    | zero =>
      intro k l hk hl hp
      obtain rfl : k = 8 := by omega
      exact AJ.run kX8_personOf [4] 60 ⟨fun _ => ⟨by rw [← hp]; rfl, rfl⟩, fun hz => absurd (by decide) hz⟩
    | succ f ih =>
      intro k l hk hl hp
      rw [poL] at hp
      refine AJ.run kX8_personOf [4] 60 ⟨fun hz => absurd hz (nI_ge (b := 8) (by omega) (by omega)), fun _ => ?_⟩
      refine AJ.callZ kX8_personOf (c8_has L (s 7) (nI k)) bX8_has rfl (by decide +kernel) [] rfl rfl rfl rfl rfl ?_
      rintro r rfl
      refine AJ.run kX8_personOf [4] 60 ⟨fun h => ?_, fun h => ⟨fun h2 => ?_, fun h2 => ⟨?_, rfl⟩⟩⟩
      · rw [bI_eq0] at h
        rw [if_neg (by rw [h]; simp)] at hp
        have := ih (k + 1) l (by omega) hl hp
        rw [nI_succ] at this
        exact this
      · rw [bI_ne0] at h
        have h3 : l ≠ 0 := fun q => h2 (by rw [q]; rfl)
        rw [if_pos h, if_neg h3] at hp
        have := ih (k + 1) (l - 1) (by omega) (by omega) hp
        rw [nI_succ, ← sb_m1 (by omega)] at this
        exact this
      · rw [bI_ne0] at h
        have h3 : l = 0 := by
          rcases Nat.eq_zero_or_pos l with q | q
          · exact q
          · exact absurd h2 (nI_ne0 q hl)
        rw [if_pos h, if_pos h3] at hp
        rw [← hp]
  exact AJ.run kX8_personOf [4] 60 (loop 8 0 i rfl hi hR.symm)
/-- the numbers that are drawn -/
def dxP (z : Nat) : Nat → Nat
  | 0 => z
  | i + 1 => 16807 * dxP z i % 65521
theorem dxP_lt {z : Nat} (hz : z < 65521) : ∀ i, dxP z i < 65521
  | 0 => hz
  | i + 1 => Nat.mod_lt _ (by omega)
/-- the moods' row behind i of them -/
def dmP (fo : Int32) (c z m : Nat) (f : xN) : Nat → xN
  | 0 => f
  | i + 1 => upd (upd (upd (dmP fo c z m f i) (3 * (m + i)) (poL fo 8 0 (dxP z (i + 1) % c))) (3 * (m + i) + 1) (nI (dxP z (i + 1) / 8 % 3))) (3 * (m + i) + 2) (nI (dxP z (i + 1) / 32 % 60))
set_option maxHeartbeats 1000000 in
theorem c8_drawn (L : xLn) (s : xN) (j : Int64) (a : Nat → xN) (m c : Nat) (hs : s 9 = nI m) (hm : m ≤ 24) (hc : s 7 ≠ 0 → bitsP (s 7) 8 = nI c ∧ 0 < c ∧ c ≤ 8) (zz nn : Int32) : CT L mX8_drawn 2 0 0 [.ref 0, .int zz, .int nn] (modW s j a) (fun r Y => ((inP zz 1 9999 && inP nn 1 24) = false ∧ r = some (.int (-3)) ∧ Y = modW s j a) ∨ ((inP zz 1 9999 && inP nn 1 24) = true ∧ (0 < a 26 0 ∨ s 7 = 0) ∧ r = some (.int (-4)) ∧ Y = modW s j a) ∨ ∃ z n, 1 ≤ z ∧ z ≤ 9999 ∧ 1 ≤ n ∧ n ≤ 24 ∧ zz = nI z ∧ nn = nI n ∧ ¬ 0 < a 26 0 ∧ s 7 ≠ 0 ∧ ((24 < m + n ∧ r = some (.int (-5)) ∧ Y = modW s j a) ∨ (m + n ≤ 24 ∧ r = some (.int (nI (m + n))) ∧ Y = modW (upd s 9 (nI (m + n))) j (va_up (va_up a 10 (dmP (s 7) c z m (a 10) n)) 29 (upd (upd (a 29) 0 0) 1 0))))) := by
  obtain ⟨E, hE⟩ : ∃ E : Nat → Nat → xN → Nat → xN, E = dmP (s 7) c := ⟨_, rfl⟩
  have hE0 : ∀ z m f, E z m f 0 = f := fun z m f => by rw [hE]; rfl
  have hE1 : ∀ z m f i, E z m f (i + 1) = upd (upd (upd (E z m f i) (3 * (m + i)) (poL (s 7) 8 0 (dxP z (i + 1) % c))) (3 * (m + i) + 1) (nI (dxP z (i + 1) / 8 % 3))) (3 * (m + i) + 2) (nI (dxP z (i + 1) / 32 % 60)) := fun z m f i => by rw [hE]; rfl
  rw [← hE]
  clear hE
  refine CT.of rfl (Nat.le_of_ble_eq_true rfl) (Nat.le_of_ble_eq_true rfl) ?_
  refine AJ.run kX8_drawn [] 60 ?_
  refine AJ.callZ kX8_drawn (c8_in L zz 1 9999) bX8_in rfl (by decide +kernel) [] rfl rfl rfl rfl rfl ?_
  rintro r rfl
  refine AJ.run kX8_drawn [24] 60 ⟨fun h => Or.inl ⟨by rw [(bI_eq0 _).mp h]; rfl, rfl, rfl⟩, fun h => ?_⟩
  have h1 := (bI_ne0 _).mp h
  refine AJ.callZ kX8_drawn (c8_in L nn 1 24) bX8_in rfl (by decide +kernel) [] rfl rfl rfl rfl rfl ?_
  rintro r rfl
  refine AJ.run kX8_drawn [24] 60 ⟨fun h => ?_, fun h => Or.inl ⟨by rw [(bI_eq0 _).mp h, Bool.and_false], rfl, rfl⟩⟩
  have h2 := (bI_ne0 _).mp h
  have h12 : (inP zz 1 9999 && inP nn 1 24) = true := by rw [h1, h2]; rfl
  have g1 := of_decide_eq_true h1
  have g2 := of_decide_eq_true h2
  have e1 : (1 : Int32).toInt = 1 := rfl
  have e0 : (0 : Int32).toInt = 0 := rfl
  obtain ⟨z, hz, rfl⟩ : ∃ z, z ≤ 9999 ∧ zz = nI z := nI_of2 (M := 9999) (n := 9999) rfl (by have := g1.1; simp only [i32_lt, i32_le] at this ⊢; omega) g1.2
  obtain ⟨n, hn, rfl⟩ : ∃ n, n ≤ 24 ∧ nn = nI n := nI_of2 (M := 24) (n := 24) rfl (by have := g2.1; simp only [i32_lt, i32_le] at this ⊢; omega) g2.2
  have hz1 : 1 ≤ z := (nI_leI (a := 1) (by omega) (by omega)).mp g1.1
  have hn1 : 1 ≤ n := (nI_leI (a := 1) (by omega) (by omega)).mp g2.1
  refine AJ.run kX8_drawn [43] 60 ⟨0, rfl, by omega, fun h3 => Or.inr (Or.inl ⟨h12, Or.inl h3, rfl, rfl⟩), fun h3 => ⟨fun h4 => ?_, fun h4 => Or.inr (Or.inl ⟨h12, Or.inr h4, rfl, rfl⟩)⟩⟩
  have h3 : ¬ 0 < a 26 0 := h3
  have h4 : s 7 ≠ 0 := h4
  obtain ⟨hb, hc0, hc8⟩ := hc h4
  have e2 : s 9 + nI n = nI (m + n) := by rw [hs, nI_add]
  refine AJ.run kX8_drawn [57] 60 ⟨fun h5 => ?_, fun h5 => Or.inr (Or.inr ⟨z, n, hz1, hz, hn1, hn, rfl, rfl, h3, h4, Or.inl ⟨by have h5 : ¬ s 9 + nI n ≤ nI 24 := h5; rw [e2, nI_leI (by omega) (by omega)] at h5; omega, rfl, rfl⟩⟩)⟩
  have h5 : s 9 + nI n ≤ nI 24 := h5
  rw [e2, nI_leI (by omega) (by omega)] at h5
  have hD0 : E z m (a 10) 0 = a 10 := hE0 z m (a 10)
  have hD1 := hE1 z m (a 10)
  have hx : ∀ i, dxP z i < 65521 := dxP_lt (by omega)
  have hx1 : ∀ i, dxP z (i + 1) = 16807 * dxP z i % 65521 := fun i => rfl
  have hx0 : dxP z 0 = z := rfl
  generalize dxP z = X at hD1 hx hx1 hx0
  have loop : ∀ (f i : Nat), i + f = n → AJ L mX8_drawn 2 0 0 (fun r Y => ((inP (nI z) 1 9999 && inP (nI n) 1 24) = false ∧ r = some (.int (-3)) ∧ Y = modW s j a) ∨ ((inP (nI z) 1 9999 && inP (nI n) 1 24) = true ∧ (0 < a 26 0 ∨ s 7 = 0) ∧ r = some (.int (-4)) ∧ Y = modW s j a) ∨ ∃ z' n', 1 ≤ z' ∧ z' ≤ 9999 ∧ 1 ≤ n' ∧ n' ≤ 24 ∧ nI z = nI z' ∧ nI n = nI n' ∧ ¬ 0 < a 26 0 ∧ s 7 ≠ 0 ∧ ((24 < m + n' ∧ r = some (.int (-5)) ∧ Y = modW s j a) ∨ (m + n' ≤ 24 ∧ r = some (.int (nI (m + n'))) ∧ Y = modW (upd s 9 (nI (m + n'))) j (va_up (va_up a 10 (E z' m (a 10) n')) 29 (upd (upd (a 29) 0 0) 1 0))))) (modW s j a).length (0, 0) 62 [some (.ref 0), some (.int (nI z)), some (.int (nI n)), some (.int (nI (X i))), some (.int (nI i))] [] (modW (upd s 9 (nI (m + i))) j (va_up a 10 (E z m (a 10) i))) := by
    intro f
    induction f with
    | zero =>
      intro i hi
      obtain rfl : i = n := by omega
      exact AJ.run kX8_drawn [62] 60 ⟨fun _ => ⟨0, rfl, by omega, Or.inl rfl, 1, rfl, by omega, Or.inl rfl, Or.inr (Or.inr ⟨z, i, hz1, hz, hn1, hn, rfl, rfl, h3, h4, Or.inr ⟨h5, rfl, rfl⟩⟩)⟩, fun hz => absurd (nI_le (Nat.le_refl _) (by omega)) hz⟩
    | succ f ih =>
      intro i hi
      have n2 := ih (i + 1) (by omega)
      rw [nI_succ, hD1 i] at n2
      have hxi := hx i
      have hxi1 := hx (i + 1)
      have ex : 16807 * nI (X i) - 16807 * nI (X i) / 65521 * 65521 = nI (X (i + 1)) := by
        rw [show (16807 : Int32) * nI (X i) = nI (16807 * X i) by simp only [fa_lit, pk_mul], hx1 i]
        exact pk_rem (d := 65521) (by omega) (by omega) (by omega)
      refine AJ.run kX8_drawn [62, 76] 60 ⟨fun hz => absurd hz (nI_ge (by omega) (by omega)), fun _ => ⟨by decide, ?_⟩⟩
      have at76 : AJ L mX8_drawn 2 0 0 (fun r Y => ((inP (nI z) 1 9999 && inP (nI n) 1 24) = false ∧ r = some (.int (-3)) ∧ Y = modW s j a) ∨ ((inP (nI z) 1 9999 && inP (nI n) 1 24) = true ∧ (0 < a 26 0 ∨ s 7 = 0) ∧ r = some (.int (-4)) ∧ Y = modW s j a) ∨ ∃ z' n', 1 ≤ z' ∧ z' ≤ 9999 ∧ 1 ≤ n' ∧ n' ≤ 24 ∧ nI z = nI z' ∧ nI n = nI n' ∧ ¬ 0 < a 26 0 ∧ s 7 ≠ 0 ∧ ((24 < m + n' ∧ r = some (.int (-5)) ∧ Y = modW s j a) ∨ (m + n' ≤ 24 ∧ r = some (.int (nI (m + n'))) ∧ Y = modW (upd s 9 (nI (m + n'))) j (va_up (va_up a 10 (E z' m (a 10) n')) 29 (upd (upd (a 29) 0 0) 1 0))))) (modW s j a).length (0, 0) 76 [some (.ref 0), some (.int (nI z)), some (.int (nI n)), some (.int (nI (X i))), some (.int (nI i))] [.int (nI (X (i + 1)))] (modW (upd s 9 (nI (m + i))) j (va_up a 10 (E z m (a 10) i))) := by
        generalize X (i + 1) = y at n2 hxi1
        refine AJ.run kX8_drawn [] 60 ?_
        refine AJ.callZ kX8_drawn (c8_bits L (s 7)) bX8_bits rfl (by decide +kernel) [.int (nI y), .ref 0, .ref 0] rfl rfl rfl rfl rfl ?_
        rintro r rfl
        have hcn : ¬ bitsP (s 7) 8 = 0 := by rw [hb]; exact nI_ne0 hc0 (by omega)
        refine AJ.run kX8_drawn [88] 60 ⟨hcn, ?_⟩
        have er : nI y - nI y / bitsP (s 7) 8 * bitsP (s 7) 8 = nI (y % c) := by rw [hb]; exact pk_rem (by omega) hc0 (by omega)
        rw [er]
        have hym : y % c < c := Nat.mod_lt _ hc0
        refine AJ.callF kX8_drawn (c8_personOf L (upd s 9 (nI (m + i))) j (va_up a 10 (E z m (a 10) i)) (y % c) (by omega)) bX8_personOf rfl (by decide +kernel) [.ref 0] rfl rfl rfl rfl rfl rfl rfl rfl ?_
        rintro r Y ⟨rfl, rfl⟩
        have e3 : nI y / 8 - nI y / 8 / 3 * 3 = nI (y / 8 % 3) := by
          rw [show nI y / 8 = nI (y / 8) from pk_div (d := 8) (by omega) (by omega) (by omega)]
          exact pk_rem (d := 3) (by omega) (by omega) (by omega)
        have e4 : nI y / 32 - nI y / 32 / 60 * 60 = nI (y / 32 % 60) := by
          rw [show nI y / 32 = nI (y / 32) from pk_div (d := 32) (by omega) (by omega) (by omega)]
          exact pk_rem (d := 60) (by omega) (by omega) (by omega)
        refine ⟨rfl, rfl, AJ.run kX8_drawn [] 60 ⟨by decide, by decide, by decide, by decide, ?_⟩⟩
        have hA := c8_addMood L (upd s 9 (nI (m + i))) j (va_up a 10 (E z m (a 10) i)) (poL (s 7) 8 0 (y % c)) (nI (y / 8 % 3)) (nI (y / 32 % 60)) (m + i) rfl (by omega)
        rw [← e3, ← e4] at hA
        refine AJ.callF kX8_drawn hA bX8_addMood rfl (by decide +kernel) [] rfl rfl rfl rfl rfl rfl rfl rfl ?_
        rintro r Y ⟨rfl, rfl⟩
        rw [e3, e4]
        refine ⟨rfl, rfl, ?_⟩
        have em : nI (m + i) + 1 = nI (m + (i + 1)) := nI_1 (m + i)
        rw [← em] at n2
        exact AJ.run kX8_drawn [62] 60 n2
      rw [← ex] at at76
      exact at76
  have := loop n 0 (by omega)
  rw [hx0, hD0, Nat.add_zero, ← hs] at this
  exact AJ.run kX8_drawn [62] 60 this

