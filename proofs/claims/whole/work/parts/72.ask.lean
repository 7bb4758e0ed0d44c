/-! ===== the class: what is asked of a day ===== -/
def anyB (P : Nat → Bool) : Nat → Bool
  | 0 => false
  | k + 1 => anyB P k || P k
theorem anyB_t {P : Nat → Bool} : ∀ {n i : Nat}, i < n → P i = true → anyB P n = true
  | 0, i, h, _ => by omega
  | n + 1, i, h, hp => by
    rw [anyB]
    by_cases e : i = n
    · subst e; rw [hp]; simp
    · rw [anyB_t (show i < n by omega) hp]; rfl
theorem anyB_f {P : Nat → Bool} : ∀ {n : Nat}, (∀ i, i < n → P i = false) → anyB P n = false
  | 0, _ => rfl
  | n + 1, h => by rw [anyB, anyB_f (fun i hi => h i (by omega)), h n (by omega)]; rfl
theorem anyB_congr {P P' : Nat → Bool} : ∀ n, (∀ i, i < n → P i = P' i) → anyB P n = anyB P' n
  | 0, _ => rfl
  | n + 1, h => by rw [anyB, anyB, anyB_congr n (fun i hi => h i (by omega)), h n (by omega)]
theorem cH_ofTram (L : xLn) (z : Int32) (f0 f1 f2 f3 : xN) (h : Nat) (hz : z = nI h) (hh : h ≤ 26) (v : Int32) : CT L mX2_ofTram 0 0 0 [.ref 0, .int v] (halW 0 z f0 f1 f2 f3) (fun r Y => r = some (.int (nI (cntB (fun i => decide (f0 i = v)) h))) ∧ Y = halW 0 z f0 f1 f2 f3) := by
  subst hz
  refine CT.of rfl (Nat.le_of_ble_eq_true rfl) (Nat.le_of_ble_eq_true rfl) ?_
  have loop : ∀ (n i : Nat), i + n = h → AJ L mX2_ofTram 0 0 0 (fun r Y => r = some (.int (nI (cntB (fun i => decide (f0 i = v)) h))) ∧ Y = halW 0 (nI h) f0 f1 f2 f3) (halW 0 (nI h) f0 f1 f2 f3).length (0, 0) 4 [some (.ref 0), some (.int v), some (.int (nI (cntB (fun i => decide (f0 i = v)) i))), some (.int (nI i))] [] (halW 0 (nI h) f0 f1 f2 f3) := by
    intro n
    induction n with
    | zero =>
      intro i hi
      obtain rfl : i = h := by omega
      exact AJ.run kX2_ofTram [4] 30 ⟨fun _ => ⟨rfl, rfl⟩, fun hz => absurd (nI_le (Nat.le_refl _) (by omega)) hz⟩
    | succ n ih =>
      intro i hi
      have nxt := ih (i + 1) (by omega)
      rw [nI_succ, cntB] at nxt
      refine AJ.run kX2_ofTram [4] 30 ⟨fun hz => absurd hz (nI_ge (by omega) (by omega)), fun _ => ⟨i, rfl, by omega, fun h3 => ?_, fun h3 => ?_⟩⟩
      · have h3 : ¬ f0 i = v := h3
        rw [if_neg (by simp [h3]), Nat.add_zero] at nxt
        exact nxt
      · have h3 : f0 i = v := h3
        rw [if_pos (by simp [h3]), nI_succ] at nxt
        exact nxt
  exact AJ.run kX2_ofTram [4] 30 (loop h 0 (by omega))
theorem cH_atPlace (L : xLn) (z : Int32) (f0 f1 f2 f3 : xN) (h : Nat) (hz : z = nI h) (hh : h ≤ 26) (v : Int32) : CT L mX2_atPlace 0 0 0 [.ref 0, .int v] (halW 0 z f0 f1 f2 f3) (fun r Y => r = some (.int (nI (cntB (fun i => decide (f1 i = v)) h))) ∧ Y = halW 0 z f0 f1 f2 f3) := by
  subst hz
  refine CT.of rfl (Nat.le_of_ble_eq_true rfl) (Nat.le_of_ble_eq_true rfl) ?_
  have loop : ∀ (n i : Nat), i + n = h → AJ L mX2_atPlace 0 0 0 (fun r Y => r = some (.int (nI (cntB (fun i => decide (f1 i = v)) h))) ∧ Y = halW 0 (nI h) f0 f1 f2 f3) (halW 0 (nI h) f0 f1 f2 f3).length (0, 0) 4 [some (.ref 0), some (.int v), some (.int (nI (cntB (fun i => decide (f1 i = v)) i))), some (.int (nI i))] [] (halW 0 (nI h) f0 f1 f2 f3) := by
    intro n
    induction n with
    | zero =>
      intro i hi
      obtain rfl : i = h := by omega
      exact AJ.run kX2_atPlace [4] 30 ⟨fun _ => ⟨rfl, rfl⟩, fun hz => absurd (nI_le (Nat.le_refl _) (by omega)) hz⟩
    | succ n ih =>
      intro i hi
      have nxt := ih (i + 1) (by omega)
      rw [nI_succ, cntB] at nxt
      refine AJ.run kX2_atPlace [4] 30 ⟨fun hz => absurd hz (nI_ge (by omega) (by omega)), fun _ => ⟨i, rfl, by omega, fun h3 => ?_, fun h3 => ?_⟩⟩
      · have h3 : ¬ f1 i = v := h3
        rw [if_neg (by simp [h3]), Nat.add_zero] at nxt
        exact nxt
      · have h3 : f1 i = v := h3
        rw [if_pos (by simp [h3]), nI_succ] at nxt
        exact nxt
  exact AJ.run kX2_atPlace [4] 30 (loop h 0 (by omega))
theorem cH_has (L : xLn) (z : Int32) (f0 f1 f2 f3 : xN) (h : Nat) (hz : z = nI h) (hh : h ≤ 26) (v w : Int32) : CT L mX2_has 0 0 0 [.ref 0, .int v, .int w] (halW 0 z f0 f1 f2 f3) (fun r Y => r = some (.int (bI (anyB (fun i => decide (f1 i = v) && decide (f2 i = w)) h))) ∧ Y = halW 0 z f0 f1 f2 f3) := by
  subst hz
  refine CT.of rfl (Nat.le_of_ble_eq_true rfl) (Nat.le_of_ble_eq_true rfl) ?_
  have loop : ∀ (n i : Nat), i + n = h → (∀ q, q < i → (decide (f1 q = v) && decide (f2 q = w)) = false) → AJ L mX2_has 0 0 0 (fun r Y => r = some (.int (bI (anyB (fun i => decide (f1 i = v) && decide (f2 i = w)) h))) ∧ Y = halW 0 (nI h) f0 f1 f2 f3) (halW 0 (nI h) f0 f1 f2 f3).length (0, 0) 2 [some (.ref 0), some (.int v), some (.int w), some (.int (nI i))] [] (halW 0 (nI h) f0 f1 f2 f3) := by
    intro n
    induction n with
    | zero =>
      intro i hi hq
      obtain rfl : i = h := by omega
      exact AJ.run kX2_has [2] 30 ⟨fun _ => ⟨Or.inl rfl, by rw [anyB_f hq]; rfl, rfl⟩, fun hz => absurd (nI_le (Nat.le_refl _) (by omega)) hz⟩
    | succ n ih =>
      intro i hi hq
      have nxt := fun z => ih (i + 1) (by omega) z
      rw [nI_succ] at nxt
      have skip : ¬ (f1 i = v ∧ f2 i = w) → ∀ q, q < i + 1 → (decide (f1 q = v) && decide (f2 q = w)) = false := by
        intro hn q hlt
        by_cases e : q = i
        · subst e
          by_cases e1 : f1 q = v
          · have : ¬ f2 q = w := fun z => hn ⟨e1, z⟩
            simp [this]
          · simp [e1]
        · exact hq q (by omega)
      refine AJ.run kX2_has [2] 30 ⟨fun hz => absurd hz (nI_ge (by omega) (by omega)), fun _ => ⟨i, rfl, by omega, fun h3 => nxt (skip (fun z => h3 z.1)), fun h3 => ⟨i, rfl, by omega, fun h4 => nxt (skip (fun z => h4 z.2)), fun h4 => ⟨Or.inr rfl, ?_, rfl⟩⟩⟩⟩
      have h3 : f1 i = v := h3
      have h4 : f2 i = w := h4
      rw [anyB_t (P := fun i => decide (f1 i = v) && decide (f2 i = w)) (show i < h by omega) (by simp [h3, h4])]; rfl
  exact AJ.run kX2_has [2] 30 (loop h 0 (by omega) (fun q hq => by omega))
theorem cD_lateness (L : xLn) (d : xN) (da : Nat → xN) (t : xN) (ta : Nat → xN) (N : xN) (q : Nat) (hq : q < 8) (hP : RP da N) : CT L mX0_lateness 0 0 0 [.ref 0, .int (nI q)] (dtW d da t ta) (fun r Y => r = some (.int (lateP N q)) ∧ Y = dtW d da t ta) := by
  refine CT.of rfl (Nat.le_of_ble_eq_true rfl) (Nat.le_of_ble_eq_true rfl) ?_
  have e := (hP.2 q hq).1
  refine AJ.run kX0_lateness [] 30 ⟨q, rfl, by omega, fun h => ⟨q, rfl, by omega, ?_, rfl⟩, fun h => ⟨?_, rfl⟩⟩
  · have h : ¬ da 8 q = -1 := h
    show some (Value.int (da 8 q)) = _
    rw [e] at h ⊢
    rw [lateP, if_neg h]
  · have h : da 8 q = -1 := h
    rw [e] at h
    rw [lateP, if_pos h]
theorem toldB {m : Nat} {t : xN} {ta : Nat → xN} {s : xN} {a : Nat → xN} (hT : RT m t ta s a) {q : Nat} (hq : q < 8) : bI (inP (nI q) 0 (nI 7) && hasP (t 9) (nI q)) = bI (hasP (s 7) (nI q)) := by
  rw [in_nI' (by omega) (by omega), show decide (q ≤ 7) = true by simp; omega, Bool.true_and, hT.1.2.2.2.2.2.2.1]
theorem cD_lateOfAll (L : xLn) (d : xN) (da : Nat → xN) (t : xN) (ta : Nat → xN) (m : Nat) (s : xN) (a : Nat → xN) (N : xN) (hT : RT m t ta s a) (hP : RP da N) : CT L mX0_lateOfAll 1 0 0 [.ref 0] (dtW d da t ta) (fun r Y => r = some (.int (lateL (s 7) N 8)) ∧ Y = dtW d da t ta) := by
  obtain ⟨G, hG⟩ : ∃ G : Nat → Int32, G = fun q => lateL (s 7) N q := ⟨_, rfl⟩
  have G0 : G 0 = 0 := by rw [hG]; rfl
  have Gs : ∀ q, G (q + 1) = G q + (if hasP (s 7) (nI q) = true then lateP N q else 0) := by intro q; rw [hG]; rfl
  rw [show lateL (s 7) N 8 = G 8 by rw [hG]]
  clear hG
  refine CT.of rfl (Nat.le_of_ble_eq_true rfl) (Nat.le_of_ble_eq_true rfl) ?_
  have loop : ∀ (n q : Nat), q + n = 8 → AJ L mX0_lateOfAll 1 0 0 (fun r Y => r = some (.int (G 8)) ∧ Y = dtW d da t ta) (dtW d da t ta).length (0, 0) 4 [some (.ref 0), some (.int (G q)), some (.int (nI q))] [] (dtW d da t ta) := by
    intro n
    induction n with
    | zero =>
      intro q hq
      obtain rfl : q = 8 := by omega
      exact AJ.run kX0_lateOfAll [4] 30 ⟨fun _ => ⟨rfl, rfl⟩, fun hz => absurd (by decide) hz⟩
    | succ n ih =>
      intro q hq
      have nxt := ih (q + 1) (by omega)
      rw [nI_succ, Gs q] at nxt
      refine AJ.run kX0_lateOfAll [4] 30 ⟨fun hz => absurd hz (nI_ge (b := 8) (by omega) (by omega)), fun _ => ?_⟩
      refine AJ.callP kX0_lateOfAll (cT_isPerson L t ta (nI q)) bX6_isPerson rfl (by decide +kernel) [13, 14, 15, 16, 17, 18, 19, 20, 21, 22] [] rfl rfl rfl rfl rfl rfl rfl rfl rfl rfl ?_
      rintro r rfl
      rw [toldB hT (by omega)]
      refine AJ.run kX0_lateOfAll [4] 30 ⟨fun h => ?_, fun h => ?_⟩
      · rw [bI_eq0] at h
        rw [if_neg (by simp [h]), Int32.add_zero] at nxt
        exact nxt
      · rw [bI_ne0] at h
        rw [if_pos h] at nxt
        refine AJ.callF kX0_lateOfAll (cD_lateness L d da t ta N q (by omega) hP) bX0_lateness rfl (by decide +kernel) [.int (G q)] rfl rfl rfl rfl rfl rfl rfl rfl ?_
        rintro r Y ⟨rfl, rfl⟩
        exact ⟨rfl, rfl, AJ.run kX0_lateOfAll [4] 30 nxt⟩
  have := loop 8 0 (by omega)
  rw [G0] at this
  exact AJ.run kX0_lateOfAll [4] 30 this
theorem cD_lateOf (L : xLn) (d : xN) (da : Nat → xN) (t : xN) (ta : Nat → xN) (m p : Nat) (s : xN) (a : Nat → xN) (N : xN) (hT : RT m t ta s a) (hP : RP da N) (lt : Nat → Nat) (hl : ∀ q, q < 8 → lateP N q = nI (lt q)) : CT L mX0_lateOf 1 0 0 [.ref 0, .int (nI p)] (dtW d da t ta) (fun r Y => r = some (.int (nI (la1 (s 7) (a 8) lt p 8))) ∧ Y = dtW d da t ta) := by
  obtain ⟨G, hG⟩ : ∃ G : Nat → Nat, G = fun q => la1 (s 7) (a 8) lt p q := ⟨_, rfl⟩
  have G0 : G 0 = 0 := by rw [hG]; rfl
  have Gs : ∀ q, G (q + 1) = G q + (if hasP (s 7) (nI q) = true ∧ a 8 (2 * q) = nI p then lt q else 0) := by intro q; rw [hG]; rfl
  rw [show la1 (s 7) (a 8) lt p 8 = G 8 by rw [hG]]
  clear hG
  refine CT.of rfl (Nat.le_of_ble_eq_true rfl) (Nat.le_of_ble_eq_true rfl) ?_
  have loop : ∀ (n q : Nat), q + n = 8 → AJ L mX0_lateOf 1 0 0 (fun r Y => r = some (.int (nI (G 8))) ∧ Y = dtW d da t ta) (dtW d da t ta).length (0, 0) 4 [some (.ref 0), some (.int (nI p)), some (.int (nI (G q))), some (.int (nI q))] [] (dtW d da t ta) := by
    intro n
    induction n with
    | zero =>
      intro q hq
      obtain rfl : q = 8 := by omega
      exact AJ.run kX0_lateOf [4] 30 ⟨fun _ => ⟨rfl, rfl⟩, fun hz => absurd (by decide) hz⟩
    | succ n ih =>
      intro q hq
      have nxt := ih (q + 1) (by omega)
      rw [nI_succ, Gs q] at nxt
      have e10 : ta 10 q = a 8 (2 * q) := (hT.2.2.1 q (by omega)).1
      refine AJ.run kX0_lateOf [4] 30 ⟨fun hz => absurd hz (nI_ge (b := 8) (by omega) (by omega)), fun _ => ?_⟩
      refine AJ.callP kX0_lateOf (cT_isPerson L t ta (nI q)) bX6_isPerson rfl (by decide +kernel) [13, 14, 15, 16, 17, 18, 19, 20, 21, 22] [] rfl rfl rfl rfl rfl rfl rfl rfl rfl rfl ?_
      rintro r rfl
      rw [toldB hT (by omega)]
      have skip : ¬ (hasP (s 7) (nI q) = true ∧ a 8 (2 * q) = nI p) → AJ L mX0_lateOf 1 0 0 (fun r Y => r = some (.int (nI (G 8))) ∧ Y = dtW d da t ta) (dtW d da t ta).length (0, 0) 42 [some (.ref 0), some (.int (nI p)), some (.int (nI (G q))), some (.int (nI q))] [] (dtW d da t ta) := by
        intro hn
        rw [if_neg hn, Nat.add_zero] at nxt
        exact AJ.run kX0_lateOf [4] 30 nxt
      refine AJ.run kX0_lateOf [4, 42] 30 ⟨fun h => skip ?_, fun h => ⟨q, rfl, by omega, fun h2 => skip ?_, fun h2 => ?_⟩⟩
      · rw [bI_eq0] at h; simp [h]
      · have h2 : ¬ ta 10 q = nI p := h2
        rw [e10] at h2
        exact fun z => h2 z.2
      · have h2 : ta 10 q = nI p := h2
        rw [e10] at h2
        rw [bI_ne0] at h
        rw [if_pos ⟨h, h2⟩, ← nI_add, ← hl q (by omega)] at nxt
        refine AJ.callF kX0_lateOf (cD_lateness L d da t ta N q (by omega) hP) bX0_lateness rfl (by decide +kernel) [.int (nI (G q))] rfl rfl rfl rfl rfl rfl rfl rfl ?_
        rintro r Y ⟨rfl, rfl⟩
        exact ⟨rfl, rfl, AJ.run kX0_lateOf [4] 30 nxt⟩
  have := loop 8 0 (by omega)
  rw [G0] at this
  exact AJ.run kX0_lateOf [4] 30 this
theorem cT_folkOf (L : xLn) (t : xN) (ta : Nat → xN) (m p : Nat) (s : xN) (a : Nat → xN) (hT : RT m t ta s a) : CT L mX6_folkOf 1 0 0 [.ref 0, .int (nI p)] (tolW 0 t ta) (fun r Y => r = some (.int (nI (la1 (s 7) (a 8) (fun _ => 1) p 8))) ∧ Y = tolW 0 t ta) := by
  obtain ⟨G, hG⟩ : ∃ G : Nat → Nat, G = fun q => la1 (s 7) (a 8) (fun _ => 1) p q := ⟨_, rfl⟩
  have G0 : G 0 = 0 := by rw [hG]; rfl
  have Gs : ∀ q, G (q + 1) = G q + (if hasP (s 7) (nI q) = true ∧ a 8 (2 * q) = nI p then 1 else 0) := by intro q; rw [hG]; rfl
  rw [show la1 (s 7) (a 8) (fun _ => 1) p 8 = G 8 by rw [hG]]
  clear hG
  refine CT.of rfl (Nat.le_of_ble_eq_true rfl) (Nat.le_of_ble_eq_true rfl) ?_
  have loop : ∀ (n q : Nat), q + n = 8 → AJ L mX6_folkOf 1 0 0 (fun r Y => r = some (.int (nI (G 8))) ∧ Y = tolW 0 t ta) (tolW 0 t ta).length (0, 0) 4 [some (.ref 0), some (.int (nI p)), some (.int (nI (G q))), some (.int (nI q))] [] (tolW 0 t ta) := by
    intro n
    induction n with
    | zero =>
      intro q hq
      obtain rfl : q = 8 := by omega
      exact AJ.run kX6_folkOf [4] 30 ⟨fun _ => ⟨rfl, rfl⟩, fun hz => absurd (by decide) hz⟩
    | succ n ih =>
      intro q hq
      have nxt := ih (q + 1) (by omega)
      rw [nI_succ, Gs q] at nxt
      have e10 : ta 10 q = a 8 (2 * q) := (hT.2.2.1 q (by omega)).1
      refine AJ.run kX6_folkOf [4] 30 ⟨fun hz => absurd hz (nI_ge (b := 8) (by omega) (by omega)), fun _ => ?_⟩
      refine AJ.callF kX6_folkOf (cT_isPerson L t ta (nI q)) bX6_isPerson rfl (by decide +kernel) [] rfl rfl rfl rfl rfl rfl rfl rfl ?_
      rintro r Y ⟨rfl, rfl⟩
      refine ⟨rfl, rfl, ?_⟩
      rw [toldB hT (by omega)]
      refine AJ.run kX6_folkOf [4] 30 ⟨fun h => ?_, fun h => ⟨q, rfl, by omega, fun h2 => ?_, fun h2 => ?_⟩⟩
      · rw [bI_eq0] at h
        rw [if_neg (by simp [h]), Nat.add_zero] at nxt
        exact nxt
      · have h2 : ¬ ta 10 q = nI p := h2
        rw [e10] at h2
        rw [if_neg (fun z => h2 z.2), Nat.add_zero] at nxt
        exact nxt
      · have h2 : ta 10 q = nI p := h2
        rw [e10] at h2
        rw [bI_ne0] at h
        rw [if_pos ⟨h, h2⟩, nI_succ] at nxt
        exact nxt
  have := loop 8 0 (by omega)
  rw [G0] at this
  exact AJ.run kX6_folkOf [4] 30 this
theorem cT_whoseMood (L : xLn) (t : xN) (ta : Nat → xN) (m c : Nat) (hm : t 12 = nI m) (hm2 : m ≤ 26) (hc : c < m) : CT L mX6_whoseMood 0 0 0 [.ref 0, .int (nI c)] (tolW 0 t ta) (fun r Y => r = some (.int (ta 13 c)) ∧ Y = tolW 0 t ta) := by
  refine CT.of rfl (Nat.le_of_ble_eq_true rfl) (Nat.le_of_ble_eq_true rfl) ?_
  refine AJ.run kX6_whoseMood [] 30 ⟨fun h => absurd h (nI_pos (by omega)), fun _ => ⟨fun h => absurd h ?_, fun _ => ⟨c, rfl, by omega, rfl, rfl⟩⟩⟩
  show ¬ t 12 ≤ nI c
  rw [hm]; exact nI_ge (by omega) (by omega)
theorem kind8 : ∀ v : Fin 8, kindP (nI v.val) = if hasP (nI v.val) 0 = true then 0 else if hasP (nI v.val) 1 = true then 1 else if hasP (nI v.val) 2 = true then 2 else 0 := by decide +kernel
theorem cT_leastKind (L : xLn) (t : xN) (ta : Nat → xN) (v : Nat) (hv : v < 8) (ht : t 1 = nI v) : CT L mX6_leastKind 0 0 0 [.ref 0] (tolW 0 t ta) (fun r Y => r = some (.int (kindP (t 1))) ∧ Y = tolW 0 t ta) := by
  refine CT.of rfl (Nat.le_of_ble_eq_true rfl) (Nat.le_of_ble_eq_true rfl) ?_
  have kk := kind8 ⟨v, hv⟩
  rw [show (⟨v, hv⟩ : Fin 8).val = v from rfl, ← ht] at kk
  rw [kk]
  refine AJ.run kX6_leastKind [] 80 ⟨fun hz => absurd hz (by decide), fun _ => ⟨fun h0 => ⟨fun hz => absurd hz (by decide), fun _ => ⟨fun h1 => ⟨fun hz => absurd hz (by decide), fun _ => ⟨fun h2 => ⟨fun _ => ⟨?_, rfl⟩, fun hz => absurd (by decide) hz⟩, fun h2 => ⟨?_, rfl⟩⟩⟩, fun h1 => ⟨?_, rfl⟩⟩⟩, fun h0 => ⟨?_, rfl⟩⟩⟩
  · rw [if_neg (fun z => h0 ((hasP_iff (t 1) 0).mpr z)), if_neg (fun z => h1 ((hasP_iff (t 1) 1).mpr z)), if_neg (fun z => h2 ((hasP_iff (t 1) 2).mpr z))]
  · rw [if_neg (fun z => h0 ((hasP_iff (t 1) 0).mpr z)), if_neg (fun z => h1 ((hasP_iff (t 1) 1).mpr z)), if_pos ((hasP_iff (t 1) 2).mp h2)]; rfl
  · rw [if_neg (fun z => h0 ((hasP_iff (t 1) 0).mpr z)), if_pos ((hasP_iff (t 1) 1).mp h1)]; rfl
  · rw [if_pos ((hasP_iff (t 1) 0).mp h0)]
theorem cT_toldPerson (L : xLn) (t : xN) (ta : Nat → xN) (x c : Nat) (hx : x < 2 ^ 31) (hc : bitsP (t 9) 8 = nI c) (h0 : 0 < c) (h8 : c ≤ 8) (hb : ∀ q, 8 ≤ q → q < 32 → hasP (t 9) (nI q) = false) : CT L mX6_toldPerson 1 0 0 [.ref 0, .int (nI x)] (tolW 0 t ta) (fun r Y => r = some (.int (poL (t 9) 8 0 (x % c))) ∧ Y = tolW 0 t ta) := by
  obtain ⟨z, hz⟩ : ∃ z, z = poL (t 9) 8 0 (x % c) := ⟨_, rfl⟩
  rw [← hz]
  refine CT.of rfl (Nat.le_of_ble_eq_true rfl) (Nat.le_of_ble_eq_true rfl) ?_
  have loop : ∀ (f k l : Nat), k + f = 8 → l < 8 → poL (t 9) f k l = z → AJ L mX6_toldPerson 1 0 0 (fun r Y => r = some (.int z) ∧ Y = tolW 0 t ta) (tolW 0 t ta).length (0, 0) 23 [some (.ref 0), some (.int (nI x)), some (.int (nI c)), some (.int (nI l)), some (.int (nI k))] [] (tolW 0 t ta) := by
    intro f
    induction f with
    | zero =>
      intro k l hk hl h
      obtain rfl : k = 8 := by omega
      exact AJ.run kX6_toldPerson [23] 30 ⟨fun _ => ⟨by rw [← h]; rfl, rfl⟩, fun hz => absurd (by decide) hz⟩
    | succ f ih =>
      intro k l hk hl h
      have nxt := fun l' => ih (k + 1) l' (by omega)
      rw [nI_succ] at nxt
      rw [poL] at h
      refine AJ.run kX6_toldPerson [23] 30 ⟨fun hz => absurd hz (nI_ge (b := 8) (by omega) (by omega)), fun _ => ?_⟩
      refine AJ.callF kX6_toldPerson (cT_isPerson L t ta (nI k)) bX6_isPerson rfl (by decide +kernel) [] rfl rfl rfl rfl rfl rfl rfl rfl ?_
      rintro r Y ⟨rfl, rfl⟩
      refine ⟨rfl, rfl, ?_⟩
      rw [in_nI' (by omega) (by omega), show decide (k ≤ 7) = true by simp; omega, Bool.true_and]
      refine AJ.run kX6_toldPerson [23] 30 ⟨fun h2 => ?_, fun h2 => ⟨fun h3 => ?_, fun h3 => ?_⟩⟩
      · rw [bI_eq0] at h2
        rw [if_neg (by simp [h2])] at h
        exact nxt l hl h
      · rw [bI_ne0] at h2
        have hl0 : ¬ l = 0 := fun e => h3 (by subst e; rfl)
        rw [if_pos h2, if_neg hl0] at h
        have n2 := nxt (l - 1) (by omega) h
        have e : nI l + (-1) = nI (l - 1) := by
          have := pk_m1 (l - 1)
          rw [show l - 1 + 1 = l by omega] at this
          exact this
        rw [← e] at n2
        exact n2
      · rw [bI_ne0] at h2
        have hl0 : l = 0 := by
          have h3 : nI l = nI 0 := h3
          exact (nI_eq (by omega) (by omega)).mp h3
        rw [if_pos h2, if_pos hl0] at h
        exact ⟨by rw [h], rfl⟩
  have lp := loop 8 0 (x % c) (by omega) (by have := Nat.mod_lt x h0; omega) hz.symm
  refine AJ.run kX6_toldPerson [] 30 ?_
  refine AJ.callZ kX6_toldPerson (cJ_bitCount L (t 9) hb) bJ6_bitCount_0f7a4 rfl (by decide +kernel) [] rfl rfl rfl rfl rfl ?_
  rintro r rfl
  rw [hc]
  rw [← pk_rem hx h0 (by omega)] at lp
  exact AJ.run kX6_toldPerson [23] 30 ⟨fun _ => ⟨nI_ne0 h0 (by omega), lp⟩, fun hz => absurd hz (nI_ne0 h0 (by omega))⟩
