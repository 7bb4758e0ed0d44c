/-! ===== the class: what stands for what ===== -/
/-- a day and what is told to it -/
def dtW (d : xN) (da : Nat → xN) (t : xN) (ta : Nat → xN) : List xE := dayW 0 13 d da ++ tolW 13 t ta
def dtQ (t : xN) (ta : Nat → xN) (P : xN → (Nat → xN) → Prop) : Option Value → List xE → Prop := fun r Y => r = none ∧ ∃ d da, P d da ∧ Y = dtW d da t ta
/-- how many of the first k -/
def cntB (P : Nat → Bool) : Nat → Nat
  | 0 => 0
  | k + 1 => cntB P k + (if P k = true then 1 else 0)
theorem cntB_congr {P P' : Nat → Bool} : ∀ k, (∀ i, i < k → P i = P' i) → cntB P k = cntB P' k
  | 0, _ => rfl
  | k + 1, h => by rw [cntB, cntB, cntB_congr k (fun i hi => h i (by omega)), h k (by omega)]
theorem cntB_le (P : Nat → Bool) : ∀ k, cntB P k ≤ k
  | 0 => Nat.le_refl _
  | k + 1 => by
    have := cntB_le P k
    rw [cntB]
    split <;> omega
theorem cntB_lt {P : Nat → Bool} : ∀ k i, i < k → P i = false → cntB P k < k
  | 0, i, h, _ => by omega
  | k + 1, i, h, hp => by
    rw [cntB]
    by_cases e : i = k
    · subst e
      have := cntB_le P i
      rw [hp]
      simp
      omega
    · have := cntB_lt k i (by omega) hp
      split <;> omega
theorem cntB_one {P P' : Nat → Bool} {c : Nat} (h1 : P c = false) (h2 : P' c = true) (h3 : ∀ i, i ≠ c → P' i = P i) : ∀ k, cntB P' k = cntB P k + (if c < k then 1 else 0)
  | 0 => rfl
  | k + 1 => by
    rw [cntB, cntB, cntB_one h1 h2 h3 k]
    by_cases e : k = c
    · subst e
      rw [h1, h2]
      simp
    · rw [h3 k e]
      by_cases hc : c < k
      · rw [if_pos hc, if_pos (show c < k + 1 by omega)]; omega
      · rw [if_neg hc, if_neg (show ¬ c < k + 1 by omega)]
        omega
/-- what is told, by which law a day goes -/
def WD (l m sp : Nat) (s : xN) (a : Nat → xN) : Prop :=
  (2 ≤ l ∧ l ≤ 12 ∧ s 0 = nI l) ∧ m ≤ 26 ∧ (∃ v, v < 8 ∧ s 30 = nI v) ∧ (1 ≤ sp ∧ sp ≤ 30 ∧ s 31 = nI sp) ∧ (∃ v, 1 ≤ v ∧ v ≤ 6 ∧ s 3 = nI v) ∧
  (∀ k, k < 2 → hasP (s 5) (nI k) = true → (∃ v, v < l ∧ a 6 (3 * k) = nI v) ∧ (∃ v, v < 60 ∧ a 6 (3 * k + 1) = nI v)) ∧
  (∀ k, k < 2 → ∃ v, v < 2 ∧ a 6 (3 * k + 2) = nI v) ∧
  (∀ q, 8 ≤ q → q < 32 → hasP (s 7) (nI q) = false) ∧
  (∀ q, q < 8 → hasP (s 7) (nI q) = true → ∃ b h, b < l ∧ h < l ∧ a 8 (2 * q) = nI b ∧ a 8 (2 * q + 1) = nI h) ∧
  (∀ k, k < m → ∃ p kd t, p < 8 ∧ hasP (s 7) (nI p) = true ∧ kd < 3 ∧ t < 60 ∧ a 10 (3 * k) = nI p ∧ a 10 (3 * k + 1) = nI kd ∧ a 10 (3 * k + 2) = nI t)
/-- what is told, in the class's words and in the reference's -/
def RT (m : Nat) (t : xN) (ta : Nat → xN) (s : xN) (a : Nat → xN) : Prop :=
  (t 0 = s 0 ∧ t 1 = s 1 ∧ t 2 = s 2 ∧ t 3 = s 3 ∧ t 4 = s 4 ∧ t 5 = s 5 ∧ t 9 = s 7 ∧ t 12 = nI m) ∧
  (∀ k, k < 2 → ta 6 k = a 6 (3 * k) ∧ ta 7 k = a 6 (3 * k + 1) ∧ ta 8 k = a 6 (3 * k + 2)) ∧
  (∀ q, q < 8 → ta 10 q = a 8 (2 * q) ∧ ta 11 q = a 8 (2 * q + 1)) ∧
  (∀ k, k < m → ta 13 k = a 10 (3 * k) ∧ ta 14 k = a 10 (3 * k + 1) ∧ ta 15 k = a 10 (3 * k + 2)) ∧
  ∀ g, g < 60 → ∀ k, k < 32 → hasP (ta 16 g) (nI k) = decide (k < m ∧ a 10 (3 * k + 2) = nI g)
/-- a day as it can be: trams, people, moods, halts; g is the minute, e what is done of it -/
def IVa (l g : Nat) (s N : xN) : Prop := (N 0 = nI g ∧ g ≤ 60) ∧ ∀ k, k < 2 → (hasP (s 5) (nI k) = true → ∃ v, v < l ∧ N (1 + k) = nI v) ∧ (N (3 + k) = 0 ∨ N (3 + k) = 1) ∧ (N (5 + k) = 0 ∨ N (5 + k) = 1)
def IVp (e : Nat) (s : xN) (a : Nat → xN) (N : xN) : Prop := ∀ q, q < 8 →
  (N (17 + q) = -1 ∨ ∃ k, k < 2 ∧ N (17 + q) = nI k ∧ hasP (s 5) (nI k) = true ∧ hasP (s 7) (nI q) = true ∧ N (25 + q) = -1) ∧
  (hasP (s 7) (nI q) = false → N (25 + q) = -1 ∧ N (33 + q) = 0) ∧ (N (9 + q) = if N (25 + q) = -1 then a 8 (2 * q) else a 8 (2 * q + 1)) ∧ (N (25 + q) = -1 ∨ ∃ t, t < e ∧ N (25 + q) = nI t)
def IVm (l m e : Nat) (a : Nat → xN) (N : xN) : Prop := ∀ k, k < 26 →
  (N (41 + k) = -1 ∨ ∃ p, p < l ∧ N (41 + k) = nI p) ∧ (N (67 + k) = 0 ∨ N (67 + k) = 1) ∧ (N (41 + k) = -1 → N (67 + k) = 0) ∧ (m ≤ k → N (41 + k) = -1) ∧ (k < m → ∀ t, e ≤ t → t < 60 → a 10 (3 * k + 2) = nI t → N (41 + k) = -1)
def IVh (m e : Nat) (N : xN) : Prop := ∃ h, N 7 + N 8 = nI h ∧ h = cntB (fun k => decide (N (67 + k) = 1)) m ∧ (∀ k, k < 2 → N (7 + k) = nI (cntB (fun i => decide (N (93 + 4 * i) = nI k)) h)) ∧
  ∀ i, i < h → (∃ c, c < m ∧ N (93 + 4 * i + 3) = nI c) ∧ (∃ t, t < e ∧ N (93 + 4 * i + 2) = nI t)
/-- the day of the class and that of the reference -/
def RA (d : xN) (da : Nat → xN) (N : xN) : Prop := d 3 = N 0 ∧ ∀ k, k < 2 → da 4 k = N (1 + k) ∧ da 5 k = N (3 + k) ∧ N (5 + k) = bI (hasP (d 7) (nI k))
def RP (da : Nat → xN) (N : xN) : Prop := (∀ k, k < 2 → ∀ q, q < 32 → hasP (da 6 k) (nI q) = decide (q < 8 ∧ N (17 + q) = nI k)) ∧ ∀ q, q < 8 → da 8 q = N (25 + q) ∧ da 9 q = N (33 + q)
def RF (m b sp : Nat) (s : xN) (a : Nat → xN) (d : xN) (da : Nat → xN) (N : xN) : Prop :=
  (∀ k, k < 26 → da 10 k = N (41 + k) ∧ N (67 + k) = bI (hasP (d 13) (nI k))) ∧
  (∀ p, p < 12 → ∀ k, k < 32 → hasP (da 11 p) (nI k) = decide (k < m ∧ N (41 + k) = nI p)) ∧
  ∀ k, k < 32 → hasP (d 12) (nI k) = decide (k < m ∧ ¬ N (41 + k) = -1 ∧ N (67 + k) = 0 ∧ hasP (s 30) (a 10 (3 * k + 1)) = true ∧ b ≤ (a 10 (3 * k + 2)).toNatClampNeg + sp)
def RH (d : xN) (da : Nat → xN) (N : xN) : Prop := d 20 = N 7 + N 8 ∧ ∀ i, i < hmP N → da 20 i = N (93 + 4 * i) ∧ da 21 i = N (93 + 4 * i + 1) ∧ da 22 i = N (93 + 4 * i + 2) ∧ da 23 i = N (93 + 4 * i + 3)
def RLw (s d : xN) : Prop := d 1 = s 30 ∧ d 2 = s 31
def RD (m b sp : Nat) (s : xN) (a : Nat → xN) (d : xN) (da : Nat → xN) (N : xN) : Prop := RLw s d ∧ RA d da N ∧ RP da N ∧ RF m b sp s a d da N ∧ RH d da N
/-! ===== they stay where their numbers stay ===== -/
theorem IVa.same {l g : Nat} {s N B : xN} (h : IVa l g s N) (e : ∀ i, i < 7 → B i = N i) : IVa l g s B := by
  refine ⟨by rw [e 0 (by omega)]; exact h.1, fun k hk => ?_⟩
  rw [e (1 + k) (by omega), e (3 + k) (by omega), e (5 + k) (by omega)]
  exact h.2 k hk
theorem IVp.same {e0 : Nat} {s : xN} {a : Nat → xN} {N B : xN} (h : IVp e0 s a N) (e : ∀ i, 9 ≤ i → i < 41 → B i = N i) : IVp e0 s a B := by
  intro q hq
  rw [e (17 + q) (by omega) (by omega), e (25 + q) (by omega) (by omega), e (33 + q) (by omega) (by omega), e (9 + q) (by omega) (by omega)]
  exact h q hq
theorem IVm.same {l m e0 : Nat} {a : Nat → xN} {N B : xN} (h : IVm l m e0 a N) (e : ∀ i, 41 ≤ i → i < 93 → B i = N i) : IVm l m e0 a B := by
  intro k hk
  rw [e (41 + k) (by omega) (by omega), e (67 + k) (by omega) (by omega)]
  exact h k hk
theorem IVh.same {m e0 : Nat} {N B : xN} (hm : m ≤ 26) (h : IVh m e0 N) (e : ∀ i, i = 7 ∨ i = 8 ∨ 67 ≤ i → B i = N i) : IVh m e0 B := by
  obtain ⟨h, h1, h2, h3, h4⟩ := h
  refine ⟨h, by rw [e 7 (by omega), e 8 (by omega)]; exact h1, by rw [h2]; exact cntB_congr m (fun i hi => by rw [e (67 + i) (by omega)]), fun k hk => ?_, fun i hi => ?_⟩
  · rw [e (7 + k) (by omega), h3 k hk]
    exact congrArg nI (cntB_congr h (fun i hi => by rw [e (93 + 4 * i) (by omega)]))
  · rw [e (93 + 4 * i + 3) (by omega), e (93 + 4 * i + 2) (by omega)]
    exact h4 i hi
theorem RA.same {d : xN} {da : Nat → xN} {N B : xN} (h : RA d da N) (e : ∀ i, i < 7 → B i = N i) : RA d da B := by
  refine ⟨by rw [e 0 (by omega)]; exact h.1, fun k hk => ?_⟩
  rw [e (1 + k) (by omega), e (3 + k) (by omega), e (5 + k) (by omega)]
  exact h.2 k hk
theorem RP.same {da : Nat → xN} {N B : xN} (h : RP da N) (e : ∀ i, 17 ≤ i → i < 41 → B i = N i) : RP da B := by
  refine ⟨fun k hk q hq => ?_, fun q hq => ?_⟩
  · rw [h.1 k hk q hq]
    by_cases h8 : q < 8
    · rw [e (17 + q) (by omega) (by omega)]
    · simp [h8]
  · rw [e (25 + q) (by omega) (by omega), e (33 + q) (by omega) (by omega)]
    exact h.2 q hq
theorem RF.same {m b sp : Nat} {s : xN} {a : Nat → xN} {d : xN} {da : Nat → xN} {N B : xN} (hm : m ≤ 26) (h : RF m b sp s a d da N) (e : ∀ i, 41 ≤ i → i < 93 → B i = N i) : RF m b sp s a d da B := by
  refine ⟨fun k hk => ?_, fun p hp k hk => ?_, fun k hk => ?_⟩
  · rw [e (41 + k) (by omega) (by omega), e (67 + k) (by omega) (by omega)]
    exact h.1 k hk
  · rw [h.2.1 p hp k hk]
    by_cases h8 : k < m
    · rw [e (41 + k) (by omega) (by omega)]
    · simp [h8]
  · rw [h.2.2 k hk]
    by_cases h8 : k < m
    · rw [e (41 + k) (by omega) (by omega), e (67 + k) (by omega) (by omega)]
    · simp [h8]
theorem RH.same {d : xN} {da : Nat → xN} {N B : xN} (h : RH d da N) (e : ∀ i, i = 7 ∨ i = 8 ∨ 93 ≤ i → B i = N i) : RH d da B := by
  have e1 : hmP B = hmP N := by unfold hmP; rw [e 7 (by omega), e 8 (by omega)]
  refine ⟨by rw [e 7 (by omega), e 8 (by omega)]; exact h.1, fun i hi => ?_⟩
  rw [e1] at hi
  rw [e (93 + 4 * i) (by omega), e (93 + 4 * i + 1) (by omega), e (93 + 4 * i + 2) (by omega), e (93 + 4 * i + 3) (by omega)]
  exact h.2 i hi
