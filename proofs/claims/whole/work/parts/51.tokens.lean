/-! ===== the text: tokens, by places ===== -/
/-- the end of a run of P's from p -/
def runN (P : Int32 → Bool) (f : xN) (n : Nat) : Nat → Nat → Nat
  | 0, p => p
  | k + 1, p => if p < n ∧ P (f p) = true then runN P f n k (p + 1) else p
def runE (P : Int32 → Bool) (f : xN) (n p : Nat) : Nat := runN P f n (n - p) p
theorem runE_go {P : Int32 → Bool} {f : xN} {n p : Nat} (h : p < n) (hP : P (f p) = true) : runE P f n p = runE P f n (p + 1) := by
  unfold runE
  obtain ⟨k, hk⟩ : ∃ k, n - p = k + 1 := ⟨n - p - 1, by omega⟩
  rw [hk, runN, if_pos ⟨h, hP⟩, show n - (p + 1) = k by omega]
theorem runE_end {P : Int32 → Bool} {f : xN} {n p : Nat} (h : n ≤ p) : runE P f n p = p := by
  unfold runE
  rw [show n - p = 0 by omega, runN]
theorem runE_no {P : Int32 → Bool} {f : xN} {n p : Nat} (hP : ¬ P (f p) = true) : runE P f n p = p := by
  unfold runE
  cases n - p with
  | zero => rfl
  | succ k => rw [runN, if_neg (fun z => hP z.2)]
theorem runE_le {P : Int32 → Bool} {f : xN} {n : Nat} : ∀ (k p : Nat), n - p = k → p ≤ n → p ≤ runE P f n p ∧ runE P f n p ≤ n := by
  intro k
  induction k with
  | zero => intro p h1 h2; rw [runE_end (by omega)]; omega
  | succ k ih =>
    intro p h1 h2
    by_cases hP : P (f p) = true
    · rw [runE_go (by omega) hP]
      have := ih (p + 1) (by omega) (by omega)
      omega
    · rw [runE_no hP]; omega
/-- what a run is made of -/
theorem runE_in {P : Int32 → Bool} {f : xN} {n : Nat} : ∀ (k p : Nat), n - p = k → ∀ i, p ≤ i → i < runE P f n p → P (f i) = true := by
  intro k
  induction k with
  | zero => intro p h1 i h2 h3; rw [runE_end (by omega)] at h3; omega
  | succ k ih =>
    intro p h1 i h2 h3
    by_cases hP : P (f p) = true
    · rw [runE_go (by omega) hP] at h3
      by_cases e : i = p
      · rw [e]; exact hP
      · exact ih (p + 1) (by omega) i (by omega) h3
    · rw [runE_no hP] at h3; omega
theorem runE_out {P : Int32 → Bool} {f : xN} {n : Nat} : ∀ (k p : Nat), n - p = k → p ≤ n → runE P f n p < n → ¬ P (f (runE P f n p)) = true := by
  intro k
  induction k with
  | zero => intro p h1 h2 h3; rw [runE_end (by omega)] at h3; omega
  | succ k ih =>
    intro p h1 h2 h3
    by_cases hP : P (f p) = true
    · rw [runE_go (by omega) hP] at h3 ⊢
      exact ih (p + 1) (by omega) (by omega) h3
    · rw [runE_no hP]; exact hP
def isB (c : Int32) : Bool := decide (c = 32)
def isL (c : Int32) : Bool := inP c 97 122
def isD (c : Int32) : Bool := inP c 48 57
/-- a token's begin, behind the blanks from p on; its end; its word's number; its digits' number -/
def tkS (f : xN) (n p : Nat) : Nat := runE isB f n p
def tkE (f : xN) (n p : Nat) : Nat := if tkS f n p = n then n else if isL (f (tkS f n p)) = true then runE isL f n (tkS f n p) else if isD (f (tkS f n p)) = true then runE isD f n (tkS f n p) else tkS f n p + 1
def hwJ (f : xN) (q : Nat) : Nat → Int64
  | 0 => 0
  | k + 1 => if k < 9 then 27 * hwJ f q k + (f (q + k)).toInt64 - 96 else -4
def dgN (f : xN) (q : Nat) : Nat → Int32
  | 0 => 0
  | k + 1 => if k < 2 then 10 * dgN f q k + f (q + k) - 48 else dgN f q k
def tkL (f : xN) (n p : Nat) : Nat := tkE f n p - tkS f n p
def tkJ (f : xN) (n p : Nat) : Int64 := if tkS f n p = n then -2 else if isL (f (tkS f n p)) = true then (if 9 < tkL f n p then -4 else hwJ f (tkS f n p) (tkL f n p)) else if isD (f (tkS f n p)) = true then (if 2 < tkL f n p then -4 else -1) else if f (tkS f n p) = 59 then -3 else -4
def tkN (f : xN) (n p : Nat) : Int32 := dgN f (tkS f n p) (tkL f n p)
theorem tkS_le {f : xN} {n p : Nat} (h : p ≤ n) : p ≤ tkS f n p ∧ tkS f n p ≤ n := runE_le _ _ rfl h
theorem tkE_le {f : xN} {n p : Nat} (h : p ≤ n) : tkS f n p ≤ tkE f n p ∧ tkE f n p ≤ n := by
  have h1 := tkS_le (f := f) h
  unfold tkE
  split
  · omega
  · split
    · exact runE_le _ _ rfl h1.2
    · split
      · exact runE_le _ _ rfl h1.2
      · omega
/-- how the reference stands behind a token -/
def tkR (f : xN) (n p : Nat) (s s' : xN) (j' : Int64) : Prop := (∀ i, i ≠ 15 → i ≠ 16 → i ≠ 18 → i ≠ 19 → s' i = s i) ∧ s' 15 = nI (tkE f n p) ∧ s' 16 = nI (tkS f n p) ∧ j' = tkJ f n p ∧ (j' = -1 → s' 19 = tkN f n p)
set_option maxHeartbeats 400000 in
theorem c8_nt_blank (L : xLn) (Q : Option Value → List xE → Prop) (s : xN) (j : Int64) (a : Nat → xN) (n n0 e : Nat) (hn : s 13 = nI n) (h200 : n ≤ 200) (nxt : AJ L mX8_nextToken 1 0 0 Q n0 (0, 0) 38 [some (.ref 0)] [] (modW (upd s 15 (nI e)) j a)) :
    ∀ (k p : Nat), n - p = k → p ≤ n → runE isB (a 14) n p = e → AJ L mX8_nextToken 1 0 0 Q n0 (0, 0) 0 [some (.ref 0)] [] (modW (upd s 15 (nI p)) j a) := by
  intro k
  induction k with
  | zero =>
    intro p h1 h2 h3
    obtain rfl : p = n := by omega
    rw [runE_end (by omega)] at h3
    subst h3
    refine AJ.run kX8_nextToken [0, 38] 60 ⟨fun _ => nxt, fun hz => absurd ?_ hz⟩
    show s 13 ≤ nI p
    rw [hn]; exact nI_le (by omega) (by omega)
  | succ k ih =>
    intro p h1 h2 h3
    refine AJ.run kX8_nextToken [0, 38] 60 ⟨fun hz => absurd hz ?_, fun _ => ⟨p, rfl, by omega, fun h4 => ?_, fun h4 => ?_⟩⟩
    · show ¬ s 13 ≤ nI p
      rw [hn]; exact nI_ge (by omega) (by omega)
    · have h4 : ¬ a 14 p = 32 := h4
      rw [runE_no (by simp [isB, h4])] at h3
      subst h3
      exact nxt
    · have h4 : a 14 p = 32 := h4
      rw [runE_go (by omega) (by simp [isB, h4])] at h3
      have h5 := ih (p + 1) (by omega) (by omega) h3
      rw [nI_succ] at h5
      exact h5
set_option maxHeartbeats 400000 in
theorem c8_nt_word (L : xLn) (Q : Option Value → List xE → Prop) (s : xN) (a : Nat → xN) (n n0 q e : Nat) (hn : s 13 = nI n) (h200 : n ≤ 200) (hq : s 16 = nI q) (nxt : ∀ k, q + k = e → AJ L mX8_nextToken 1 0 0 Q n0 (0, 0) 191 [some (.ref 0)] [] (modW (upd s 15 (nI (q + k))) (hwJ (a 14) q k) a)) :
    ∀ (f k : Nat), n - (q + k) = f → q + k ≤ n → runE isL (a 14) n (q + k) = e → AJ L mX8_nextToken 1 0 0 Q n0 (0, 0) 101 [some (.ref 0)] [] (modW (upd s 15 (nI (q + k))) (hwJ (a 14) q k) a) := by
  intro f
  induction f with
  | zero =>
    intro k h1 h2 h3
    rw [runE_end (by omega)] at h3
    have nx := nxt k h3
    refine AJ.run kX8_nextToken [101, 191] 60 ⟨fun _ => nx, fun hz => absurd ?_ hz⟩
    show s 13 ≤ nI (q + k)
    rw [hn]; exact nI_le (by omega) (by omega)
  | succ f ih =>
    intro k h1 h2 h3
    refine AJ.run kX8_nextToken [101, 191] 60 ⟨fun hz => absurd hz ?_, fun _ => ⟨q + k, rfl, by omega, ?_⟩⟩
    · show ¬ s 13 ≤ nI (q + k)
      rw [hn]; exact nI_ge (by omega) (by omega)
    refine AJ.callZ kX8_nextToken (c8_in L (a 14 (q + k)) 97 122) bX8_in rfl (by decide +kernel) [] rfl rfl rfl rfl rfl ?_
    rintro r rfl
    refine AJ.run kX8_nextToken [101, 191] 60 ⟨fun h4 => ?_, fun h4 => ?_⟩
    · rw [bI_eq0] at h4
      rw [runE_no (by unfold isL; rw [h4]; simp)] at h3
      exact nxt k h3
    · rw [bI_ne0] at h4
      rw [runE_go (by omega) h4] at h3
      have h5 := ih (k + 1) (by omega) (by omega) h3
      rw [← Nat.add_assoc, nI_succ, hwJ] at h5
      have ed : nI (q + k) - s 16 = nI k := by rw [hq, pk_sub (by omega)]; congr 1; omega
      refine ⟨fun h6 => ?_, fun h6 => ⟨q + k, rfl, by omega, ?_⟩⟩
      · have h6 : 9 ≤ nI (q + k) - s 16 := h6
        rw [ed] at h6
        rw [if_neg (by have := (nI_leI (a := 9) (b := k) (by omega) (by omega)).mp h6; omega)] at h5
        exact h5
      · have h6 : ¬ 9 ≤ nI (q + k) - s 16 := h6
        rw [ed] at h6
        rw [if_pos (by have : ¬ 9 ≤ k := fun z => h6 ((nI_leI (a := 9) (b := k) (by omega) (by omega)).mpr z); omega)] at h5
        exact h5
set_option maxHeartbeats 400000 in
theorem c8_nt_dig (L : xLn) (Q : Option Value → List xE → Prop) (s : xN) (j : Int64) (a : Nat → xN) (n n0 q e : Nat) (hn : s 13 = nI n) (h200 : n ≤ 200) (nxt : ∀ k, q + k = e → AJ L mX8_nextToken 1 0 0 Q n0 (0, 0) 333 [some (.ref 0)] [] (modW (upd (upd (upd s 15 (nI (q + k))) 18 (nI k)) 19 (dgN (a 14) q k)) j a)) :
    ∀ (f k : Nat), n - (q + k) = f → q + k ≤ n → runE isD (a 14) n (q + k) = e → AJ L mX8_nextToken 1 0 0 Q n0 (0, 0) 241 [some (.ref 0)] [] (modW (upd (upd (upd s 15 (nI (q + k))) 18 (nI k)) 19 (dgN (a 14) q k)) j a) := by
  intro f
  induction f with
  | zero =>
    intro k h1 h2 h3
    rw [runE_end (by omega)] at h3
    have nx := nxt k h3
    refine AJ.run kX8_nextToken [241, 333] 60 ⟨fun _ => nx, fun hz => absurd ?_ hz⟩
    show s 13 ≤ nI (q + k)
    rw [hn]; exact nI_le (by omega) (by omega)
  | succ f ih =>
    intro k h1 h2 h3
    refine AJ.run kX8_nextToken [241, 333] 60 ⟨fun hz => absurd hz ?_, fun _ => ⟨q + k, rfl, by omega, ?_⟩⟩
    · show ¬ s 13 ≤ nI (q + k)
      rw [hn]; exact nI_ge (by omega) (by omega)
    refine AJ.callZ kX8_nextToken (c8_in L (a 14 (q + k)) 48 57) bX8_in rfl (by decide +kernel) [] rfl rfl rfl rfl rfl ?_
    rintro r rfl
    refine AJ.run kX8_nextToken [241, 333] 60 ⟨fun h4 => ?_, fun h4 => ?_⟩
    · rw [bI_eq0] at h4
      rw [runE_no (by unfold isD; rw [h4]; simp)] at h3
      exact nxt k h3
    · rw [bI_ne0] at h4
      rw [runE_go (by omega) h4] at h3
      have h5 := ih (k + 1) (by omega) (by omega) h3
      rw [← Nat.add_assoc, nI_succ, nI_succ, dgN] at h5
      refine ⟨fun h6 => ?_, fun h6 => ⟨q + k, rfl, by omega, ?_⟩⟩
      · have h6 : 2 ≤ nI k := h6
        rw [if_neg (by have := (nI_leI (a := 2) (b := k) (by omega) (by omega)).mp h6; omega)] at h5
        exact h5
      · have h6 : ¬ 2 ≤ nI k := h6
        rw [if_pos (by have : ¬ 2 ≤ k := fun z => h6 ((nI_leI (a := 2) (b := k) (by omega) (by omega)).mpr z); omega)] at h5
        exact h5
