theorem tkE_eq (f : xN) (n p : Nat) : tkE f n p = if tkS f n p = n then n else if isL (f (tkS f n p)) = true then runE isL f n (tkS f n p) else if isD (f (tkS f n p)) = true then runE isD f n (tkS f n p) else tkS f n p + 1 := rfl
theorem tkJ_eq (f : xN) (n p : Nat) : tkJ f n p = if tkS f n p = n then -2 else if isL (f (tkS f n p)) = true then (if 9 < tkL f n p then -4 else hwJ f (tkS f n p) (tkL f n p)) else if isD (f (tkS f n p)) = true then (if 2 < tkL f n p then -4 else -1) else if f (tkS f n p) = 59 then -3 else -4 := rfl
/-- a word's number -/
def hwN (f : xN) (q : Nat) : Nat → Nat
  | 0 => 0
  | k + 1 => 27 * hwN f q k + ((f (q + k)).toNatClampNeg - 96)
theorem isL_nI {c : Int32} (h : isL c = true) : ∃ v, 97 ≤ v ∧ v ≤ 122 ∧ c = nI v := by
  have h := of_decide_eq_true h
  have h1 := h.1
  have h2 := h.2
  simp only [i32_le] at h1 h2
  have e1 : (97 : Int32).toInt = 97 := rfl
  have e2 : (122 : Int32).toInt = 122 := rfl
  obtain ⟨v, hv, e⟩ := nI_of2 (x := c) (M := 122) (n := 122) rfl (by rw [i32_lt]; have e0 : (0 : Int32).toInt = 0 := rfl; omega) h.2
  refine ⟨v, ?_, hv, e⟩
  rw [e, nI_toInt (by omega)] at h1
  omega
theorem hwN_lt {f : xN} {q : Nat} : ∀ k, (∀ i, i < k → isL (f (q + i)) = true) → hwN f q k < 27 ^ k
  | 0, _ => (by decide : 0 < 27 ^ 0)
  | k + 1, h => by
    have ih := hwN_lt k (fun i hi => h i (by omega))
    obtain ⟨v, h1, h2, e⟩ := isL_nI (h k (by omega))
    rw [hwN, e, nI_clamp (by omega), Nat.pow_succ]
    omega
theorem hwJ_lN {f : xN} {q : Nat} : ∀ k, k ≤ 9 → (∀ i, i < k → isL (f (q + i)) = true) → hwJ f q k = lN (hwN f q k)
  | 0, _, _ => rfl
  | k + 1, hk, h => by
    have ih := hwJ_lN k (by omega) (fun i hi => h i (by omega))
    obtain ⟨v, h1, h2, e⟩ := isL_nI (h k (by omega))
    rw [hwJ, if_pos (by omega), ih, e, hwN, e, nI_clamp (by omega), nI_l (by omega), show (27 : Int64) = lN 27 from rfl, lN_mul, lN_add, show (96 : Int64) = lN 96 from rfl, lN_sub (by omega)]
    congr 1
    omega
theorem lN_toI {v : Nat} (h : v < 2 ^ 63) : (lN v).toInt = v := by
  unfold lN
  rw [Int64.toInt_ofNat_of_lt h]
theorem hw_lt {f : xN} {q k : Nat} (hk : k ≤ 9) (h : ∀ i, i < k → isL (f (q + i)) = true) : hwN f q k < 2 ^ 63 := by
  have h1 := hwN_lt k h
  have h2 : 27 ^ k ≤ 27 ^ 9 := Nat.pow_le_pow_right (by decide) hk
  have h3 : 27 ^ 9 < 2 ^ 63 := by decide
  omega
theorem hwJ_ne {f : xN} {q k : Nat} (hk : k ≤ 9) (h : ∀ i, i < k → isL (f (q + i)) = true) (x : Int64) (hx : x.toInt < 0) : ¬ hwJ f q k = x := by
  intro e
  rw [hwJ_lN k hk h] at e
  have := lN_toI (hw_lt hk h)
  rw [e] at this
  omega
set_option maxHeartbeats 1000000 in
theorem c8_nt_38 (L : xLn) (Q : Option Value → List xE → Prop) (s : xN) (j : Int64) (a : Nat → xN) (n n0 p : Nat) (hn : s 13 = nI n) (h200 : n ≤ 200) (hp : p ≤ n) (nxt : ∀ s' j', tkR (a 14) n p s s' j' → Q none (modW s' j' a)) :
    AJ L mX8_nextToken 1 0 0 Q n0 (0, 0) 38 [some (.ref 0)] [] (modW (upd s 15 (nI (tkS (a 14) n p))) j a) := by
  have hle := tkS_le (f := a 14) hp
  have hle2 := tkE_le (f := a 14) hp
  unfold tkR tkN at nxt
  have hE := tkE_eq (a 14) n p
  have hJ := tkJ_eq (a 14) n p
  have hLn : tkL (a 14) n p = tkE (a 14) n p - tkS (a 14) n p := rfl
  generalize tkS (a 14) n p = q at *
  generalize tkL (a 14) n p = len at *
  generalize tkE (a 14) n p = e at *
  generalize tkJ (a 14) n p = J at *
  have oth : ∀ v15 v18 v19 : Int32, ∀ i, i ≠ 15 → i ≠ 16 → i ≠ 18 → i ≠ 19 → upd (upd (upd (upd s 16 (nI q)) 18 v18) 19 v19) 15 v15 i = s i := by
    intro v15 v18 v19 i h1 h2 h3 h4
    rw [pk_un h1, pk_un h4, pk_un h3, pk_un h2]
  have N1 : ∀ v18 v19 : Int32, (J = -1 → v19 = dgN (a 14) q len) → Q none (modW (upd (upd (upd (upd s 16 (nI q)) 18 v18) 19 v19) 15 (nI e)) J a) := fun v18 v19 h => nxt _ _ ⟨oth _ _ _, rfl, rfl, rfl, h⟩
  clear nxt oth
  have i16 : ∀ v, upd (upd (upd (upd s 16 (nI q)) 18 0) 19 v) 15 (nI q) 16 = nI q := fun _ => rfl
  refine AJ.run kX8_nextToken [90] 60 ⟨fun h1 => ⟨q, rfl, ?_, ?_⟩, fun h1 => ?_⟩
  case refine_3 =>
    have h1 : nI q = s 13 := h1
    rw [hn, nI_eq (by omega) (by omega)] at h1
    rw [if_pos h1] at hE hJ
    have := N1 0 0 (fun z => by rw [hJ] at z; exact absurd z (by decide))
    rw [hJ, hE, ← h1] at this
    exact this
  · have h1 : ¬ nI q = s 13 := h1
    rw [hn, nI_eq (by omega) (by omega)] at h1
    omega
  have h1 : ¬ nI q = s 13 := h1
  rw [hn, nI_eq (by omega) (by omega)] at h1
  rw [if_neg h1] at hE hJ
  refine AJ.callZ kX8_nextToken (c8_in L (a 14 q) 97 122) bX8_in rfl (by decide +kernel) [] rfl rfl rfl rfl rfl ?_
  rintro r rfl
  refine AJ.run kX8_nextToken [101, 235] 60 ⟨fun h2 => ⟨q, rfl, by omega, ?_⟩, fun h2 => ?_⟩
  · rw [bI_eq0] at h2
    rw [if_neg (by unfold isL; rw [h2]; simp)] at hE hJ
    refine AJ.callZ kX8_nextToken (c8_in L (a 14 q) 48 57) bX8_in rfl (by decide +kernel) [] rfl rfl rfl rfl rfl ?_
    rintro r rfl
    refine AJ.run kX8_nextToken [241] 60 ⟨fun h3 => ⟨q, rfl, by omega, fun h4 => ?_, fun h4 => ?_⟩, fun h3 => ?_⟩
    · rw [bI_eq0] at h3
      have h4 : ¬ a 14 q = 59 := h4
      rw [if_neg (by unfold isD; rw [h3]; simp)] at hE hJ
      rw [if_neg h4] at hJ
      have := N1 0 0 (fun z => by rw [hJ] at z; exact absurd z (by decide))
      rw [hJ, hE, nI_succ] at this
      exact this
    · rw [bI_eq0] at h3
      have h4 : a 14 q = 59 := h4
      rw [if_neg (by unfold isD; rw [h3]; simp)] at hE hJ
      rw [if_pos h4] at hJ
      have := N1 0 0 (fun z => by rw [hJ] at z; exact absurd z (by decide))
      rw [hJ, hE, nI_succ] at this
      exact this
    · rw [bI_ne0] at h3
      rw [if_pos (show isD (a 14 q) = true from h3)] at hE hJ
      have key := c8_nt_dig L Q (upd (upd (upd (upd s 15 (nI q)) 16 (nI q)) 18 0) 19 0) j a n n0 q e hn h200 ?_ (n - (q + 0)) 0 rfl (by omega) hE.symm
      · exact key
      intro k hk
      have hk2 : k = len := by omega
      subst hk2
      have N2 := N1 (nI k) (dgN (a 14) q k) (fun _ => rfl)
      rw [← hk] at N2
      refine AJ.run kX8_nextToken [] 60 ⟨fun h4 => ?_, fun h4 => ?_⟩
      · have := (nI_leI (a := k) (b := 2) (by omega) (by omega)).mp h4
        rw [if_neg (by omega)] at hJ
        rw [hJ] at N2
        exact N2
      · have : ¬ k ≤ 2 := fun z => h4 ((nI_leI (a := k) (b := 2) (by omega) (by omega)).mpr z)
        rw [if_pos (by omega)] at hJ
        rw [hJ] at N2
        exact N2
  · rw [bI_ne0] at h2
    rw [if_pos (show isL (a 14 q) = true from h2)] at hE hJ
    have key := c8_nt_word L Q (upd (upd (upd (upd s 15 (nI q)) 16 (nI q)) 18 0) 19 0) a n n0 q e hn h200 rfl ?_ (n - (q + 0)) 0 rfl (by omega) hE.symm
    · exact key
    intro k hk
    have hk2 : k = len := by omega
    subst hk2
    have ed : nI (q + k) - nI q = nI k := by rw [pk_sub (by omega)]; congr 1; omega
    have hne : J = -1 → (0 : Int32) = dgN (a 14) q k := by
      intro hz
      by_cases h9 : 9 < k
      · rw [if_pos h9] at hJ
        rw [hJ] at hz
        exact absurd hz (by decide)
      · rw [if_neg h9] at hJ
        rw [hJ] at hz
        exact absurd hz (hwJ_ne (by omega) (fun i hi => runE_in (n - q) q rfl (q + i) (by omega) (by rw [← hE]; omega)) (-1) (by decide))
    have N2 := N1 0 0 hne
    rw [← hk] at N2
    refine AJ.run kX8_nextToken [] 60 ⟨fun h4 => ?_, fun h4 => ?_⟩
    · have h4 : nI (q + k) - nI q ≤ nI 9 := h4
      rw [ed, nI_leI (by omega) (by omega)] at h4
      rw [if_neg (by omega)] at hJ
      rw [hJ] at N2
      exact N2
    · have h4 : ¬ nI (q + k) - nI q ≤ nI 9 := h4
      rw [ed, nI_leI (by omega) (by omega)] at h4
      rw [if_pos (by omega)] at hJ
      rw [hJ] at N2
      exact N2
theorem c8_nextToken (L : xLn) (s : xN) (j : Int64) (a : Nat → xN) (n p : Nat) (hn : s 13 = nI n) (h200 : n ≤ 200) (hs : s 15 = nI p) (hp : p ≤ n) : CT L mX8_nextToken 1 0 0 [.ref 0] (modW s j a) (fun r Y => r = none ∧ ∃ s' j', Y = modW s' j' a ∧ tkR (a 14) n p s s' j') := by
  refine CT.of rfl (Nat.le_of_ble_eq_true rfl) (Nat.le_of_ble_eq_true rfl) ?_
  have nxt : ∀ s' j', tkR (a 14) n p s s' j' → (fun (r : Option Value) (Y : List xE) => r = none ∧ ∃ s' j', Y = modW s' j' a ∧ tkR (a 14) n p s s' j') none (modW s' j' a) := fun s' j' h => ⟨rfl, s', j', rfl, h⟩
  generalize (fun (r : Option Value) (Y : List xE) => r = none ∧ ∃ s' j', Y = modW s' j' a ∧ tkR (a 14) n p s s' j') = Q at nxt ⊢
  have key := c8_nt_blank L Q s j a n (modW s j a).length (tkS (a 14) n p) hn h200 (c8_nt_38 L Q s j a n _ p hn h200 hp nxt) (n - p) p rfl hp rfl
  rw [← hs] at key
  exact key
/-- a number of the text in its bounds -/
def nuP (f : xN) (n p : Nat) (lo hi : Int32) : Bool := decide (tkJ f n p = -1) && inP (tkN f n p) lo hi
/-- how the reference stands behind a number that was wanted -/
def nuR (f : xN) (n p w : Nat) (lo hi : Int32) (s : xN) (a : Nat → xN) (s' : xN) (a' : Nat → xN) : Prop := (∀ i, i ≠ 15 → i ≠ 16 → i ≠ 18 → i ≠ 19 → i ≠ 20 → s' i = s i) ∧ s' 16 = nI (tkS f n p) ∧ s' 15 = nI (tkE f n p) ∧ (nuP f n p lo hi = true → a' = va_up a 25 (upd (a 25) w (tkN f n p)) ∧ s' 20 = s 20) ∧ (nuP f n p lo hi = false → a' = a ∧ s' 20 = nI (tkS f n p))
set_option maxHeartbeats 400000 in
theorem c8_isNumber (L : xLn) (s : xN) (j : Int64) (a : Nat → xN) (n p w : Nat) (lo hi : Int32) (hw : w < 50) (hn : s 13 = nI n) (h200 : n ≤ 200) (hs : s 15 = nI p) (hp : p ≤ n) : CT L mX8_isNumber 2 0 0 [.ref 0, .int (nI w), .int lo, .int hi] (modW s j a) (fun r Y => r = some (.int (bI (nuP (a 14) n p lo hi))) ∧ ∃ s' j' a', Y = modW s' j' a' ∧ nuR (a 14) n p w lo hi s a s' a') := by
  refine CT.of rfl (Nat.le_of_ble_eq_true rfl) (Nat.le_of_ble_eq_true rfl) ?_
  have nxt : ∀ s' j' a' b, b = nuP (a 14) n p lo hi → nuR (a 14) n p w lo hi s a s' a' → (fun (r : Option Value) (Y : List xE) => r = some (.int (bI (nuP (a 14) n p lo hi))) ∧ ∃ s' j' a', Y = modW s' j' a' ∧ nuR (a 14) n p w lo hi s a s' a') (some (.int (bI b))) (modW s' j' a') := fun s' j' a' b hb h => ⟨by rw [hb], s', j', a', rfl, h⟩
  generalize (fun (r : Option Value) (Y : List xE) => r = some (.int (bI (nuP (a 14) n p lo hi))) ∧ ∃ s' j' a', Y = modW s' j' a' ∧ nuR (a 14) n p w lo hi s a s' a') = Q at nxt ⊢
  refine AJ.run kX8_isNumber [] 60 ?_
  refine AJ.callF kX8_isNumber (c8_nextToken L s j a n p hn h200 hs hp) bX8_nextToken rfl (by decide +kernel) [] rfl rfl rfl rfl rfl rfl rfl rfl ?_
  rintro r Y ⟨rfl, s1, j1, rfl, t1, t2, t3, t4, t5⟩
  have hfail : nuP (a 14) n p lo hi = false → AJ L mX8_isNumber 2 0 0 Q (modW s j a).length (0, 0) 27 [some (.ref 0), some (.int (nI w)), some (.int lo), some (.int hi)] [] (modW s1 j1 a) := by
    intro hf
    have := nxt (upd s1 20 (s1 16)) j1 a false hf.symm ⟨fun i h1 h2 h3 h4 h5 => (pk_un h5).trans (t1 i h1 h2 h3 h4), t3, t2, (fun z => by rw [hf] at z; cases z), fun _ => ⟨rfl, t3⟩⟩
    refine AJ.run kX8_isNumber [] 60 ?_
    refine AJ.callF kX8_isNumber (c8_fails L s1 j1 a) bX8_fails rfl (by decide +kernel) [] rfl rfl rfl rfl rfl rfl rfl rfl ?_
    rintro r Y ⟨rfl, rfl⟩
    exact ⟨rfl, rfl, AJ.run kX8_isNumber [] 60 ⟨Or.inl rfl, this⟩⟩
  refine ⟨rfl, rfl, AJ.run kX8_isNumber [27] 60 ⟨fun h1 => hfail ?_, fun h1 => ?_⟩⟩
  · rw [lg_cmp_eq] at h1
    rw [t4] at h1
    simp [nuP, h1]
  · rw [lg_cmp_eq] at h1
    refine AJ.callZ kX8_isNumber (c8_in L (s1 19) lo hi) bX8_in rfl (by decide +kernel) [] rfl rfl rfl rfl rfl ?_
    rintro r rfl
    have e19 := t5 h1
    have hj : tkJ (a 14) n p = -1 := t4 ▸ h1
    refine AJ.run kX8_isNumber [27] 60 ⟨fun h2 => ⟨w, rfl, hw, Or.inr rfl, ?_⟩, fun h2 => hfail ?_⟩
    · rw [bI_ne0, e19] at h2
      have hok : nuP (a 14) n p lo hi = true := by rw [nuP, hj, h2]; rfl
      have := nxt s1 j1 (va_up a 25 (upd (a 25) w (s1 19))) true hok.symm ⟨fun i h1 h2 h3 h4 h5 => t1 i h1 h2 h3 h4, t3, t2, fun _ => ⟨by rw [e19], t1 20 (by omega) (by omega) (by omega) (by omega)⟩, fun z => by rw [hok] at z; cases z⟩
      exact this
    · rw [bI_eq0, e19] at h2
      rw [nuP, h2]; simp
