/-! ===== the reference: what a minute leaves as it was; the minute ===== -/
theorem oweL_out (fo fa : Int32) (k : Nat) (N : xN) {i : Nat} : ∀ q, q ≤ 8 → (i < 33 ∨ 41 ≤ i) → oweL fo fa k N q i = N i
  | 0, _, _ => rfl
  | q + 1, hq, hi => by rw [oweL, pk_un (by omega), oweL_out fo fa k N q (by omega) hi]
theorem onA_out (pl : Int32) (N : xN) {k i : Nat} (h : i ≠ 3 + k ∧ i ≠ 1 + k ∧ i ≠ 5 + k) : onA pl N k i = N i := by
  rw [onA, pk_un (by omega), pk_un (by omega), pk_un (by omega)]
theorem goOnP_out (pl fo fa : Int32) (N : xN) {k i : Nat} (hk : k < 2) (h : 7 ≤ i ∧ i < 33 ∨ 41 ≤ i ∨ i = 0) : goOnP pl fo fa N k i = N i := by
  rw [goOnP, oweL_out _ _ _ _ 8 (by omega) (by omega), onA_out _ _ (by omega)]
theorem offS_out (fo : Int32) (pe : xN) {k q i : Nat} (S : xN × Int32) (hq : q < 8) (h : i < 9 ∨ 33 ≤ i) : (offS fo pe k q S).1 i = S.1 i := by
  unfold offS
  split
  · split
    · show offT S.1 k q i = S.1 i
      unfold offT
      try dsimp only
      rw [pk_un (by omega), pk_un (by omega), pk_un (by omega)]
    · show offU S.1 k q i = S.1 i
      unfold offU
      try dsimp only
      rw [pk_un (by omega), pk_un (by omega), pk_un (by omega)]
  · rfl
theorem offL_out (fo : Int32) (pe : xN) {k i : Nat} (N : xN) (h : i < 9 ∨ 33 ≤ i) : ∀ q, q ≤ 8 → (offL fo pe k N q).1 i = N i
  | 0, _ => rfl
  | q + 1, hq => by rw [offL, offS_out fo pe _ (by omega) h, offL_out fo pe N h q (by omega)]
theorem onS_out (fo se : Int32) {k q i : Nat} (S : xN × Int32) (h : i ≠ 17 + q) : (onS fo se k q S).1 i = S.1 i := by
  unfold onS
  split
  · exact pk_un h
  · rfl
theorem onL_out (fo se : Int32) {k i : Nat} (S : xN × Int32) (h : i < 17 ∨ 25 ≤ i) : ∀ q, q ≤ 8 → (onL fo se k S q).1 i = S.1 i
  | 0, _ => rfl
  | q + 1, hq => by rw [onL, onS_out fo se _ (by omega), onL_out fo se S h q (by omega)]
theorem haltA_out (N : xN) {k c h i : Nat} (hi : i ≠ 93 + 4 * h ∧ i ≠ 93 + 4 * h + 1 ∧ i ≠ 93 + 4 * h + 2 ∧ i ≠ 93 + 4 * h + 3 ∧ i ≠ 7 + k ∧ i ≠ 5 + k ∧ i ≠ 67 + c) : haltA N k c h i = N i := by
  unfold haltA
  try dsimp only
  rw [pk_un (by omega), pk_un (by omega), pk_un (by omega), pk_un (by omega), pk_un (by omega), pk_un (by omega), pk_un (by omega)]
theorem haltA_7 (N : xN) {k c h : Nat} (hk : k < 2) : haltA N k c h (7 + k) = N (7 + k) + 1 := by
  unfold haltA
  try dsimp only
  rw [pk_un (by omega), pk_un (by omega), pk_us, pk_un (by omega), pk_un (by omega), pk_un (by omega), pk_un (by omega)]
theorem haltP_out (fo se : Int32) (pe N : xN) {k c h i : Nat} (hk : k < 2) (hi : i < 5 ∨ 33 ≤ i ∧ i < 67) : haltP fo se pe N k c h i = N i := by
  rw [haltP, onL_out _ _ _ (by omega) 8 (by omega), offL_out _ _ _ (by omega) 8 (by omega)]
  exact haltA_out N (by omega)
theorem haltP_7 (fo se : Int32) (pe N : xN) {k c h : Nat} (hk : k < 2) : haltP fo se pe N k c h 7 + haltP fo se pe N k c h 8 = N 7 + N 8 + 1 := by
  have e : ∀ i, i = 7 ∨ i = 8 → haltP fo se pe N k c h i = haltA N k c h i := by
    intro i hi
    rw [haltP, onL_out _ _ _ (by omega) 8 (by omega), offL_out _ _ _ (by omega) 8 (by omega)]
  rw [e 7 (by omega), e 8 (by omega)]
  rcases (show k = 0 ∨ k = 1 by omega) with rfl | rfl
  · rw [show haltA N 0 c h 7 = N 7 + 1 from haltA_7 N (k := 0) (by omega), haltA_out N (k := 0) (i := 8) (by omega)]
    rw [Int32.add_assoc, Int32.add_assoc, Int32.add_comm 1 (N 8)]
  · rw [show haltA N 1 c h 8 = N 8 + 1 from haltA_7 N (k := 1) (by omega), haltA_out N (k := 1) (i := 7) (by omega)]
    rw [Int32.add_assoc]
theorem abO_of {N B : xN} (h : abO N) (e : ∀ i, 17 ≤ i → i < 25 → B i = N i) : abO B := fun p hp => by
  rw [e (17 + p) (by omega) (by omega)]; exact h p hp
theorem offL_abO (fo : Int32) (pe : xN) {k : Nat} (hk : k < 2) (N : xN) (h : abO N) : ∀ q, q ≤ 8 → abO (offL fo pe k N q).1
  | 0, _ => h
  | q + 1, hq => by
    have ih := offL_abO fo pe hk N h q (by omega)
    rw [offL]
    generalize offL fo pe k N q = S at ih ⊢
    intro p hp
    by_cases e : p = q
    · subst e
      unfold offS
      split
      · split
        · left
          show offT S.1 k p (17 + p) = -1
          unfold offT; (try dsimp only); rw [pk_us]
        · right
          show offU S.1 k p (17 + p) = nI 0 ∨ offU S.1 k p (17 + p) = nI 1
          unfold offU; (try dsimp only); rw [pk_us]
          rcases (show k = 0 ∨ k = 1 by omega) with rfl | rfl
          · exact Or.inl rfl
          · exact Or.inr rfl
      · exact ih p hp
    · have e2 : (offS fo pe k q S).1 (17 + p) = S.1 (17 + p) := by
        unfold offS
        split
        · split
          · show offT S.1 k q (17 + p) = _
            unfold offT; (try dsimp only); rw [pk_un (by omega), pk_un (by omega), pk_un (by omega)]
          · show offU S.1 k q (17 + p) = _
            unfold offU; (try dsimp only); rw [pk_un (by omega), pk_un (by omega), pk_un (by omega)]
        · rfl
      rw [e2]; exact ih p hp
theorem onL_abO (fo se : Int32) {k : Nat} (hk : k < 2) (S : xN × Int32) (h : abO S.1) : ∀ q, q ≤ 8 → abO (onL fo se k S q).1
  | 0, _ => h
  | q + 1, hq => by
    have ih := onL_abO fo se hk S h q (by omega)
    rw [onL]
    generalize onL fo se k S q = B at ih ⊢
    intro p hp
    by_cases e : p = q
    · subst e
      unfold onS
      split
      · right
        show upd B.1 (17 + p) (nI k) (17 + p) = nI 0 ∨ upd B.1 (17 + p) (nI k) (17 + p) = nI 1
        rw [pk_us]
        rcases (show k = 0 ∨ k = 1 by omega) with rfl | rfl
        · exact Or.inl rfl
        · exact Or.inr rfl
      · exact ih p hp
    · rw [onS_out fo se B (by omega)]; exact ih p hp
theorem haltP_abO (fo se : Int32) (pe N : xN) {k c h : Nat} (hk : k < 2) (hN : abO N) : abO (haltP fo se pe N k c h) :=
  onL_abO fo se hk _ (offL_abO fo pe hk _ (abO_of hN (fun i h1 h2 => haltA_out N (by omega))) 8 (by omega)) 8 (by omega)
theorem goOnP_abO (pl fo fa : Int32) (N : xN) {k : Nat} (hk : k < 2) (hN : abO N) : abO (goOnP pl fo fa N k) := abO_of hN (fun i h1 h2 => goOnP_out pl fo fa N hk (by omega))
def feltF (mo N : xN) (k : Nat) : xN := if mo (3 * k + 2) = N 0 then upd N (41 + k) (plP N (mo (3 * k)).toNatClampNeg) else N
def feltL (mo N : xN) : Nat → xN
  | 0 => N
  | k + 1 => feltF mo (feltL mo N k) k
theorem feltL_out (mo N : xN) {i : Nat} (h : i < 41 ∨ 67 ≤ i) : ∀ k, k ≤ 26 → feltL mo N k i = N i
  | 0, _ => rfl
  | k + 1, hk => by
    rw [feltL, feltF]
    split
    · rw [pk_un (by omega), feltL_out mo N h k (by omega)]
    · exact feltL_out mo N h k (by omega)
/-- tram k in its minute -/
def tramF (s : xN) (a : Nat → xN) (m : Nat) (N : xN) (k : Nat) : xN :=
  if hasP (s 5) (nI k) = true ∧ a 6 (3 * k + 1) ≤ N 0 then
    (if N (5 + k) = 1 ∨ caP (s 30) (s 31) (a 10) N (N (1 + k)) m = -1 then goOnP (s 0) (s 7) (s 4) N k else haltP (s 7) (s 3) (a 8) N k (caP (s 30) (s 31) (a 10) N (N (1 + k)) m).toNatClampNeg (N 7 + N 8).toNatClampNeg)
  else N
def minP (s : xN) (a : Nat → xN) (m : Nat) (N : xN) : xN := upd (tramF s a m (tramF s a m (feltL (a 10) N m) 0) 1) 0 (tramF s a m (tramF s a m (feltL (a 10) N m) 0) 1 0 + 1)
theorem tramF_abO (s : xN) (a : Nat → xN) (m : Nat) (N : xN) {k : Nat} (hk : k < 2) (hN : abO N) : abO (tramF s a m N k) := by
  unfold tramF
  split
  · split
    · exact goOnP_abO _ _ _ _ hk hN
    · exact haltP_abO _ _ _ _ hk hN
  · exact hN
theorem tramF_hm (s : xN) (a : Nat → xN) (m : Nat) (N : xN) {k h : Nat} (hk : k < 2) (hh : N 7 + N 8 = nI h) : ∃ h', h ≤ h' ∧ h' ≤ h + 1 ∧ tramF s a m N k 7 + tramF s a m N k 8 = nI h' := by
  unfold tramF
  split
  · split
    · refine ⟨h, by omega, by omega, ?_⟩
      rw [goOnP_out _ _ _ _ hk (by omega), goOnP_out _ _ _ _ hk (by omega)]; exact hh
    · refine ⟨h + 1, by omega, by omega, ?_⟩
      rw [haltP_7 _ _ _ _ hk, hh, nI_1]
  · exact ⟨h, by omega, by omega, hh⟩

/-- what a minute needs of the moods and the day -/
def okD (s : xN) (a : Nat → xN) (m : Nat) : Prop := s 32 = nI m ∧ m ≤ 26 ∧ ∀ k, k < m → ∃ p, p < 8 ∧ a 10 (3 * k) = nI p
theorem feltL_abO (mo N : xN) (hN : abO N) {k : Nat} (hk : k ≤ 26) : abO (feltL mo N k) := abO_of hN (fun i h1 h2 => feltL_out mo N (by omega) k hk)
set_option maxHeartbeats 4000000 in
theorem c8_goMinute (L : xLn) (s : xN) (j : Int64) (a : Nat → xN) (N : xN) (m h : Nat) (hok : okD s a m) (hN : abO N) (hh : N 7 + N 8 = nI h) (hh2 : h + 2 ≤ 120) : CT L mX8_goMinute 2 0 0 [.ref 0] (modN s j a N) (fun r Y => r = none ∧ Y = modN s j a (minP s a m N)) := by
  obtain ⟨hs, hm, hmo⟩ := hok
  refine CT.of rfl (Nat.le_of_ble_eq_true rfl) (Nat.le_of_ble_eq_true rfl) ?_
  have fin : ∀ (x2 : Option Value), AJ L mX8_goMinute 2 0 0 (fun r Y => r = none ∧ Y = modN s j a (minP s a m N)) (modN s j a N).length (0, 0) 58 [some (.ref 0), some (.int (nI 2)), x2] [] (modN s j a (tramF s a m (tramF s a m (feltL (a 10) N m) 0) 1)) := by
    intro x2
    exact AJ.run kX8_goMinute [58] 60 ⟨fun _ => ⟨0, rfl, by omega, 0, rfl, by omega, rfl, rfl⟩, fun hz => absurd (by decide) hz⟩
  -- one tram
  have tr : ∀ (k : Nat) (B : xN) (h : Nat) (x2 : Option Value), k < 2 → xokv 13 (x2.getD .null) = true → abO B → B 7 + B 8 = nI h → h < 120 → (∀ x2' : Option Value, xokv 13 (x2'.getD .null) = true → AJ L mX8_goMinute 2 0 0 (fun r Y => r = none ∧ Y = modN s j a (minP s a m N)) (modN s j a N).length (0, 0) 58 [some (.ref 0), some (.int (nI (k + 1))), x2'] [] (modN s j a (tramF s a m B k))) → AJ L mX8_goMinute 2 0 0 (fun r Y => r = none ∧ Y = modN s j a (minP s a m N)) (modN s j a N).length (0, 0) 58 [some (.ref 0), some (.int (nI k)), x2] [] (modN s j a B) := by
    intro k B h x2 hk hx hB hh hh2 nxt
    rw [nI_succ] at nxt
    have wf : xwf (modN s j a B) [some (.ref 0), some (.int (nI k)), x2] [] = true := by
      cases x2 with
      | none => rfl
      | some u => simpa [xwf, xokv, modN, modW, xoke] using hx
    refine AJ.run kX8_goMinute [58] 60 ⟨fun hz => absurd hz (nI_ge (b := 2) (by omega) (by omega)), fun hz => ?_⟩
    refine AJ.callS kX8_goMinute (c8_has L (s 5) (nI k)) bX8_has rfl (by decide +kernel) [] [] rfl rfl rfl rfl wf rfl rfl ?_
    rintro r Y ⟨rfl, rfl⟩
    have skip : ¬ (hasP (s 5) (nI k) = true ∧ a 6 (3 * k + 1) ≤ B 0) → AJ L mX8_goMinute 2 0 0 (fun r Y => r = none ∧ Y = modN s j a (minP s a m N)) (modN s j a N).length (0, 0) 141 [some (.ref 0), some (.int (nI k)), x2] [] (modN s j a B) := by
      intro hn
      have := nxt x2 hx
      rw [tramF, if_neg hn] at this
      exact AJ.run kX8_goMinute [58] 60 this
    refine ⟨rfl, AJ.run kX8_goMinute [58, 141, 121] 60 ⟨fun h3 => skip ?_, fun h3 => ⟨3 * k + 1, by simp only [fa_lit, nI_add, pk_mul], by omega, 0, rfl, by omega, fun h4 => skip ?_, fun h4 => ?_⟩⟩⟩
    · rw [bI_eq0] at h3
      simp [h3]
    · have h4 : B 0 < a 6 (3 * k + 1) := h4
      rintro ⟨-, h5⟩
      simp only [i32_lt, i32_le] at h4 h5
      omega
    have h4 : ¬ B 0 < a 6 (3 * k + 1) := h4
    have h5 : a 6 (3 * k + 1) ≤ B 0 := by
      simp only [i32_lt, i32_le] at h4 ⊢
      omega
    rw [bI_ne0] at h3
    have nxt2 : ∀ x2' : Option Value, xokv 13 (x2'.getD .null) = true → AJ L mX8_goMinute 2 0 0 (fun r Y => r = none ∧ Y = modN s j a (minP s a m N)) (modN s j a N).length (0, 0) 58 [some (.ref 0), some (.int (nI k + 1)), x2'] [] (modN s j a (if B (5 + k) = 1 ∨ caP (s 30) (s 31) (a 10) B (B (1 + k)) m = -1 then goOnP (s 0) (s 7) (s 4) B k else haltP (s 7) (s 3) (a 8) B k (caP (s 30) (s 31) (a 10) B (B (1 + k)) m).toNatClampNeg (B 7 + B 8).toNatClampNeg)) := by
      intro x2' hx'
      have := nxt x2' hx'
      rw [tramF, if_pos ⟨h3, h5⟩] at this
      exact this
    -- behind the cause
    have cz : ∀ c : Int32, (c = -1 ∨ ∃ q, q < 26 ∧ c = nI q) → (∀ x2' : Option Value, xokv 13 (x2'.getD .null) = true → AJ L mX8_goMinute 2 0 0 (fun r Y => r = none ∧ Y = modN s j a (minP s a m N)) (modN s j a N).length (0, 0) 58 [some (.ref 0), some (.int (nI k + 1)), x2'] [] (modN s j a (if c = -1 then goOnP (s 0) (s 7) (s 4) B k else haltP (s 7) (s 3) (a 8) B k c.toNatClampNeg (B 7 + B 8).toNatClampNeg))) → AJ L mX8_goMinute 2 0 0 (fun r Y => r = none ∧ Y = modN s j a (minP s a m N)) (modN s j a N).length (0, 0) 121 [some (.ref 0), some (.int (nI k)), x2] [.int c] (modN s j a B) := by
      intro c hc n3
      refine AJ.run kX8_goMinute [58] 60 ⟨fun h6 => ?_, fun h6 => ?_⟩
      · rcases hc with h7 | ⟨q, hq, rfl⟩
        · exact absurd h7 h6
        have n3 := n3 (some (.int (nI q))) rfl
        rw [if_neg h6, hh, nI_clamp (by omega), nI_clamp (by omega)] at n3
        refine AJ.callV kX8_goMinute (c8_haltBy L s j a B k q h hk hq hh hh2) bX8_haltBy rfl (by decide +kernel) [0, 1, 2, 3, 4, 5, 6, 7, 8, 9, 10, 11, 12] [] rfl rfl rfl rfl rfl rfl rfl rfl rfl rfl ?_
        rintro r Y ⟨rfl, rfl⟩
        exact ⟨rfl, AJ.run kX8_goMinute [58] 60 n3⟩
      · have h6 : c = -1 := h6
        subst h6
        have n3 := n3 (some (.int (-1))) rfl
        rw [if_pos rfl] at n3
        refine AJ.callV kX8_goMinute (c8_goOn L s j a B k hk) bX8_goOn rfl (by decide +kernel) [0, 1, 2, 3, 4, 5, 6, 7, 8, 9, 10, 11, 12] [] rfl rfl rfl rfl rfl rfl rfl rfl rfl rfl ?_
        rintro r Y ⟨rfl, rfl⟩
        exact ⟨rfl, AJ.run kX8_goMinute [58] 60 n3⟩
    refine ⟨5 + k, nI_add 5 k, by omega, fun h6 => ?_, fun h6 => ?_⟩
    · have h6 : ¬ B (5 + k) = 1 := h6
      refine ⟨1 + k, nI_add 1 k, by omega, ?_⟩
      refine AJ.callV kX8_goMinute (c8_causeOf L s j a B (B (1 + k)) m hs hm) bX8_causeOf rfl (by decide +kernel) [0, 1, 2, 3, 4, 5, 6, 7, 8, 9, 10, 11, 12] [] rfl rfl rfl rfl rfl rfl rfl wf rfl rfl ?_
      rintro r Y ⟨rfl, rfl⟩
      refine ⟨rfl, cz _ ?_ (fun x2' hx' => ?_)⟩
      · rcases caP_in (s 30) (s 31) (a 10) B (B (1 + k)) m with h7 | ⟨q, h7, h8⟩
        · exact Or.inl h7
        · exact Or.inr ⟨q, by omega, h8⟩
      · have n4 := nxt2 x2' hx'
        by_cases h9 : caP (s 30) (s 31) (a 10) B (B (1 + k)) m = -1
        · rw [if_pos (Or.inr h9)] at n4
          rw [if_pos h9]; exact n4
        · rw [if_neg (by rintro (q | q); exact h6 q; exact h9 q)] at n4
          rw [if_neg h9]; exact n4
    · have h6 : B (5 + k) = 1 := h6
      refine cz (-1) (Or.inl rfl) (fun x2' hx' => ?_)
      have n4 := nxt2 x2' hx'
      rw [if_pos (Or.inl h6)] at n4
      rw [if_pos rfl]; exact n4
  -- the moods
  have l1 : ∀ (n k : Nat), k + n = m → AJ L mX8_goMinute 2 0 0 (fun r Y => r = none ∧ Y = modN s j a (minP s a m N)) (modN s j a N).length (0, 0) 2 [some (.ref 0), some (.int (nI k)), none] [] (modN s j a (feltL (a 10) N k)) := by
    intro n
    induction n with
    | zero =>
      intro k hk
      obtain rfl : k = m := by omega
      refine AJ.run kX8_goMinute [2, 58] 60 ⟨fun _ => ?_, fun hz => absurd ?_ hz⟩
      · have a1 := feltL_abO (a 10) N hN (k := k) hm
        have e7 : feltL (a 10) N k 7 + feltL (a 10) N k 8 = nI h := by rw [feltL_out _ _ (by omega) k hm, feltL_out _ _ (by omega) k hm]; exact hh
        obtain ⟨h', q1, q2, q3⟩ := tramF_hm s a k (feltL (a 10) N k) (k := 0) (by omega) e7
        exact tr 0 _ h none (by omega) rfl a1 e7 (by omega) (fun x2' hx' => tr 1 _ h' x2' (by omega) hx' (tramF_abO s a k _ (by omega) a1) q3 (by omega) (fun x2'' _ => fin x2''))
      · show s 32 ≤ nI k
        rw [hs]; exact nI_le (by omega) (by omega)
    | succ n ih =>
      intro k hk
      have h2 := ih (k + 1) (by omega)
      rw [nI_succ, feltL] at h2
      have hab := feltL_abO (a 10) N hN (k := k) (by omega)
      generalize feltL (a 10) N k = B at h2 hab ⊢
      obtain ⟨p, hp1, hp2⟩ := hmo k (by omega)
      refine AJ.run kX8_goMinute [2] 60 ⟨fun hz => absurd hz ?_, fun hz => ⟨3 * k + 2, by simp only [fa_lit, nI_add, pk_mul], by omega, 0, rfl, by omega, fun h3 => ?_, fun h3 => ⟨3 * k, by simp only [fa_lit, pk_mul], by omega, ?_⟩⟩⟩
      · show ¬ s 32 ≤ nI k
        rw [hs]; exact nI_ge (by omega) (by omega)
      · have h3 : ¬ a 10 (3 * k + 2) = B 0 := h3
        rw [feltF, if_neg h3] at h2
        exact h2
      · have h3 : a 10 (3 * k + 2) = B 0 := h3
        rw [feltF, if_pos h3, hp2, nI_clamp (by omega)] at h2
        have cc := c8_placeNow L s j a B p hp1 hab
        rw [← hp2] at cc
        refine AJ.callV kX8_goMinute cc bX8_placeNow rfl (by decide +kernel) [0, 1, 2, 3, 4, 5, 6, 7, 8, 9, 10, 11, 12] [.int (41 + nI k), .ref 7] rfl rfl rfl rfl rfl rfl rfl rfl rfl rfl ?_
        rintro r Y ⟨rfl, rfl⟩
        exact ⟨rfl, AJ.run kX8_goMinute [2] 60 ⟨41 + k, nI_add 41 k, by omega, h2⟩⟩
  exact AJ.run kX8_goMinute [2] 60 (l1 m 0 (by omega))
