/-! ===== the reference: the day from its begin; small public methods ===== -/
theorem bg1_out (tr N : xN) {i : Nat} : ∀ k, k ≤ 2 → 9 ≤ i → bg1 tr N k i = N i
  | 0, _, h => by rw [bg1, pk_un (by omega)]
  | k + 1, hk, h => by rw [bg1, pk_un (by omega), pk_un (by omega), pk_un (by omega), pk_un (by omega), bg1_out tr N k (by omega) h]
theorem bg2_out (pe N : xN) {i : Nat} : ∀ k, k ≤ 8 → (i < 9 ∨ 41 ≤ i) → bg2 pe N k i = N i
  | 0, _, h => rfl
  | k + 1, hk, h => by rw [bg2, pk_un (by omega), pk_un (by omega), pk_un (by omega), pk_un (by omega), bg2_out pe N k (by omega) h]
theorem bg3_out (N : xN) {i : Nat} : ∀ k, k ≤ 26 → (i < 41 ∨ 93 ≤ i) → bg3 N k i = N i
  | 0, _, h => rfl
  | k + 1, hk, h => by rw [bg3, pk_un (by omega), pk_un (by omega), bg3_out N k (by omega) h]
theorem bg2_9 (pe N : xN) (p : Nat) : ∀ k, k ≤ 8 → p < k → bg2 pe N k (9 + p) = pe (2 * p) ∧ bg2 pe N k (17 + p) = -1 ∧ bg2 pe N k (25 + p) = -1 ∧ bg2 pe N k (33 + p) = 0
  | 0, _, h => by omega
  | k + 1, hk, h => by
    by_cases e : p = k
    · subst e
      simp only [bg2]
      refine ⟨?_, ?_, ?_, ?_⟩
      · rw [pk_un (by omega), pk_un (by omega), pk_un (by omega), pk_us]
      · rw [pk_un (by omega), pk_un (by omega), pk_us]
      · rw [pk_un (by omega), pk_us]
      · rw [pk_us]
    · have ih := bg2_9 pe N p k (by omega) (by omega)
      simp only [bg2]
      refine ⟨?_, ?_, ?_, ?_⟩
      · rw [pk_un (by omega), pk_un (by omega), pk_un (by omega), pk_un (by omega)]; exact ih.1
      · rw [pk_un (by omega), pk_un (by omega), pk_un (by omega), pk_un (by omega)]; exact ih.2.1
      · rw [pk_un (by omega), pk_un (by omega), pk_un (by omega), pk_un (by omega)]; exact ih.2.2.1
      · rw [pk_un (by omega), pk_un (by omega), pk_un (by omega), pk_un (by omega)]; exact ih.2.2.2
theorem bg3_41 (N : xN) (p : Nat) : ∀ k, k ≤ 26 → p < k → bg3 N k (41 + p) = -1 ∧ bg3 N k (67 + p) = 0
  | 0, _, h => by omega
  | k + 1, hk, h => by
    by_cases e : p = k
    · subst e
      simp only [bg3]
      exact ⟨by rw [pk_un (by omega), pk_us], pk_us⟩
    · have ih := bg3_41 N p k (by omega) (by omega)
      simp only [bg3]
      exact ⟨by rw [pk_un (by omega), pk_un (by omega)]; exact ih.1, by rw [pk_un (by omega), pk_un (by omega)]; exact ih.2⟩
/-- the begin, place by place -/
theorem begin_9 (tr pe N : xN) {p : Nat} (hp : p < 8) : beginP tr pe N (9 + p) = pe (2 * p) ∧ beginP tr pe N (17 + p) = -1 ∧ beginP tr pe N (25 + p) = -1 ∧ beginP tr pe N (33 + p) = 0 := by
  unfold beginP
  rw [bg3_out _ 26 (by omega) (by omega), bg3_out _ 26 (by omega) (by omega), bg3_out _ 26 (by omega) (by omega), bg3_out _ 26 (by omega) (by omega)]
  exact bg2_9 pe _ p 8 (by omega) hp
theorem begin_41 (tr pe N : xN) {p : Nat} (hp : p < 26) : beginP tr pe N (41 + p) = -1 ∧ beginP tr pe N (67 + p) = 0 := bg3_41 _ p 26 (by omega) hp
theorem begin_lo (tr pe N : xN) {i : Nat} (hi : i < 9) : beginP tr pe N i = bg1 tr N 2 i := by
  unfold beginP
  rw [bg3_out _ 26 (by omega) (by omega), bg2_out _ _ 8 (by omega) (by omega)]
theorem begin_0 (tr pe N : xN) : beginP tr pe N 0 = 0 ∧ beginP tr pe N 7 = 0 ∧ beginP tr pe N 8 = 0 := ⟨begin_lo tr pe N (by omega), begin_lo tr pe N (by omega), begin_lo tr pe N (by omega)⟩
theorem begin_tr (tr pe N : xN) {k : Nat} (hk : k < 2) : beginP tr pe N (1 + k) = tr (3 * k) ∧ beginP tr pe N (3 + k) = tr (3 * k + 2) ∧ beginP tr pe N (5 + k) = 0 := by
  rcases (show k = 0 ∨ k = 1 by omega) with rfl | rfl
  · exact ⟨begin_lo tr pe N (by omega), begin_lo tr pe N (by omega), begin_lo tr pe N (by omega)⟩
  · exact ⟨begin_lo tr pe N (by omega), begin_lo tr pe N (by omega), begin_lo tr pe N (by omega)⟩
theorem begin_hi (tr pe N : xN) {i : Nat} (hi : 93 ≤ i) : beginP tr pe N i = N i := by
  unfold beginP
  rw [bg3_out _ 26 (by omega) (by omega), bg2_out _ _ 8 (by omega) (by omega), bg1_out _ _ 2 (by omega) (by omega)]
theorem begin_ok (tr pe N : xN) : okN (beginP tr pe N) := by
  refine ⟨fun p hp => Or.inl (begin_9 tr pe N hp).2.1, 0, 0, (begin_0 tr pe N).1, by omega, ?_, by omega⟩
  rw [(begin_0 tr pe N).2.1, (begin_0 tr pe N).2.2]; rfl
theorem goL_0 (s : xN) (a : Nat → xN) (m : Nat) (N : xN) (hm : m ≤ 26) {g : Nat} (hg : N 0 = nI g) (h60 : g ≤ 60) : ∀ n, goL s a m N n 0 = nI (if g + n ≤ 60 then g + n else 60)
  | 0 => by rw [goL, hg, if_pos (by omega)]; rfl
  | n + 1 => by
    have ih := goL_0 s a m N hm hg h60 n
    rw [goL]
    by_cases h : g + n < 60
    · rw [if_pos (by omega)] at ih
      rw [if_pos (by rw [ih]; exact nI_lt (b := 60) h (by omega)), minP_0 s a m _ hm, ih, nI_1, if_pos (by omega)]; rfl
    · have e : (if g + n ≤ 60 then g + n else 60) = 60 := by split <;> omega
      rw [e] at ih
      rw [if_neg (by rw [ih]; decide), ih, if_neg]
      · omega
theorem goL_stop (s : xN) (a : Nat → xN) (m : Nat) (N : xN) {n : Nat} (h : ¬ goL s a m N n 0 < 60) : ∀ k, goL s a m N (n + k) = goL s a m N n
  | 0 => rfl
  | k + 1 => by
    have ih := goL_stop s a m N h k
    rw [← Nat.add_assoc, goL, ih, if_neg h]
/-- a whole day's end -/
def dayP (s : xN) (a : Nat → xN) (m : Nat) (N : xN) : xN := goL s a m (beginP (a 6) (a 8) N) 60
theorem dayP_of (s : xN) (a : Nat → xN) (m : Nat) (N : xN) (hm : m ≤ 26) {n : Nat} (h : ¬ goL s a m (beginP (a 6) (a 8) N) n 0 < 60) : goL s a m (beginP (a 6) (a 8) N) n = dayP s a m N := by
  have h60 : ¬ goL s a m (beginP (a 6) (a 8) N) 60 0 < 60 := by
    rw [goL_0 s a m _ hm (g := 0) (begin_0 _ _ _).1 (by omega), if_pos (by omega)]; decide
  have e1 := goL_stop s a m _ h 60
  have e2 := goL_stop s a m _ h60 n
  rw [Nat.add_comm] at e2
  rw [← e1, e2]; rfl
theorem c8_day (L : xLn) (s : xN) (j : Int64) (a : Nat → xN) (N : xN) (m : Nat) (hok : okD s a m) : CT L mX8_goDay 3 0 0 [.ref 0] (modN s j a N) (fun r Y => r = none ∧ Y = modN s j (va_up a 27 (cpL N 0 (a 27) 0 573)) (dayP s a m N)) := by
  have h := c8_goDay L s j a N m hok (begin_ok _ _ _)
  refine h.mono ?_
  rintro r Y ⟨h1, n, h2, h3⟩
  rw [dayP_of s a m N hok.2.1 h2] at h3
  exact ⟨h1, h3⟩

