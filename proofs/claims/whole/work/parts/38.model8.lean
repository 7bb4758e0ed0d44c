/-! ===== the reference: the rows behind the halts don't matter ===== -/
def agS (S : Nat → Prop) (N B : xN) : Prop := ∀ i, S i → N i = B i
theorem agS_upd {S : Nat → Prop} {N B : xN} (h : agS S N B) (k : Nat) {v w : Int32} (hv : v = w) : agS (fun i => S i ∨ i = k) (upd N k v) (upd B k w) := by
  intro i hi
  by_cases e : i = k
  · subst e; rw [pk_us, pk_us, hv]
  · rw [pk_un e, pk_un e]
    rcases hi with hi | hi
    · exact h i hi
    · exact absurd hi e
theorem agS_sub {S S' : Nat → Prop} {N B : xN} (h : agS S N B) (hs : ∀ i, S' i → S i) : agS S' N B := fun i hi => h i (hs i hi)
/-- two days that agree in all that counts, h halts long -/
abbrev agN (h : Nat) (N B : xN) : Prop := agS (fun i => i < 93 + 4 * h) N B
theorem ag_upd {h : Nat} {N B : xN} (hN : agN h N B) (k : Nat) {v w : Int32} (hv : v = w) : agN h (upd N k v) (upd B k w) := agS_sub (agS_upd hN k hv) (fun _ hi => Or.inl hi)
theorem plP_ag {h : Nat} {N B : xN} (hN : agN h N B) (ho : abO N) {p : Nat} (hp : p < 8) : plP N p = plP B p := by
  have e1 := hN (17 + p) (by omega)
  have e2 := hN (9 + p) (by omega)
  unfold plP
  rw [← e1, ← e2]
  rcases ho p hp with h1 | h1 | h1
  · rw [if_pos h1, if_pos h1]
  · rw [h1, if_neg (by decide), if_neg (by decide)]
    exact hN _ (show 1 + 0 < _ by omega)
  · rw [h1, if_neg (by decide), if_neg (by decide)]
    exact hN _ (show 1 + 1 < _ by omega)
theorem caP_ag {h : Nat} {N B : xN} (hN : agN h N B) (ns sp : Int32) (mo : xN) (q : Int32) : ∀ k, k ≤ 26 → caP ns sp mo N q k = caP ns sp mo B q k
  | 0, _ => rfl
  | k + 1, hk => by
    have ih := caP_ag hN ns sp mo q k (by omega)
    have e : isC ns sp mo N q k = isC ns sp mo B q k := by
      unfold isC
      rw [hN (41 + k) (by omega), hN (67 + k) (by omega), hN 0 (by omega)]
    rw [caP, caP, ih, e]
theorem feltL_ag {h : Nat} {N B : xN} (mo : xN) (hN : agN h N B) (ho : abO N) : ∀ k, k ≤ 26 → (∀ i, i < k → ∃ p, p < 8 ∧ mo (3 * i) = nI p) → agN h (feltL mo N k) (feltL mo B k)
  | 0, _, _ => hN
  | k + 1, hk, hm => by
    have ih := feltL_ag mo hN ho k (by omega) (fun i hi => hm i (by omega))
    have ab := feltL_abO mo N ho (k := k) (by omega)
    obtain ⟨p, hp, ep⟩ := hm k (by omega)
    rw [feltL, feltL, feltF, feltF, ih 0 (by omega)]
    split
    · refine ag_upd ih _ ?_
      rw [ep, nI_clamp (by omega)]
      exact plP_ag ih ab hp
    · exact ih
theorem oweL_ag {h : Nat} {N B : xN} (fo fa : Int32) (k : Nat) (hN : agN h N B) : ∀ q, q ≤ 8 → agN h (oweL fo fa k N q) (oweL fo fa k B q)
  | 0, _ => hN
  | q + 1, hq => by
    have ih := oweL_ag fo fa k hN q (by omega)
    rw [oweL, oweL]
    refine ag_upd ih _ ?_
    rw [ih (33 + q) (by omega), ih (17 + q) (by omega)]
theorem goOnP_ag {h : Nat} {N B : xN} (pl fo fa : Int32) {k : Nat} (hk : k < 2) (hN : agN h N B) : agN h (goOnP pl fo fa N k) (goOnP pl fo fa B k) := by
  refine oweL_ag fo fa k ?_ 8 (by omega)
  have e1 := hN (3 + k) (by omega)
  have e2 := hN (1 + k) (by omega)
  have e3 : wayP pl N k = wayP pl B k := by unfold wayP; rw [e1, e2]
  unfold onA
  rw [e3, e2]
  exact ag_upd (ag_upd (ag_upd hN _ rfl) _ rfl) _ rfl
theorem haltA_ag {h : Nat} {N B : xN} {k c : Nat} (hk : k < 2) (hc : c < 26) (hN : agN h N B) : agN (h + 1) (haltA N k c h) (haltA B k c h) := by
  have e1 := hN (1 + k) (by omega)
  have e0 := hN 0 (by omega)
  have e7 := hN (7 + k) (by omega)
  unfold haltA
  intro i hi
  have a1 : agS (fun i => i < 93 + 4 * h + 1) (upd N (93 + 4 * h) (nI k)) (upd B (93 + 4 * h) (nI k)) := agS_sub (agS_upd hN _ rfl) (fun i hi => by omega)
  have a2 : agS (fun i => i < 93 + 4 * h + 2) _ _ := agS_sub (agS_upd a1 (93 + 4 * h + 1) (a1 (1 + k) (by omega))) (fun i (hi : i < 93 + 4 * h + 2) => by omega)
  have a3 : agS (fun i => i < 93 + 4 * h + 3) _ _ := agS_sub (agS_upd a2 (93 + 4 * h + 2) (a2 0 (by omega))) (fun i (hi : i < 93 + 4 * h + 3) => by omega)
  have a4 : agS (fun i => i < 93 + 4 * h + 4) _ _ := agS_sub (agS_upd a3 (93 + 4 * h + 3) (rfl : nI c = nI c)) (fun i (hi : i < 93 + 4 * h + 4) => by omega)
  have a5 := agS_upd a4 (7 + k) (congrArg (· + 1) (a4 (7 + k) (by omega)))
  have a6 := agS_upd a5 (5 + k) (rfl : (1 : Int32) = 1)
  have a7 := agS_upd a6 (67 + c) (rfl : (1 : Int32) = 1)
  exact a7 i (by left; left; left; omega)
theorem offL_ag {h : Nat} {N B : xN} (fo : Int32) (pe : xN) {k : Nat} (hk : k < 2) (hN : agN h N B) : ∀ q, q ≤ 8 → agN h (offL fo pe k N q).1 (offL fo pe k B q).1 ∧ (offL fo pe k N q).2 = (offL fo pe k B q).2
  | 0, _ => ⟨hN, rfl⟩
  | q + 1, hq => by
    obtain ⟨ih, ih2⟩ := offL_ag fo pe hk hN q (by omega)
    rw [offL, offL]
    generalize offL fo pe k N q = S at ih ih2 ⊢
    generalize offL fo pe k B q = S' at ih ih2 ⊢
    have e1 := ih (17 + q) (by omega)
    have e2 := ih (1 + k) (by omega)
    have e3 := ih (9 + q) (by omega)
    unfold offS
    rw [e1, e2]
    split
    · split
      · refine ⟨?_, congrArg (· + 0) ih2⟩
        show agN h (offT S.1 k q) (offT S'.1 k q)
        have b1 := ag_upd ih (9 + q) e2
        have b2 := ag_upd b1 (25 + q) (b1 0 (by omega))
        exact ag_upd b2 (17 + q) rfl
      · refine ⟨?_, congrArg (· + 1) ih2⟩
        show agN h (offU S.1 k q) (offU S'.1 k q)
        have b1 := ag_upd ih (9 + q) e3
        have b2 := ag_upd b1 (25 + q) (rfl : (-1 : Int32) = -1)
        exact ag_upd b2 (17 + q) rfl
    · exact ⟨ih, ih2⟩
theorem onL_ag {h : Nat} {S S' : xN × Int32} (fo se : Int32) {k : Nat} (hk : k < 2) (hN : agN h S.1 S'.1 ∧ S.2 = S'.2) : ∀ q, q ≤ 8 → agN h (onL fo se k S q).1 (onL fo se k S' q).1 ∧ (onL fo se k S q).2 = (onL fo se k S' q).2
  | 0, _ => hN
  | q + 1, hq => by
    obtain ⟨ih, ih2⟩ := onL_ag fo se hk hN q (by omega)
    rw [onL, onL]
    generalize onL fo se k S q = T at ih ih2 ⊢
    generalize onL fo se k S' q = T' at ih ih2 ⊢
    unfold onS
    rw [ih (17 + q) (by omega), ih (25 + q) (by omega), ih (9 + q) (by omega), ih (1 + k) (by omega), ih2]
    split
    · exact ⟨ag_upd ih _ rfl, rfl⟩
    · exact ⟨ih, ih2⟩
theorem haltP_ag {h : Nat} {N B : xN} (fo se : Int32) (pe : xN) {k c : Nat} (hk : k < 2) (hc : c < 26) (hN : agN h N B) : agN (h + 1) (haltP fo se pe N k c h) (haltP fo se pe B k c h) :=
  (onL_ag fo se hk (offL_ag fo pe hk (haltA_ag hk hc hN) 8 (by omega)) 8 (by omega)).1
theorem tramF_ag {h : Nat} {N B : xN} (s : xN) (a : Nat → xN) {m k : Nat} (hk : k < 2) (hm : m ≤ 26) (hN : agN h N B) (hh : N 7 + N 8 = nI h) (h120 : h < 120) : ∃ h', h ≤ h' ∧ h' ≤ h + 1 ∧ tramF s a m N k 7 + tramF s a m N k 8 = nI h' ∧ agN h' (tramF s a m N k) (tramF s a m B k) := by
  have hB : B 7 + B 8 = nI h := by rw [← hN 7 (by omega), ← hN 8 (by omega)]; exact hh
  unfold tramF
  rw [hN 0 (by omega), hN (5 + k) (by omega), hN (1 + k) (by omega), caP_ag hN (s 30) (s 31) (a 10) (B (1 + k)) m hm, hB, hh, nI_clamp (by omega)]
  split
  · split
    · refine ⟨h, by omega, by omega, ?_, goOnP_ag _ _ _ hk hN⟩
      rw [goOnP_out _ _ _ _ hk (by omega), goOnP_out _ _ _ _ hk (by omega)]; exact hh
    · next hne =>
      rcases caP_in (s 30) (s 31) (a 10) B (B (1 + k)) m with h1 | ⟨c, h1, h2⟩
      · exact absurd (Or.inr h1) hne
      · refine ⟨h + 1, by omega, by omega, ?_, ?_⟩
        · rw [haltP_7 _ _ _ _ hk, hh, nI_1]
        · rw [h2, nI_clamp (by omega)]
          exact haltP_ag _ _ _ hk (by omega) hN
  · exact ⟨h, by omega, by omega, hh, hN⟩
theorem minP_ag {h : Nat} {N B : xN} (s : xN) (a : Nat → xN) {m : Nat} (hok : m ≤ 26 ∧ ∀ k, k < m → ∃ p, p < 8 ∧ a 10 (3 * k) = nI p) (ho : abO N) (hN : agN h N B) (hh : N 7 + N 8 = nI h) (h120 : h + 1 < 120) : ∃ h', h ≤ h' ∧ h' ≤ h + 2 ∧ minP s a m N 7 + minP s a m N 8 = nI h' ∧ agN h' (minP s a m N) (minP s a m B) := by
  have f1 := feltL_ag (a 10) hN ho m hok.1 hok.2
  have e7 : feltL (a 10) N m 7 + feltL (a 10) N m 8 = nI h := by rw [feltL_out _ _ (by omega) m hok.1, feltL_out _ _ (by omega) m hok.1]; exact hh
  obtain ⟨h1, p1, p2, p3, p4⟩ := tramF_ag s a (k := 0) (by omega) hok.1 f1 e7 (by omega)
  obtain ⟨h2, q1, q2, q3, q4⟩ := tramF_ag s a (k := 1) (by omega) hok.1 p4 p3 (by omega)
  refine ⟨h2, by omega, by omega, ?_, ?_⟩
  · rw [minP, pk_un (by omega), pk_un (by omega)]; exact q3
  · unfold minP
    exact ag_upd q4 0 (congrArg (· + 1) (q4 0 (by omega)))
theorem goL_ag {N B : xN} (s : xN) (a : Nat → xN) {m : Nat} (hok : m ≤ 26 ∧ ∀ k, k < m → ∃ p, p < 8 ∧ a 10 (3 * k) = nI p) (hN : agN 0 N B) (h0 : okN N) (hh : N 7 + N 8 = nI 0) : ∀ n, ∃ h, goL s a m N n 7 + goL s a m N n 8 = nI h ∧ h ≤ 120 ∧ agN h (goL s a m N n) (goL s a m B n)
  | 0 => ⟨0, hh, by omega, hN⟩
  | n + 1 => by
    obtain ⟨h, i1, i2, i3⟩ := goL_ag s a hok hN h0 hh n
    have okn := goL_ok s a m N hok.1 h0 n
    rw [goL, goL, ← i3 0 (by omega)]
    split
    · next hl =>
      obtain ⟨ab, g, h', e1, e2, e3, e4⟩ := okn
      have hg : g < 60 := by
        rw [e1, i32_lt, nI_toInt (by omega)] at hl
        have : (60 : Int32).toInt = 60 := rfl
        omega
      have hhe : h = h' := (nI_eq (by omega) (by omega)).mp (i1.symm.trans e3)
      obtain ⟨h2, j1, j2, j3, j4⟩ := minP_ag s a hok ab i3 i1 (by omega)
      exact ⟨h2, j3, by omega, j4⟩
    · exact ⟨h, i1, i2, i3⟩
/-- a whole day, whatever stood in the rows before -/
def dq (s : xN) (a : Nat → xN) (m : Nat) : xN := dayP s a m (fun _ => 0)
theorem begin_ag (tr pe N B : xN) : agN 0 (beginP tr pe N) (beginP tr pe B) := by
  intro i hi
  rcases (show i < 9 ∨ (9 ≤ i ∧ i < 17) ∨ (17 ≤ i ∧ i < 25) ∨ (25 ≤ i ∧ i < 33) ∨ (33 ≤ i ∧ i < 41) ∨ (41 ≤ i ∧ i < 67) ∨ (67 ≤ i ∧ i < 93) by omega) with h | h | h | h | h | h | h
  · rw [begin_lo _ _ _ h, begin_lo _ _ _ h]
    have : ∀ (N : xN) (i : Nat), i < 9 → bg1 tr N 2 i = bg1 tr (fun _ => 0) 2 i := by
      intro N i hi
      rcases (show i = 0 ∨ i = 1 ∨ i = 2 ∨ i = 3 ∨ i = 4 ∨ i = 5 ∨ i = 6 ∨ i = 7 ∨ i = 8 by omega) with rfl | rfl | rfl | rfl | rfl | rfl | rfl | rfl | rfl <;> rfl
    rw [this N i h, this B i h]
  · obtain ⟨p, rfl⟩ : ∃ p, i = 9 + p := ⟨i - 9, by omega⟩
    rw [(begin_9 tr pe N (by omega)).1, (begin_9 tr pe B (by omega)).1]
  · obtain ⟨p, rfl⟩ : ∃ p, i = 17 + p := ⟨i - 17, by omega⟩
    rw [(begin_9 tr pe N (by omega)).2.1, (begin_9 tr pe B (by omega)).2.1]
  · obtain ⟨p, rfl⟩ : ∃ p, i = 25 + p := ⟨i - 25, by omega⟩
    rw [(begin_9 tr pe N (by omega)).2.2.1, (begin_9 tr pe B (by omega)).2.2.1]
  · obtain ⟨p, rfl⟩ : ∃ p, i = 33 + p := ⟨i - 33, by omega⟩
    rw [(begin_9 tr pe N (by omega)).2.2.2, (begin_9 tr pe B (by omega)).2.2.2]
  · obtain ⟨p, rfl⟩ : ∃ p, i = 41 + p := ⟨i - 41, by omega⟩
    rw [(begin_41 tr pe N (by omega)).1, (begin_41 tr pe B (by omega)).1]
  · obtain ⟨p, rfl⟩ : ∃ p, i = 67 + p := ⟨i - 67, by omega⟩
    rw [(begin_41 tr pe N (by omega)).2, (begin_41 tr pe B (by omega)).2]
/-- N is the day's end in all that counts -/
def isDay (s : xN) (a : Nat → xN) (m : Nat) (N : xN) : Prop := okN N ∧ ∃ h, N 7 + N 8 = nI h ∧ h ≤ 120 ∧ agN h N (dq s a m)
theorem dayP_is (s : xN) (a : Nat → xN) (m : Nat) (N : xN) (hok : okD s a m) : isDay s a m (dayP s a m N) := by
  have h0 : beginP (a 6) (a 8) N 7 + beginP (a 6) (a 8) N 8 = nI 0 := by rw [(begin_0 _ _ _).2.1, (begin_0 _ _ _).2.2]; rfl
  have h1 := goL_ag s a (m := m) ⟨hok.2.1, hok.2.2⟩ (begin_ag (a 6) (a 8) N (fun _ => 0)) (begin_ok _ _ _) h0
  have h2 := goL_ok s a m _ hok.2.1 (begin_ok (a 6) (a 8) N)
  generalize hk : 60 = k at *
  unfold isDay dq dayP
  rw [hk]
  exact ⟨h2 k, h1 k⟩
