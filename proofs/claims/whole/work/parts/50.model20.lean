/-! ===== the reference: who is home last ===== -/
def hmO (N : xN) : Prop := ∀ q, q < 8 → N (25 + q) = -1 ∨ ∃ t, t < 60 ∧ N (25 + q) = nI t
theorem hmO_of {N B : xN} (h : hmO N) (e : ∀ i, 25 ≤ i → i < 33 → B i = N i) : hmO B := fun p hp => by
  rw [e (25 + p) (by omega) (by omega)]; exact h p hp
theorem offL_hmO (fo : Int32) (pe : xN) {k : Nat} (hk : k < 2) (N : xN) (h : hmO N) {g : Nat} (hg : N 0 = nI g) (h60 : g < 60) : ∀ q, q ≤ 8 → hmO (offL fo pe k N q).1
  | 0, _ => h
  | q + 1, hq => by
    have ih := offL_hmO fo pe hk N h hg h60 q (by omega)
    have e0 := offL_out fo pe (k := k) N (i := 0) (by omega) q (by omega)
    rw [offL]
    generalize offL fo pe k N q = S at ih e0 ⊢
    intro p hp
    by_cases e : p = q
    · subst e
      unfold offS
      split
      · split
        · right
          refine ⟨g, h60, ?_⟩
          show offT S.1 k p (25 + p) = nI g
          unfold offT; (try dsimp only); rw [pk_un (by omega), pk_us, pk_un (by omega), e0, hg]
        · left
          show offU S.1 k p (25 + p) = -1
          unfold offU; (try dsimp only); rw [pk_un (by omega), pk_us]
      · exact ih p hp
    · have e2 : (offS fo pe k q S).1 (25 + p) = S.1 (25 + p) := by
        unfold offS
        split
        · split
          · show offT S.1 k q (25 + p) = _
            unfold offT; (try dsimp only); rw [pk_un (by omega), pk_un (by omega), pk_un (by omega)]
          · show offU S.1 k q (25 + p) = _
            unfold offU; (try dsimp only); rw [pk_un (by omega), pk_un (by omega), pk_un (by omega)]
        · rfl
      rw [e2]; exact ih p hp
theorem tramF_hmO (s : xN) (a : Nat → xN) (m : Nat) (N : xN) {k : Nat} (hk : k < 2) (h : hmO N) {g : Nat} (hg : N 0 = nI g) (h60 : g < 60) (hm : m ≤ 26) : hmO (tramF s a m N k) := by
  unfold tramF
  split
  · split
    · exact hmO_of h (fun i h1 h2 => goOnP_out _ _ _ _ hk (by omega))
    · next hne =>
      rcases caP_in (s 30) (s 31) (a 10) N (N (1 + k)) m with h1 | ⟨c, h1, h2⟩
      · exact absurd (Or.inr h1) hne
      rw [h2, nI_clamp (by omega)]
      generalize (N 7 + N 8).toNatClampNeg = hh
      unfold haltP
      have eA : ∀ i, 25 ≤ i → i < 33 → haltA N k c hh i = N i := fun i h1 h2 => haltA_out N (by omega)
      have e0 : haltA N k c hh 0 = N 0 := haltA_out N (by omega)
      exact hmO_of (offL_hmO (s 7) (a 8) hk _ (hmO_of h eA) (e0.trans hg) h60 8 (by omega)) (fun i h1 h2 => onL_out _ _ _ (by omega) 8 (by omega))
  · exact h
theorem minP_hmO (s : xN) (a : Nat → xN) (m : Nat) (N : xN) (h : hmO N) {g : Nat} (hg : N 0 = nI g) (h60 : g < 60) (hm : m ≤ 26) : hmO (minP s a m N) := by
  have e0 : feltL (a 10) N m 0 = nI g := (feltL_out _ _ (by omega) m hm).trans hg
  have h1 := tramF_hmO s a m (feltL (a 10) N m) (k := 0) (by omega) (hmO_of h (fun i h1 h2 => feltL_out _ _ (by omega) m hm)) e0 h60 hm
  have e1 : tramF s a m (feltL (a 10) N m) 0 0 = nI g := (tramF_out s a m _ (by omega) (by omega)).trans e0
  have h2 := tramF_hmO s a m _ (k := 1) (by omega) h1 e1 h60 hm
  exact hmO_of h2 (fun i h1 h2 => by rw [minP, pk_un (by omega)])
theorem goL_hmO (s : xN) (a : Nat → xN) (m : Nat) (N : xN) (h : hmO N) (hN : okN N) (hm : m ≤ 26) : ∀ n, hmO (goL s a m N n)
  | 0 => h
  | n + 1 => by
    have ih := goL_hmO s a m N h hN hm n
    obtain ⟨-, g, h', e1, e2, e3, e4⟩ := goL_ok s a m N hm hN n
    rw [goL]
    split
    · next hl =>
      have hg : g < 60 := by
        rw [e1, i32_lt, nI_toInt (by omega)] at hl
        have : (60 : Int32).toInt = 60 := rfl
        omega
      exact minP_hmO s a m _ ih e1 hg hm
    · exact ih
theorem begin_hmO (tr pe N : xN) : hmO (beginP tr pe N) := fun q hq => Or.inl (begin_9 tr pe N hq).2.2.1
theorem dq_hmO (s : xN) (a : Nat → xN) (m : Nat) (hm : m ≤ 26) : hmO (dq s a m) := by
  have h := goL_hmO s a m _ (begin_hmO (a 6) (a 8) (fun _ => 0)) (begin_ok _ _ _) hm
  generalize hk : 60 = k at *
  unfold dq dayP
  rw [hk]
  exact h k
theorem late_nI {N : xN} (h : hmO N) {q : Nat} (hq : q < 8) : ∃ t, t ≤ 60 ∧ lateP N q = nI t := by
  unfold lateP
  rcases h q hq with h1 | ⟨t, h1, h2⟩
  · exact ⟨60, by omega, by rw [if_pos h1]; rfl⟩
  · refine ⟨t, by omega, ?_⟩
    rw [h2, if_neg]
    intro h3
    have := i32_eq.mp h3
    rw [nI_toInt (by omega)] at this
    have : (-1 : Int32).toInt = -1 := rfl
    omega
/-- the minute as a number -/
def lateN (N : xN) (q : Nat) : Nat := (lateP N q).toNatClampNeg
theorem lateN_is {N : xN} (h : hmO N) {q : Nat} (hq : q < 8) : lateP N q = nI (lateN N q) ∧ lateN N q ≤ 60 := by
  obtain ⟨t, h1, h2⟩ := late_nI h hq
  unfold lateN
  rw [h2, nI_clamp (by omega)]
  exact ⟨rfl, h1⟩
def la1 (fo : Int32) (pe : xN) (lt : Nat → Nat) (p : Nat) : Nat → Nat
  | 0 => 0
  | q + 1 => la1 fo pe lt p q + (if hasP fo (nI q) = true ∧ pe (2 * q) = nI p then lt q else 0)
theorem la1_le (fo : Int32) (pe : xN) {lt : Nat → Nat} {b : Nat} (h : ∀ q, q < 8 → lt q ≤ b) (p : Nat) : ∀ q, q ≤ 8 → la1 fo pe lt p q ≤ b * q
  | 0, _ => Nat.le_refl _
  | q + 1, hq => by
    have := la1_le fo pe h p q (by omega)
    have := h q (by omega)
    rw [la1, Nat.mul_add]
    split <;> omega
def laS (fo : Int32) (pe : xN) (lt : Nat → Nat) : Nat → Int32 × Nat × Nat
  | 0 => (-1, 0, 1)
  | p + 1 => if 0 < la1 fo pe (fun _ => 1) p 8 ∧ ((laS fo pe lt p).1 = -1 ∨ (laS fo pe lt p).2.1 * la1 fo pe (fun _ => 1) p 8 < la1 fo pe lt p 8 * (laS fo pe lt p).2.2) then (nI p, la1 fo pe lt p 8, la1 fo pe (fun _ => 1) p 8) else laS fo pe lt p
theorem laS_le (fo : Int32) (pe : xN) {lt : Nat → Nat} (h : ∀ q, q < 8 → lt q ≤ 60) : ∀ p, (laS fo pe lt p).2.1 ≤ 480 ∧ 1 ≤ (laS fo pe lt p).2.2 ∧ (laS fo pe lt p).2.2 ≤ 8
  | 0 => ⟨Nat.zero_le _, Nat.le_refl _, (by decide : 1 ≤ 8)⟩
  | p + 1 => by
    have ih := laS_le fo pe h p
    have h1 := la1_le fo pe h p 8 (by omega)
    have h2 := la1_le fo pe (lt := fun _ => 1) (b := 1) (fun _ _ => Nat.le_refl _) p 8 (by omega)
    rw [laS]
    split
    · next hc => exact ⟨h1, hc.1, h2⟩
    · exact ih
def lasA (S : Int32 × Nat × Nat) (w : Int32) : Int32 := if S.1 = -1 ∨ w = 0 then S.1 else nI ((if w = 1 then S.2.1 else S.2.2) / gcL (S.2.2 + 1) S.2.1 S.2.2)
def lasR (s : xN) (a : Nat → xN) (m : Nat) (w : Int32) : Int32 := if inP w 0 2 = true then lasA (laS (s 7) (a 8) (lateN (dq (toldP s) a m)) (s 0).toNatClampNeg) w else -3
set_option maxHeartbeats 400000 in
/-- the sum over those told of one place -/
theorem c8_la_in (L : xLn) (Q : Option Value → List xE → Prop) (s : xN) (j : Int64) (a : Nat → xN) (N : xN) (n0 p ab be : Nat) (w pl : Int32) (lt : Nat → Nat) (hl : ∀ q, q < 8 → lateP N q = nI (lt q)) (g1 g2 : Nat → Nat)
    (h1 : ∀ q, g1 (q + 1) = g1 q + (if hasP (s 7) (nI q) = true ∧ a 8 (2 * q) = nI p then lt q else 0)) (h2 : ∀ q, g2 (q + 1) = g2 q + (if hasP (s 7) (nI q) = true ∧ a 8 (2 * q) = nI p then 1 else 0))
    (nxt : ∀ x9, x9 = none ∨ (∃ v, x9 = some (.int v)) → AJ L mX8_last 4 0 0 Q n0 (0, 0) 129 [some (.ref 0), some (.int w), some (.int pl), some (.int (nI ab)), some (.int (nI be)), some (.int (nI p)), some (.int (nI (g1 8))), some (.int (nI (g2 8))), some (.int (nI 8)), x9] [] (modN s j a N)) :
    ∀ (n q : Nat) (x9 : Option Value), q + n = 8 → (x9 = none ∨ ∃ v, x9 = some (.int v)) → AJ L mX8_last 4 0 0 Q n0 (0, 0) 48 [some (.ref 0), some (.int w), some (.int pl), some (.int (nI ab)), some (.int (nI be)), some (.int (nI p)), some (.int (nI (g1 q))), some (.int (nI (g2 q))), some (.int (nI q)), x9] [] (modN s j a N) := by
  intro n
  induction n with
  | zero =>
    intro q x9 hq hx
    obtain rfl : q = 8 := by omega
    have nx := nxt x9 hx
    exact AJ.run kX8_last [48, 129] 60 ⟨fun _ => nx, fun hz => absurd (by decide) hz⟩
  | succ n ih =>
    intro q x9 hq hx
    have h3 := fun v => ih (q + 1) (some (.int v)) (by omega) (Or.inr ⟨v, rfl⟩)
    rw [nI_succ, h1 q, h2 q] at h3
    have wf : xwf (modN s j a N) [some (.ref 0), some (.int w), some (.int pl), some (.int (nI ab)), some (.int (nI be)), some (.int (nI p)), some (.int (nI (g1 q))), some (.int (nI (g2 q))), some (.int (nI q)), x9] [] = true := by
      rcases hx with rfl | ⟨v, rfl⟩ <;> rfl
    have yes : hasP (s 7) (nI q) = true ∧ a 8 (2 * q) = nI p → AJ L mX8_last 4 0 0 Q n0 (0, 0) 86 [some (.ref 0), some (.int w), some (.int pl), some (.int (nI ab)), some (.int (nI be)), some (.int (nI p)), some (.int (nI (g1 q))), some (.int (nI (g2 q))), some (.int (nI q)), x9] [.int 1] (modN s j a N) := by
      intro hc
      have h4 := h3 1
      rw [if_pos hc, if_pos hc, ← nI_add, ← nI_add] at h4
      refine AJ.run kX8_last [98] 60 ⟨fun hz => absurd hz (by decide), fun _ => ?_⟩
      refine AJ.callF kX8_last (c8_late L s j a N q (by omega)) bX8_late rfl (by decide +kernel) [.int (nI (g1 q))] rfl rfl rfl rfl rfl rfl rfl rfl ?_
      rintro r Y ⟨rfl, rfl⟩
      have ev : (if N (25 + q) = -1 then 60 else N (25 + q)) = nI (lt q) := hl q (by omega)
      rw [ev]
      exact ⟨rfl, rfl, AJ.run kX8_last [48] 60 ⟨fun hz => absurd hz (by decide), fun _ => h4⟩⟩
    have no : ¬ (hasP (s 7) (nI q) = true ∧ a 8 (2 * q) = nI p) → AJ L mX8_last 4 0 0 Q n0 (0, 0) 86 [some (.ref 0), some (.int w), some (.int pl), some (.int (nI ab)), some (.int (nI be)), some (.int (nI p)), some (.int (nI (g1 q))), some (.int (nI (g2 q))), some (.int (nI q)), x9] [.int 0] (modN s j a N) := by
      intro hc
      have h4 := h3 0
      rw [if_neg hc, if_neg hc, ← nI_add, ← nI_add] at h4
      exact AJ.run kX8_last [48] 60 ⟨fun _ => ⟨fun _ => h4, fun hz => absurd rfl hz⟩, fun hz => absurd rfl hz⟩
    refine AJ.run kX8_last [61] 60 ⟨fun hz => absurd hz (nI_ge (b := 8) (by omega) (by omega)), fun _ => ?_⟩
    refine AJ.callZ kX8_last (c8_has L (s 7) (nI q)) bX8_has rfl (by decide +kernel) [] rfl rfl wf rfl rfl ?_
    rintro r rfl
    refine AJ.run kX8_last [86] 60 ⟨fun h5 => no ?_, fun h5 => ⟨2 * q, by simp only [fa_lit, pk_mul], by omega, fun h6 => no ?_, fun h6 => yes ?_⟩⟩
    · rw [bI_eq0] at h5
      rw [h5]; simp
    · have h6 : ¬ a 8 (2 * q) = nI p := h6
      exact fun hz => h6 hz.2
    · rw [bI_ne0] at h5
      exact ⟨h5, h6⟩
