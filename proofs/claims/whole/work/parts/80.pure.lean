/-! ===== a day: rows stay, who is home stays, moods to come don't matter ===== -/
/-- from N to B: rows of halts stay, and those behind them are of a minute from g on; who is home stays, who comes home does so from g on -/
def GO (g : Nat) (N B : xN) : Prop :=
  (∃ h h', N 7 + N 8 = nI h ∧ B 7 + B 8 = nI h' ∧ h ≤ h' ∧ h' ≤ 26 ∧ (∀ i, i < h → ∀ j, j < 4 → B (93 + 4 * i + j) = N (93 + 4 * i + j)) ∧ ∀ i, h ≤ i → i < h' → ∃ t, g ≤ t ∧ t < 60 ∧ B (93 + 4 * i + 2) = nI t) ∧
  ∀ q, q < 8 → (¬ N (25 + q) = -1 → B (25 + q) = N (25 + q)) ∧ (N (25 + q) = -1 → B (25 + q) = -1 ∨ ∃ t, g ≤ t ∧ t < 60 ∧ B (25 + q) = nI t)
theorem GO.tr {g g' : Nat} {N B C : xN} (h1 : GO g N B) (h2 : GO g' B C) (hg : g ≤ g') : GO g N C := by
  obtain ⟨⟨h, h', a1, a2, a3, a4, a5, a6⟩, b1⟩ := h1
  obtain ⟨⟨k, k', c1, c2, c3, c4, c5, c6⟩, d1⟩ := h2
  have e : h' = k := by
    rw [a2] at c1
    exact (nI_eq (by omega) (by omega)).mp c1
  subst e
  refine ⟨⟨h, k', a1, c2, by omega, c4, fun i hi j hj => (c5 i (by omega) j hj).trans (a5 i hi j hj), fun i h1 h2 => ?_⟩, fun q hq => ⟨fun z => ?_, fun z => ?_⟩⟩
  · by_cases z : i < h'
    · obtain ⟨t, t1, t2, t3⟩ := a6 i h1 z
      exact ⟨t, t1, t2, (c5 i z 2 (by omega)).trans t3⟩
    · obtain ⟨t, t1, t2, t3⟩ := c6 i (by omega) h2
      exact ⟨t, by omega, t2, t3⟩
  · have e1 := (b1 q hq).1 z
    rw [(d1 q hq).1 (by rw [e1]; exact z), e1]
  · rcases (b1 q hq).2 z with e1 | ⟨t, t1, t2, t3⟩
    · rcases (d1 q hq).2 e1 with e2 | ⟨t, t1, t2, t3⟩
      · exact Or.inl e2
      · exact Or.inr ⟨t, by omega, t2, t3⟩
    · refine Or.inr ⟨t, t1, t2, ?_⟩
      rw [(d1 q hq).1 (by rw [t3]; exact nI_m1 (by omega)), t3]
theorem IVh.b {m e : Nat} {N : xN} (hm : m ≤ 26) (h : IVh m e N) : ∃ h, N 7 + N 8 = nI h ∧ h ≤ 26 := by
  obtain ⟨h, h1, h2, -⟩ := h
  exact ⟨h, h1, by rw [h2]; exact Nat.le_trans (cntB_le _ _) hm⟩
theorem GO.same {g m e : Nat} {N B : xN} (hm : m ≤ 26) (hI : IVh m e N) (h : ∀ i, (i = 7 ∨ i = 8 ∨ (25 ≤ i ∧ i < 33) ∨ 93 ≤ i) → B i = N i) : GO g N B := by
  obtain ⟨k, k1, k2⟩ := hI.b hm
  refine ⟨⟨k, k, k1, by rw [h 7 (by omega), h 8 (by omega)]; exact k1, Nat.le_refl _, k2, fun i hi j hj => h _ (by omega), fun i h1 h2 => by omega⟩, fun q hq => ?_⟩
  rw [h (25 + q) (by omega)]
  exact ⟨fun _ => rfl, fun z => Or.inl z⟩
theorem offL_25 {e g k : Nat} {s : xN} {a : Nat → xN} {N : xN} (hk : k < 2) (h0 : N 0 = nI g) (hg : g < e) (h60 : g < 60) (h5 : hasP (s 5) (nI k) = true) (h : IVp e s a N) {q : Nat} (hq : q < 8) : ∀ n, n ≤ 8 → (¬ N (25 + q) = -1 → (offL (s 7) (a 8) k N n).1 (25 + q) = N (25 + q)) ∧ (N (25 + q) = -1 → (offL (s 7) (a 8) k N n).1 (25 + q) = -1 ∨ (offL (s 7) (a 8) k N n).1 (25 + q) = nI g)
  | 0, _ => ⟨fun _ => rfl, fun z => Or.inl z⟩
  | n + 1, hn => by
    have ih := offL_25 hk h0 hg h60 h5 h hq n (by omega)
    have hI := IVp_offL hk h0 hg h60 h5 h n (by omega)
    have o0 := offL_out (s 7) (a 8) (k := k) N (i := 0) (by omega) n (by omega)
    rw [offL]
    generalize offL (s 7) (a 8) k N n = S at ih hI o0 ⊢
    unfold offS
    split
    · next hc =>
      by_cases e1 : n = q
      · subst e1
        have h25 := (hI.fo hk (by omega) hc.2).2
        have hN : N (25 + n) = -1 := by
          by_cases z : N (25 + n) = -1
          · exact z
          · rw [ih.1 z] at h25; exact h25
        refine ⟨fun z => absurd hN z, fun _ => ?_⟩
        split
        · dsimp only; rw [(offT_9 hk (by omega)).2.1, o0, h0]; exact Or.inr rfl
        · dsimp only; rw [(offU_9 (by omega)).2.1]; exact Or.inl rfl
      · split
        · dsimp only; rw [offT_un (by omega)]; exact ih
        · dsimp only; rw [offU_un (by omega)]; exact ih
    · exact ih
theorem GO_trX {l m sp g k : Nat} {s : xN} {a : Nat → xN} {N : xN} (hk : k < 2) (hW : WD l m sp s a) (h60 : g < 60) (h5 : hasP (s 5) (nI k) = true) (h : ID l m g (g + 1) s a N) : GO g N (trX s a m N k) := by
  have hm := hW.2.1
  have hl := hW.1.2.1
  have hafter := (ID_trX hk hW h60 h5 h).2.2.2.b hm
  unfold trX at hafter ⊢
  split
  · exact GO.same hm h.2.2.2 (fun i hi => goOnP_out _ _ _ _ hk (by omega))
  · next hc =>
    rw [if_neg hc] at hafter
    rcases caP_in (s 30) (s 31) (a 10) N (N (1 + k)) m with z | ⟨c, c1, c2⟩
    · exact absurd (Or.inr z) hc
    obtain ⟨u1, u2⟩ := caP_un m c c2 (by omega) hm
    obtain ⟨hh, e1, hb⟩ := h.2.2.2.b hm
    obtain ⟨v, hv, ev⟩ := (h.1.2 k hk).1 h5
    rw [c2, e1, nI_clamp (by omega), nI_clamp (by omega)] at hafter ⊢
    have hA := ID_haltA (c := c) (h := hh) hk hm hl c1 u1 (by rw [u2, ev]; exact nI_m1 (by omega)) e1 (by omega) h
    unfold haltP at hafter ⊢
    have g0 : haltA N k c hh 0 = nI g := hA.1.1.1
    have lo : ∀ i, i < 9 ∨ 33 ≤ i → (onL (s 7) (s 3) k (offL (s 7) (a 8) k (haltA N k c hh) 8) 8).1 i = haltA N k c hh i := fun i hi => (onL_out (s 7) (s 3) _ (by omega) 8 (by omega)).trans (offL_out (s 7) (a 8) _ hi 8 (by omega))
    have l25 : ∀ q, q < 8 → (onL (s 7) (s 3) k (offL (s 7) (a 8) k (haltA N k c hh) 8) 8).1 (25 + q) = (offL (s 7) (a 8) k (haltA N k c hh) 8).1 (25 + q) := fun q hq => onL_out (s 7) (s 3) _ (by omega) 8 (by omega)
    have o25 := fun q hq => offL_25 hk g0 (show g < g + 1 by omega) h60 h5 hA.2.1 (q := q) hq 8 (by omega)
    generalize (onL (s 7) (s 3) k (offL (s 7) (a 8) k (haltA N k c hh) 8) 8).1 = B at hafter lo l25 ⊢
    generalize (offL (s 7) (a 8) k (haltA N k c hh) 8).1 = C at l25 o25
    obtain ⟨h', b1, b2⟩ := hafter
    have e7 : B 7 + B 8 = nI (hh + 1) := by rw [lo 7 (by omega), lo 8 (by omega), haltA_hm N hk (by omega), e1, nI_1]
    obtain rfl : h' = hh + 1 := by
      rw [e7] at b1
      exact ((nI_eq (by omega) (by omega)).mp b1).symm
    obtain ⟨r1, r2, r3, r4⟩ := haltA_row N (h := hh) hk (show c < 26 by omega)
    refine ⟨⟨hh, hh + 1, e1, e7, by omega, b2, fun i hi j hj => ?_, fun i h1 h2 => ⟨g, Nat.le_refl _, h60, ?_⟩⟩, fun q hq => ?_⟩
    · rw [lo _ (by omega), haltA_out N (by omega)]
    · obtain rfl : i = hh := by omega
      rw [lo _ (by omega), r3]; exact h.1.1.1
    · have := o25 q hq
      rw [haltA_out N (by omega)] at this
      rw [l25 q hq]
      refine ⟨this.1, fun z => ?_⟩
      rcases this.2 z with y | y
      · exact Or.inl y
      · exact Or.inr ⟨g, Nat.le_refl _, h60, y⟩
theorem GO_tramF {l m sp g k : Nat} {s : xN} {a : Nat → xN} {N : xN} (hk : k < 2) (hW : WD l m sp s a) (h60 : g < 60) (h : ID l m g (g + 1) s a N) : GO g N (tramF s a m N k) := by
  rw [tramF_eq]
  split
  · next hc => exact GO_trX hk hW h60 hc.1 h
  · exact GO.same hW.2.1 h.2.2.2 (fun _ _ => rfl)
theorem GO_min {l m sp g : Nat} {s : xN} {a : Nat → xN} {N : xN} (hW : WD l m sp s a) (h60 : g < 60) (h : ID l m g g s a N) : GO g N (minP s a m N) := by
  have hm := hW.2.1
  have I1 := ID_felt hW h60 h
  have I2 := ID_tramF (k := 0) (by omega) hW h60 I1
  have I3 := ID_tramF (k := 1) (by omega) hW h60 I2
  have g1 : GO g N (feltL (a 10) N m) := GO.same hm h.2.2.2 (fun i hi => feltL_out (a 10) N (by omega) m hm)
  have g2 := g1.tr (GO_tramF (k := 0) (by omega) hW h60 I1) (Nat.le_refl _)
  have g3 := g2.tr (GO_tramF (k := 1) (by omega) hW h60 I2) (Nat.le_refl _)
  unfold minP
  exact g3.tr (GO.same hm I3.2.2.2 (fun i hi => pk_un (by omega))) (Nat.le_refl _)
theorem GO_goL {l m sp g : Nat} {s : xN} {a : Nat → xN} {N : xN} (hW : WD l m sp s a) (h : ID l m g g s a N) {j : Nat} : ∀ n, g + (j + n) ≤ 60 → GO (g + j) (goL s a m N j) (goL s a m N (j + n))
  | 0, hn => GO.same hW.2.1 (ID_goL hW h j (by omega)).2.2.2 (fun _ _ => rfl)
  | n + 1, hn => by
    have ih := GO_goL hW h (j := j) n (by omega)
    have I := ID_goL hW h (j + n) (by omega)
    rw [← Nat.add_assoc j n 1, goL_step hW h (n := j + n) (by omega)]
    exact ih.tr (GO_min hW (by omega) I) (by omega)
/-! ===== what was seen, by a day that is not yet at its end ===== -/
theorem seenO_any (N sn : xN) (k : Nat) : ∀ h, seenO N sn k h = anyB (fun i => decide (N (93 + 4 * i + 1) = sn (2 * k)) && decide (N (93 + 4 * i + 2) = sn (2 * k + 1))) h
  | 0 => rfl
  | h + 1 => by rw [seenO, anyB, seenO_any N sn k h]
theorem anyB_add {P : Nat → Bool} {h : Nat} : ∀ n, (∀ i, h ≤ i → i < h + n → P i = false) → anyB P (h + n) = anyB P h
  | 0, _ => rfl
  | n + 1, hn => by
    rw [← Nat.add_assoc, anyB, anyB_add n (fun i h1 h2 => hn i h1 (by omega)), hn (h + n) (by omega) (by omega), Bool.or_false]
theorem seenO_GO {g : Nat} {N B sn : xN} (hG : GO g N B) {k t : Nat} (ht : sn (2 * k + 1) = nI t) (htg : t < g) (h60 : t < 60) : seenO B sn k (hmP B) = seenO N sn k (hmP N) := by
  obtain ⟨⟨h, h', a1, a2, a3, a4, a5, a6⟩, -⟩ := hG
  rw [hm_nI a1 (by omega), hm_nI a2 (by omega), seenO_any, seenO_any]
  obtain ⟨n, rfl⟩ := Nat.exists_eq_add_of_le a3
  rw [anyB_add]
  · refine anyB_congr h (fun i hi => ?_)
    rw [a5 i hi 1 (by omega), a5 i hi 2 (by omega)]
  · intro i h1 h2
    obtain ⟨u, u1, u2, u3⟩ := a6 i h1 h2
    have : ¬ nI u = nI t := by rw [nI_eq (by omega) (by omega)]; omega
    rw [u3, ht]
    simp [this]
/-! ===== who is home when ===== -/
theorem hom_at {l m sp : Nat} {s : xN} {a : Nat → xN} {N : xN} (hW : WD l m sp s a) (h : ID l m 0 0 s a N) {q : Nat} (hq : q < 8) (h25 : N (25 + q) = -1) : ∃ V, V ≤ 60 ∧ lateP (goL s a m N 60) q = nI V ∧ ∀ n, n ≤ 60 → goL s a m N n (25 + q) = if V < n then nI V else -1 := by
  have key : ∀ n, n ≤ 60 → (∀ j, j ≤ n → goL s a m N j (25 + q) = -1) ∨ ∃ V, V < n ∧ ∀ j, j ≤ n → goL s a m N j (25 + q) = if V < j then nI V else -1 := by
    intro n
    induction n with
    | zero =>
      intro _
      left
      intro j hj
      obtain rfl : j = 0 := by omega
      exact h25
    | succ n ih =>
      intro hn
      have I := ID_goL hW h n (by omega)
      have st := goL_step hW h (n := n) (by omega)
      have hp := (ID_goL hW h (n + 1) (by omega)).2.1 q hq
      rw [Nat.zero_add] at I
      have G := (GO_min hW (by omega) I).2 q hq
      rw [← st] at G
      rcases ih (by omega) with z | ⟨V, v1, v2⟩
      · rcases G.2 (z n (Nat.le_refl _)) with y | ⟨t, t1, t2, t3⟩
        · left
          intro j hj
          by_cases e : j = n + 1
          · subst e; exact y
          · exact z j (by omega)
        · right
          have hte : t = n := by
            rcases hp.2.2.2 with y | ⟨u, u1, u2⟩
            · rw [t3] at y; exact absurd y (nI_m1 (by omega))
            · rw [t3, nI_eq (by omega) (by omega)] at u2
              omega
          subst hte
          refine ⟨t, by omega, fun j hj => ?_⟩
          by_cases e : j = t + 1
          · subst e; rw [if_pos (by omega)]; exact t3
          · rw [if_neg (by omega)]; exact z j (by omega)
      · right
        refine ⟨V, by omega, fun j hj => ?_⟩
        by_cases e : j = n + 1
        · subst e
          have e2 := v2 n (Nat.le_refl _)
          rw [if_pos v1] at e2
          rw [if_pos (by omega), G.1 (by rw [e2]; exact nI_m1 (by omega)), e2]
        · exact v2 j (by omega)
  rcases key 60 (Nat.le_refl _) with z | ⟨V, v1, v2⟩
  · refine ⟨60, Nat.le_refl _, ?_, fun n hn => ?_⟩
    · rw [lateP, if_pos (z 60 (Nat.le_refl _))]; rfl
    · rw [if_neg (by omega)]; exact z n hn
  · refine ⟨V, by omega, ?_, v2⟩
    have e2 := v2 60 (Nat.le_refl _)
    rw [if_pos v1] at e2
    rw [lateP, if_neg (by rw [e2]; exact nI_m1 (by omega)), e2]
/-! ===== a mood of a minute to come doesn't matter ===== -/
def moX (m : Nat) (a a' : Nat → xN) : Prop := a' 6 = a 6 ∧ a' 8 = a 8 ∧ ∀ i, i < 3 * m → a' 10 i = a 10 i
theorem caP_ext {ns sp : Int32} {mo mo' N : xN} {q : Int32} {m : Nat} (hm : m + 1 ≤ 26) (hmo : ∀ i, i < 3 * m → mo' i = mo i) (hq : ¬ N (41 + m) = q) : caP ns sp mo' N q (m + 1) = caP ns sp mo N q m := by
  rw [caP, if_neg, caP_mo ns sp N q m (by omega) hmo]
  rintro ⟨z, -⟩
  unfold isC at z
  simp [hq] at z
theorem tramF_ext {s : xN} {a a' : Nat → xN} {m k l : Nat} {N : xN} (hm : m + 1 ≤ 26) (hX : moX m a a') (h41 : N (41 + m) = -1) (hl : l ≤ 12) (hv : hasP (s 5) (nI k) = true → ∃ v, v < l ∧ N (1 + k) = nI v) : tramF s a' (m + 1) N k = tramF s a m N k := by
  unfold tramF
  rw [hX.1, hX.2.1]
  by_cases hc : hasP (s 5) (nI k) = true ∧ a 6 (3 * k + 1) ≤ N 0
  · obtain ⟨v, v1, v2⟩ := hv hc.1
    have e := caP_ext (ns := s 30) (sp := s 31) (mo := a 10) (mo' := a' 10) (N := N) (q := N (1 + k)) hm hX.2.2 (by rw [h41, v2]; exact fun z => nI_m1 (by omega) z.symm)
    rw [e]
  · rw [if_neg hc, if_neg hc]
theorem minP_ext {l m sp g y : Nat} {s : xN} {a a' : Nat → xN} {N : xN} (hW : WD l m sp s a) (hm : m + 1 ≤ 26) (hX : moX m a a') (hy : a' 10 (3 * m + 2) = nI y) (hgy : g < y) (hy60 : y ≤ 60) (h : ID l m g g s a N) : minP s a' (m + 1) N = minP s a m N := by
  have hl := hW.1.2.1
  have h60 : g < 60 := by omega
  have I1 := ID_felt hW h60 h
  have I2 := ID_tramF (k := 0) (by omega) hW h60 I1
  have ef : feltL (a' 10) N (m + 1) = feltL (a 10) N m := by
    rw [feltL, feltL_mo N m hX.2.2, feltF, if_neg]
    rw [hy, feltL_out (a 10) N (by omega) m (by omega), h.1.1.1, nI_eq (by omega) (by omega)]
    omega
  have f41 : feltL (a 10) N m (41 + m) = -1 := by
    rw [feltL_hi (a 10) N m (41 + m) (Nat.le_refl _)]
    exact (h.2.2.1 m (by omega)).2.2.2.1 (Nat.le_refl _)
  have e0 := tramF_ext (s := s) (k := 0) (N := feltL (a 10) N m) hm hX f41 hl (fun z => (I1.1.2 0 (by omega)).1 z)
  have e1 := tramF_ext (s := s) (k := 1) (N := tramF s a m (feltL (a 10) N m) 0) hm hX (by rw [tramF_out s a m _ (by omega) (by omega)]; exact f41) hl (fun z => (I2.1.2 1 (by omega)).1 z)
  unfold minP
  rw [ef, e0, e1]
theorem goL_ext {l m sp y : Nat} {s : xN} {a a' : Nat → xN} {N : xN} (hW : WD l m sp s a) (hW' : WD l (m + 1) sp s a') (hX : moX m a a') (hy : a' 10 (3 * m + 2) = nI y) (hy60 : y ≤ 60) (h : ID l m 0 0 s a N) (h' : ID l (m + 1) 0 0 s a' N) : ∀ n, n ≤ y → goL s a' (m + 1) N n = goL s a m N n
  | 0, _ => rfl
  | n + 1, hn => by
    have ih := goL_ext hW hW' hX hy hy60 h h' n (by omega)
    have I := ID_goL hW h n (by omega)
    rw [Nat.zero_add] at I
    rw [goL_step hW' h' (n := n) (by omega), goL_step hW h (n := n) (by omega), ih]
    exact minP_ext hW hW'.2.1 hX hy (by omega) hy60 I
/-- the day goes on where one mood more is told -/
theorem RD_ext {l m g sp : Nat} {s : xN} {a a' : Nat → xN} {d : xN} {da : Nat → xN} {N : xN} (hm : m + 1 ≤ 26) (hl : l ≤ 12) (hX : moX m a a') (hI : ID l m g g s a N) (h : RD m g sp s a d da N) : RD (m + 1) g sp s a' d da N := by
  obtain ⟨hL, hA, hP, ⟨f1, f2, f3⟩, hH⟩ := h
  have h41 : N (41 + m) = -1 := (hI.2.2.1 m (by omega)).2.2.2.1 (Nat.le_refl _)
  refine ⟨hL, hA, hP, ⟨f1, fun p hp k hk => ?_, fun k hk => ?_⟩, hH⟩
  · rw [f2 p hp k hk]
    by_cases e : k = m
    · subst e
      have : ¬ (-1 : Int32) = nI p := fun z => nI_m1 (by omega) z.symm
      rw [h41]
      simp [this]
    · have : (k < m + 1) ↔ k < m := by omega
      simp only [this]
  · rw [f3 k hk]
    by_cases e : k = m
    · subst e
      rw [h41]
      simp
    · have : (k < m + 1) ↔ k < m := by omega
      by_cases hkm : k < m
      · rw [hX.2.2 _ (by omega), hX.2.2 _ (by omega)]
        simp only [this]
      · simp [hkm, this]
