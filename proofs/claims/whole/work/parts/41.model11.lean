/-! ===== the reference: the law by which all are home soonest ===== -/
def lateP (N : xN) (p : Nat) : Int32 := if N (25 + p) = -1 then 60 else N (25 + p)
def lateL (fo : Int32) (N : xN) : Nat → Int32
  | 0 => 0
  | q + 1 => lateL fo N q + (if hasP fo (nI q) = true then lateP N q else 0)
theorem lateP_ag {h : Nat} {N B : xN} (hN : agN h N B) {q : Nat} (hq : q < 8) : lateP N q = lateP B q := by
  unfold lateP
  rw [hN (25 + q) (by omega)]
theorem lateL_ag {h : Nat} {N B : xN} (fo : Int32) (hN : agN h N B) : ∀ q, q ≤ 8 → lateL fo N q = lateL fo B q
  | 0, _ => rfl
  | q + 1, hq => by rw [lateL, lateL, lateL_ag fo hN q (by omega), lateP_ag hN (by omega)]
/-- like keptM, stronger: only now's rows behind, aside and what was tried may differ -/
def keptD (s : xN) (a : Nat → xN) (s' : xN) (a' : Nat → xN) : Prop := (∀ i, i < 15 → s' i = s i) ∧ (∀ i, i ≠ 26 → i ≠ 27 → a' i = a i) ∧ ∀ i, i < 573 → a' 26 i = a 26 i
theorem keptD.rf (s : xN) (a : Nat → xN) : keptD s a s a := ⟨fun _ _ => rfl, fun _ _ _ => rfl, fun _ _ => rfl⟩
theorem keptD.m {s s' : xN} {a a' : Nat → xN} (h : keptD s a s' a') (m : Nat) : keptM m s a s' a' := ⟨h.1, ⟨h.2.1 6 (by omega) (by omega), h.2.1 8 (by omega) (by omega), h.2.1 12 (by omega) (by omega), h.2.1 14 (by omega) (by omega), h.2.1 28 (by omega) (by omega), h.2.1 29 (by omega) (by omega)⟩, fun i _ => by rw [h.2.1 10 (by omega) (by omega)], h.2.2⟩
/-- the rows behind a day and its putting back -/
def aftA (a : Nat → xN) (N : xN) : Nat → xN := va_up (va_up a 27 (cpL (a 26) 0 (a 27) 0 573)) 26 (cpL (cpL (a 26) 0 (a 27) 0 573) 0 N 0 573)
theorem keptD.day {s s' s'' : xN} {a a' : Nat → xN} (h : keptD s a s' a') (hs : ∀ i, i < 15 → s'' i = s' i) (N : xN) : keptD s a s'' (aftA a' N) := by
  refine ⟨fun i hi => (hs i hi).trans (h.1 i hi), fun i h1 h2 => ?_, fun i hi => ?_⟩
  · show va_up (va_up a' 27 _) 26 _ i = a i
    unfold va_up
    rw [if_neg h1, if_neg h2]
    exact h.2.1 i h1 h2
  · exact (put_back _ _ _ hi).trans (h.2.2 i hi)
def lawN (s : xN) (a : Nat → xN) (m t : Nat) : xN := dq (upd (toldP s) 30 (nI t)) a m
def lawS (fo : Int32) (F : Nat → xN) : Nat → Int32 × Int32
  | 0 => (-1, 0)
  | t + 1 => if (lawS fo F t).1 = -1 ∨ lateL fo (F t) 8 < (lawS fo F t).2 then (nI t, lateL fo (F t) 8) else lawS fo F t
/-- the sum over those told, in the law's loop -/
theorem c8_law_sum (L : xLn) (Q : Option Value → List xE → Prop) (s : xN) (j : Int64) (a : Nat → xN) (N : xN) (n0 : Nat) (k x2 x3 x4 : Int32) (G : Nat → Int32) (hG : ∀ q, q < 8 → G (q + 1) = G q + (if hasP (s 7) (nI q) = true then lateP N q else 0))
    (nxt : AJ L mX8_law 4 0 0 Q n0 (0, 0) 86 [some (.ref 0), some (.int k), some (.int x2), some (.int x3), some (.int x4), some (.int (G 8)), some (.int (nI 8))] [] (modN s j a N)) :
    ∀ (n q : Nat), q + n = 8 → AJ L mX8_law 4 0 0 Q n0 (0, 0) 46 [some (.ref 0), some (.int k), some (.int x2), some (.int x3), some (.int x4), some (.int (G q)), some (.int (nI q))] [] (modN s j a N) := by
  intro n
  induction n with
  | zero =>
    intro q hq
    obtain rfl : q = 8 := by omega
    exact AJ.run kX8_law [46, 86] 60 ⟨fun _ => nxt, fun hz => absurd (by decide) hz⟩
  | succ n ih =>
    intro q hq
    have h2 := ih (q + 1) (by omega)
    rw [nI_succ, hG q (by omega)] at h2
    refine AJ.run kX8_law [46] 60 ⟨fun hz => absurd hz (nI_ge (b := 8) (by omega) (by omega)), fun _ => ?_⟩
    refine AJ.callZ kX8_law (c8_has L (s 7) (nI q)) bX8_has rfl (by decide +kernel) [.int (G q)] rfl rfl rfl rfl rfl ?_
    rintro r rfl
    refine AJ.run kX8_law [46] 60 ⟨fun h3 => ?_, fun h3 => ?_⟩
    · rw [bI_eq0] at h3
      rw [if_neg (by rw [h3]; simp)] at h2
      exact h2
    · rw [bI_ne0] at h3
      rw [if_pos h3] at h2
      refine AJ.callF kX8_law (c8_late L s j a N q (by omega)) bX8_late rfl (by decide +kernel) [.int (G q)] rfl rfl rfl rfl rfl rfl rfl rfl ?_
      rintro r Y ⟨rfl, rfl⟩
      exact ⟨rfl, rfl, AJ.run kX8_law [46] 60 h2⟩
/-- one law tried -/
theorem c8_law_one (L : xLn) (Q : Option Value → List xE → Prop) (s : xN) (j : Int64) (a : Nat → xN) (m t n0 : Nat) (k x2 x3 : Int32) (x5 x6 : Option Value) (h5 : x5 = none ∨ ∃ v, x5 = some (.int v)) (h6 : x6 = none ∨ ∃ v, x6 = some (.int v)) (ht : t < 8) (hokd : okD (upd (toldP s) 30 (nI t)) a m)
    (nxt : ∀ (N : xN) (g : Int32) (x6' : Int32), isDay (upd (toldP s) 30 (nI t)) a m N → g = lateL (s 7) N 8 → AJ L mX8_law 4 0 0 Q n0 (0, 0) 19 [some (.ref 0), some (.int k), some (.int (if x2 = -1 ∨ g < x3 then nI t else x2)), some (.int (if x2 = -1 ∨ g < x3 then g else x3)), some (.int (nI t + 1)), some (.int g), some (.int x6')] [] (modW (upd (toldP s) 30 (nI t)) j (aftA a N))) :
    AJ L mX8_law 4 0 0 Q n0 (0, 0) 19 [some (.ref 0), some (.int k), some (.int x2), some (.int x3), some (.int (nI t)), x5, x6] [] (modW s j a) := by
  have wf : ∀ X : List xE, xwf X [some (.ref 0), some (.int k), some (.int x2), some (.int x3), some (.int (nI t)), none, none] [] = true → xwf X [some (.ref 0), some (.int k), some (.int x2), some (.int x3), some (.int (nI t)), x5, x6] [] = true := by
    intro X hX
    rcases h5 with rfl | ⟨v5, rfl⟩ <;> rcases h6 with rfl | ⟨v6, rfl⟩ <;> simpa [xwf, xokv] using hX
  refine AJ.run kX8_law [19] 60 ⟨fun hz => absurd hz (nI_ge (b := 8) (by omega) (by omega)), fun _ => ?_⟩
  refine AJ.callF kX8_law (c8_asTold L s j a) bX8_asTold rfl (by decide +kernel) [] rfl rfl rfl rfl rfl (wf _ rfl) rfl rfl ?_
  rintro r Y ⟨rfl, rfl⟩
  refine ⟨rfl, rfl, AJ.run kX8_law [19] 60 ?_⟩
  refine AJ.callF kX8_law (c8_dayA L (upd (toldP s) 30 (nI t)) j a m hokd) bX8_goDay rfl (by decide +kernel) [] rfl rfl rfl rfl rfl (wf _ rfl) rfl rfl ?_
  rintro r Y ⟨rfl, N, hN, rfl⟩
  refine ⟨rfl, rfl, ?_⟩
  have nxt := fun g x6' hg => nxt N g x6' hN hg
  obtain ⟨G, hGe⟩ : ∃ G : Nat → Int32, G = lateL (s 7) N := ⟨_, rfl⟩
  have hG0 : G 0 = 0 := by rw [hGe]; rfl
  have hG : ∀ q, q < 8 → G (q + 1) = G q + (if hasP (s 7) (nI q) = true then lateP N q else 0) := fun q _ => by rw [hGe]; rfl
  have nxt := fun x6' => nxt (G 8) x6' (by rw [hGe])
  have at86 : AJ L mX8_law 4 0 0 Q n0 (0, 0) 86 [some (.ref 0), some (.int k), some (.int x2), some (.int x3), some (.int (nI t)), some (.int (G 8)), some (.int (nI 8))] [] (modN (upd (toldP s) 30 (nI t)) j (va_up a 27 (cpL (a 26) 0 (a 27) 0 573)) N) := by
    generalize G 8 = g at nxt
    refine AJ.run kX8_law [] 60 ?_
    refine AJ.callF kX8_law (c8_putBack L (upd (toldP s) 30 (nI t)) j (va_up a 27 (cpL (a 26) 0 (a 27) 0 573)) N) bX8_putBack rfl (by decide +kernel) [] rfl rfl rfl rfl rfl rfl rfl rfl ?_
    rintro r Y ⟨rfl, rfl⟩
    have tk : x2 = -1 ∨ g < x3 → AJ L mX8_law 4 0 0 Q n0 (0, 0) 106 [some (.ref 0), some (.int k), some (.int x2), some (.int x3), some (.int (nI t)), some (.int g), some (.int (nI 8))] [.int 1] (modN (upd (toldP s) 30 (nI t)) j (va_up a 27 (cpL (a 26) 0 (a 27) 0 573)) (cpL (cpL (a 26) 0 (a 27) 0 573) 0 N 0 573)) := by
      intro hc
      have nxt := nxt 1
      rw [if_pos hc, if_pos hc] at nxt
      exact AJ.run kX8_law [19] 60 ⟨fun hz => absurd hz (by decide), fun _ => ⟨fun hz => absurd hz (by decide), fun _ => nxt⟩⟩
    have nt : ¬ (x2 = -1 ∨ g < x3) → AJ L mX8_law 4 0 0 Q n0 (0, 0) 106 [some (.ref 0), some (.int k), some (.int x2), some (.int x3), some (.int (nI t)), some (.int g), some (.int (nI 8))] [.int 0] (modN (upd (toldP s) 30 (nI t)) j (va_up a 27 (cpL (a 26) 0 (a 27) 0 573)) (cpL (cpL (a 26) 0 (a 27) 0 573) 0 N 0 573)) := by
      intro hc
      have nxt := nxt 0
      rw [if_neg hc, if_neg hc] at nxt
      exact AJ.run kX8_law [19] 60 ⟨fun _ => ⟨fun _ => nxt, fun hz => absurd rfl hz⟩, fun hz => absurd rfl hz⟩
    refine ⟨rfl, rfl, AJ.run kX8_law [106] 60 ⟨fun h3 => tk (Or.inl h3), fun h3 => ⟨fun h4 => nt ?_, fun h4 => tk (Or.inr ?_)⟩⟩⟩
    · have h3 : ¬ x2 = -1 := h3
      have h4 : x3 ≤ g := h4
      rintro (h7 | h7)
      · exact h3 h7
      · simp only [i32_lt, i32_le] at h4 h7
        omega
    · have h4 : ¬ x3 ≤ g := h4
      simp only [i32_lt, i32_le] at h4 ⊢
      omega
  have := c8_law_sum L Q (upd (toldP s) 30 (nI t)) j (va_up a 27 (cpL (a 26) 0 (a 27) 0 573)) N n0 k x2 x3 (nI t) G hG at86 8 0 rfl
  rw [hG0] at this
  rcases h5 with rfl | ⟨v5, rfl⟩ <;> rcases h6 with rfl | ⟨v6, rfl⟩ <;> exact AJ.run kX8_law [46] 60 this
theorem lawS_1 (fo : Int32) (F : Nat → xN) (t : Nat) : (lawS fo F (t + 1)).1 = (if (lawS fo F t).1 = -1 ∨ lateL fo (F t) 8 < (lawS fo F t).2 then nI t else (lawS fo F t).1) ∧ (lawS fo F (t + 1)).2 = (if (lawS fo F t).1 = -1 ∨ lateL fo (F t) 8 < (lawS fo F t).2 then lateL fo (F t) 8 else (lawS fo F t).2) := by
  rw [lawS]
  split
  · exact ⟨rfl, rfl⟩
  · exact ⟨rfl, rfl⟩
theorem c8_law (L : xLn) (s : xN) (j : Int64) (a : Nat → xN) (m : Nat) (hok : okT s a m) (k : Int32) : CT L mX8_law 4 0 0 [.ref 0, .int k] (modW s j a) (fun r Y => r = some (.int (if inP k 0 1 = true then (if k = 0 then (lawS (s 7) (lawN s a m) 8).1 else (lawS (s 7) (lawN s a m) 8).2) else -3)) ∧ ∃ s' j' a', Y = modW s' j' a' ∧ keptM m s a s' a') := by
  have hdq : ∀ (t : Nat) (s' : xN) (a' : Nat → xN), keptD s a s' a' → dq (upd (toldP s') 30 (nI t)) a' m = lawN s a m t := by
    intro t s' a' hK
    unfold lawN
    have e : eqT (upd (toldP s) 30 (nI t)) a (upd (toldP s') 30 (nI t)) a' := by
     refine ⟨⟨?_, ?_, ?_, ?_, ?_, rfl, ?_⟩, hK.2.1 6 (by omega) (by omega), hK.2.1 8 (by omega) (by omega), hK.2.1 10 (by omega) (by omega)⟩
     · exact hK.1 0 (by omega)
     · exact hK.1 3 (by omega)
     · exact hK.1 4 (by omega)
     · exact hK.1 5 (by omega)
     · exact hK.1 7 (by omega)
     · exact hK.1 2 (by omega)
    exact dq_congr e m
  obtain ⟨S, hS⟩ : ∃ S : Nat → Int32 × Int32, S = lawS (s 7) (lawN s a m) := ⟨_, rfl⟩
  have hS0 : S 0 = (-1, 0) := by rw [hS]; rfl
  have hS1 : ∀ t, (S (t + 1)).1 = (if (S t).1 = -1 ∨ lateL (s 7) (lawN s a m t) 8 < (S t).2 then nI t else (S t).1) ∧ (S (t + 1)).2 = (if (S t).1 = -1 ∨ lateL (s 7) (lawN s a m t) 8 < (S t).2 then lateL (s 7) (lawN s a m t) 8 else (S t).2) := fun t => by rw [hS]; exact lawS_1 _ _ t
  rw [← hS]
  generalize lawN s a m = F at hdq hS1
  clear hS
  refine CT.of rfl (Nat.le_of_ble_eq_true rfl) (Nat.le_of_ble_eq_true rfl) ?_
  refine AJ.run kX8_law [] 60 ?_
  refine AJ.callZ kX8_law (c8_in L k 0 1) bX8_in rfl (by decide +kernel) [] rfl rfl rfl rfl rfl ?_
  rintro r rfl
  refine AJ.run kX8_law [19] 60 ⟨fun h => ?_, fun h => ⟨by rw [bI_eq0] at h; rw [if_neg (by rw [h]; simp)], s, j, a, rfl, keptM.rf m s a⟩⟩
  rw [bI_ne0] at h
  have loop : ∀ (n t : Nat) (s' : xN) (a' : Nat → xN) (x5 x6 : Option Value), t + n = 8 → keptD s a s' a' → (x5 = none ∨ ∃ v, x5 = some (.int v)) → (x6 = none ∨ ∃ v, x6 = some (.int v)) → AJ L mX8_law 4 0 0 (fun r Y => r = some (.int (if inP k 0 1 = true then (if k = 0 then (S 8).1 else (S 8).2) else -3)) ∧ ∃ s' j' a', Y = modW s' j' a' ∧ keptM m s a s' a') (modW s j a).length (0, 0) 19 [some (.ref 0), some (.int k), some (.int (S t).1), some (.int (S t).2), some (.int (nI t)), x5, x6] [] (modW s' j a') := by
    intro n
    induction n with
    | zero =>
      intro t s' a' x5 x6 ht hK h5 h6
      obtain rfl : t = 8 := by omega
      refine AJ.run kX8_law [19] 60 ⟨fun _ => ⟨fun h2 => ⟨?_, s', j, a', rfl, hK.m m⟩, fun h2 => ⟨?_, s', j, a', rfl, hK.m m⟩⟩, fun hz => absurd (by decide) hz⟩
      · rw [if_pos h, if_neg h2]
      · rw [if_pos h, if_pos h2]
    | succ n ih =>
      intro t s' a' x5 x6 ht hK h5 h6
      have hokd : okD (upd (toldP s') 30 (nI t)) a' m := by
        refine ⟨?_, by have := hok.2.1; omega, fun q hq => ?_⟩
        · show s' 9 = nI m
          rw [hK.1 9 (by omega)]; exact hok.1
        · rw [hK.2.1 10 (by omega) (by omega)]; exact hok.2.2 q hq
      refine c8_law_one L _ s' j a' m t _ k (S t).1 (S t).2 x5 x6 h5 h6 (by omega) hokd (fun N g x6' hN hg => ?_)
      obtain ⟨e1, e2, e3⟩ := isDay_hm hN
      rw [hdq t s' a' hK] at e3
      have eg : g = lateL (s 7) (F t) 8 := by rw [hg, hK.1 7 (by omega), lateL_ag (s 7) e3 8 (by omega)]
      rw [eg, ← (hS1 t).1, ← (hS1 t).2, ← nI_succ]
      exact ih (t + 1) _ _ _ _ (by omega) (hK.day (s'' := upd (toldP s') 30 (nI t)) (fun i hi => by rw [pk_un (by omega)]; exact toldP_lo s' hi) N) (Or.inr ⟨_, rfl⟩) (Or.inr ⟨_, rfl⟩)
  have := loop 8 0 s a none none rfl (keptD.rf s a) (Or.inl rfl) (Or.inl rfl)
  rw [hS0] at this
  exact this

