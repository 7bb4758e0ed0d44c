theorem c8_dayB (L : xLn) (s : xN) (j : Int64) (a : Nat → xN) (m : Nat) (hok : okD s a m) : CT L mX8_goDay 3 0 0 [.ref 0] (modW s j a) (fun r Y => r = none ∧ ∃ N A : xN, isDay s a m N ∧ (∀ i, i < 573 → A i = a 26 i) ∧ Y = modN s j (va_up a 27 A) N) :=
  (c8_dayA L s j a m hok).mono (fun r Y ⟨h1, N, h2, h3⟩ => ⟨h1, N, _, h2, fun i hi => by rw [cpL_at, if_pos (by omega)]; congr 1; omega, h3⟩)
theorem c8_putB (L : xLn) (s : xN) (j : Int64) (a : Nat → xN) (N : xN) : CT L mX8_putBack 1 0 0 [.ref 0] (modN s j a N) (fun r Y => r = none ∧ ∃ B : xN, (∀ i, i < 573 → B i = a 27 i) ∧ Y = modN s j a B) :=
  (c8_putBack L s j a N).mono (fun r Y ⟨h1, h3⟩ => ⟨h1, _, fun i hi => by rw [cpL_at, if_pos (by omega)]; congr 1; omega, h3⟩)
def arA (a : Nat → xN) (A B b : xN) : Nat → xN := va_up (va_up (va_up a 27 A) 26 B) 33 b
set_option maxHeartbeats 400000 in
theorem c8_tf_tail (L : xLn) (Q : Option Value → List xE → Prop) (s : xN) (j : Int64) (a : Nat → xN) (m n0 p q y z : Nat) (x5 x6 : Int32) (hp : p < 8) (hq : q ≤ 2) (hok : okD s a m)
    (nxt : ∀ N A B, isDay s a m N → (∀ i, i < 573 → B i = a 26 i) → Q none (modW s j (arA a A B (bstP (lateP N p) q y z (a 33))))) :
    AJ L mX8_tryFeigned 4 0 0 Q n0 (0, 0) 120 [some (.ref 0), some (.int (nI p)), some (.int (nI q)), some (.int (nI y)), some (.int (nI z)), some (.int x5), some (.int x6)] [] (modW s j a) := by
  refine AJ.run kX8_tryFeigned [] 60 ?_
  refine AJ.callF kX8_tryFeigned (c8_dayB L s j a m hok) bX8_goDay rfl (by decide +kernel) [] rfl rfl rfl rfl rfl rfl rfl rfl ?_
  rintro r Y ⟨rfl, N, A, hN, hA, rfl⟩
  have nxt := fun B => nxt N A B hN
  refine ⟨rfl, rfl, AJ.run kX8_tryFeigned [] 60 ?_⟩
  refine AJ.callF kX8_tryFeigned (c8_late L s j (va_up a 27 A) N p hp) bX8_late rfl (by decide +kernel) [] rfl rfl rfl rfl rfl rfl rfl rfl ?_
  rintro r Y ⟨rfl, rfl⟩
  have ev : (if N (25 + p) = -1 then 60 else N (25 + p)) = lateP N p := rfl
  rw [ev]
  generalize lateP N p = v at nxt
  refine ⟨rfl, rfl, AJ.run kX8_tryFeigned [] 60 ?_⟩
  refine AJ.callF kX8_tryFeigned (c8_putB L s j (va_up a 27 A) N) bX8_putBack rfl (by decide +kernel) [] rfl rfl rfl rfl rfl rfl rfl rfl ?_
  rintro r Y ⟨rfl, B, hB, rfl⟩
  have nxt := nxt B (fun i hi => (hB i hi).trans (hA i hi))
  clear hB hA hN hok
  refine ⟨rfl, rfl, AJ.run kX8_tryFeigned [] 60 ⟨0, rfl, by omega, fun h => ?_, fun h => ⟨0, rfl, by omega, 1, rfl, by omega, fun h2 => ⟨2, rfl, by omega, fun h3 => ⟨3, rfl, by omega, ?_⟩, fun h3 => ⟨3, rfl, by omega, ?_⟩⟩, fun h2 => ⟨2, rfl, by omega, fun h3 => ⟨3, rfl, by omega, ?_⟩, fun h3 => ⟨3, rfl, by omega, ?_⟩⟩⟩⟩⟩
  · have h : a 33 0 ≤ v := h
    rw [bstP, if_neg (by simp only [i32_lt, i32_le] at h ⊢; omega)] at nxt
    exact nxt
  all_goals
    have h : ¬ a 33 0 ≤ v := h
    have h' : v < a 33 0 := by simp only [i32_lt, i32_le] at h ⊢; omega
    rw [bstP, if_pos h'] at nxt
    have h2a := nI_leI (a := q) (b := 0) (by omega) (by omega)
    have h3a := nI_leI (a := q) (b := 1) (by omega) (by omega)
  · have h2 := h2a.mp h2
    have h3 := h3a.mp h3
    rw [if_neg (by omega), if_neg (by omega)] at nxt
    exact nxt
  · have h2 := h2a.mp h2
    exact absurd (h3a.mpr (by omega)) h3
  · have h3 := h3a.mp h3
    have h2 : ¬ q ≤ 0 := fun z => h2 (h2a.mpr z)
    rw [if_pos (by omega), if_neg (by omega)] at nxt
    exact nxt
  · have h3 : ¬ q ≤ 1 := fun z => h3 (h3a.mpr z)
    rw [if_pos (by omega), if_pos (by omega)] at nxt
    exact nxt
