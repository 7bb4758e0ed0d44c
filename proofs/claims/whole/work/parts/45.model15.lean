/-! ===== the reference: laws read back ===== -/
def seenO (N sn : xN) (k : Nat) : Nat → Bool
  | 0 => false
  | i + 1 => seenO N sn k i || (decide (N (93 + 4 * i + 1) = sn (2 * k)) && decide (N (93 + 4 * i + 2) = sn (2 * k + 1)))
def seenA (N sn : xN) (h : Nat) : Nat → Bool
  | 0 => true
  | k + 1 => seenA N sn h k && seenO N sn k h
theorem seenO_ag {h : Nat} {N B : xN} (hN : agN h N B) (sn : xN) (k : Nat) : ∀ i, i ≤ h → seenO N sn k i = seenO B sn k i
  | 0, _ => rfl
  | i + 1, hi => by rw [seenO, seenO, seenO_ag hN sn k i (by omega), hN (93 + 4 * i + 1) (by omega), hN (93 + 4 * i + 2) (by omega)]
theorem seenA_ag {h : Nat} {N B : xN} (hN : agN h N B) (sn : xN) : ∀ k, seenA N sn h k = seenA B sn h k
  | 0 => rfl
  | k + 1 => by rw [seenA, seenA, seenA_ag hN sn k, seenO_ag hN sn k h (Nat.le_refl _)]
theorem c8_areSeen_in (L : xLn) (Q : Option Value → List xE → Prop) (s : xN) (j : Int64) (a : Nat → xN) (N : xN) (n0 k h : Nat) (x1 : Int32) (hk : k < 8) (hh : N 7 + N 8 = nI h) (h120 : h ≤ 120) (G : Nat → Bool) (hG : ∀ i, i < h → G (i + 1) = (G i || (decide (N (93 + 4 * i + 1) = a 12 (2 * k)) && decide (N (93 + 4 * i + 2) = a 12 (2 * k + 1)))))
    (nxt : AJ L mX8_areSeen 1 0 0 Q n0 (0, 0) 94 [some (.ref 0), some (.int x1), some (.int (nI k)), some (.int (bI (G h))), some (.int (nI h))] [] (modN s j a N)) :
    ∀ (n i : Nat), i + n = h → AJ L mX8_areSeen 1 0 0 Q n0 (0, 0) 17 [some (.ref 0), some (.int x1), some (.int (nI k)), some (.int (bI (G i))), some (.int (nI i))] [] (modN s j a N) := by
  intro n
  induction n with
  | zero =>
    intro i hi
    obtain rfl : i = h := by omega
    refine AJ.run kX8_areSeen [17] 60 ?_
    refine AJ.callF kX8_areSeen (c8_haltMany L s j (va_up a 26 N)) bX8_haltMany rfl (by decide +kernel) [.int (nI i)] rfl rfl rfl rfl rfl rfl rfl rfl ?_
    rintro r Y ⟨rfl, rfl⟩
    refine ⟨rfl, rfl, AJ.run kX8_areSeen [94] 60 ⟨fun _ => nxt, fun hz => absurd ?_ hz⟩⟩
    show N 7 + N 8 ≤ nI i
    rw [hh]; exact nI_le (by omega) (by omega)
  | succ n ih =>
    intro i hi
    have h2 := ih (i + 1) (by omega)
    rw [nI_succ, hG i (by omega)] at h2
    refine AJ.run kX8_areSeen [17] 60 ?_
    refine AJ.callF kX8_areSeen (c8_haltMany L s j (va_up a 26 N)) bX8_haltMany rfl (by decide +kernel) [.int (nI i)] rfl rfl rfl rfl rfl rfl rfl rfl ?_
    rintro r Y ⟨rfl, rfl⟩
    refine ⟨rfl, rfl, AJ.run kX8_areSeen [17] 60 ⟨fun hz => absurd hz ?_, fun _ => ⟨fun h3 => ?_, fun h3 => ⟨93 + 4 * i + 1, by simp only [fa_lit, nI_add, pk_mul], by omega, 2 * k, by simp only [fa_lit, pk_mul], by omega, fun h4 => ?_, fun h4 => ⟨93 + 4 * i + 2, by simp only [fa_lit, nI_add, pk_mul], by omega, 2 * k + 1, by simp only [fa_lit, nI_add, pk_mul], by omega, fun h5 => ?_, fun h5 => ?_⟩⟩⟩⟩⟩
    · show ¬ N 7 + N 8 ≤ nI i
      rw [hh]; exact nI_ge (by omega) (by omega)
    · rw [bI_ne0] at h3
      rw [h3, Bool.true_or] at h2
      exact h2
    · have h4 : ¬ N (93 + 4 * i + 1) = a 12 (2 * k) := h4
      rw [bI_eq0] at h3
      rw [h3, decide_eq_false h4] at h2
      exact h2
    · have h5 : ¬ N (93 + 4 * i + 2) = a 12 (2 * k + 1) := h5
      rw [bI_eq0] at h3
      rw [h3, decide_eq_false h5, Bool.and_false] at h2
      exact h2
    · have h4 : N (93 + 4 * i + 1) = a 12 (2 * k) := h4
      have h5 : N (93 + 4 * i + 2) = a 12 (2 * k + 1) := h5
      rw [bI_eq0] at h3
      rw [h3, decide_eq_true h4, decide_eq_true h5] at h2
      exact h2
theorem c8_areSeen (L : xLn) (s : xN) (j : Int64) (a : Nat → xN) (N : xN) (n h : Nat) (hs : s 11 = nI n) (hn : n ≤ 8) (hh : N 7 + N 8 = nI h) (h120 : h ≤ 120) : CT L mX8_areSeen 1 0 0 [.ref 0] (modN s j a N) (fun r Y => r = some (.int (bI (seenA N (a 12) h n))) ∧ Y = modN s j a N) := by
  refine CT.of rfl (Nat.le_of_ble_eq_true rfl) (Nat.le_of_ble_eq_true rfl) ?_
  have loop : ∀ (f k : Nat) (x3 x4 : Option Value), k + f = n → (x3 = none ∨ ∃ v, x3 = some (.int v)) → (x4 = none ∨ ∃ v, x4 = some (.int v)) → AJ L mX8_areSeen 1 0 0 (fun r Y => r = some (.int (bI (seenA N (a 12) h n))) ∧ Y = modN s j a N) (modN s j a N).length (0, 0) 4 [some (.ref 0), some (.int (bI (seenA N (a 12) h k))), some (.int (nI k)), x3, x4] [] (modN s j a N) := by
    intro f
    induction f with
    | zero =>
      intro k x3 x4 hk h3 h4
      obtain rfl : k = n := by omega
      refine AJ.run kX8_areSeen [4] 60 ⟨fun _ => ⟨bI_or _, rfl, rfl⟩, fun hz => absurd ?_ hz⟩
      show s 11 ≤ nI k
      rw [hs]; exact nI_le (by omega) (by omega)
    | succ f ih =>
      intro k x3 x4 hk h3 h4
      have h2 := fun x3' x4' p3 p4 => ih (k + 1) x3' x4' (by omega) p3 p4
      rw [nI_succ, show seenA N (a 12) h (k + 1) = (seenA N (a 12) h k && seenO N (a 12) k h) from rfl] at h2
      obtain ⟨G, hGe⟩ : ∃ G : Nat → Bool, G = seenO N (a 12) k := ⟨_, rfl⟩
      have hG0 : G 0 = false := by rw [hGe]; rfl
      have hG : ∀ i, i < h → G (i + 1) = (G i || (decide (N (93 + 4 * i + 1) = a 12 (2 * k)) && decide (N (93 + 4 * i + 2) = a 12 (2 * k + 1)))) := fun i _ => by rw [hGe]; rfl
      rw [← hGe] at h2
      clear hGe
      have tail := c8_areSeen_in L (fun r Y => r = some (.int (bI (seenA N (a 12) h n))) ∧ Y = modN s j a N) s j a N (modN s j a N).length k h (bI (seenA N (a 12) h k)) (by omega) hh h120 G hG ?_ h 0 (by omega)
      · rw [hG0] at tail
        rcases h3 with rfl | ⟨v3, rfl⟩ <;> rcases h4 with rfl | ⟨v4, rfl⟩ <;>
          (refine AJ.run kX8_areSeen [17] 60 ⟨fun hz => absurd hz ?_, fun _ => tail⟩
           show ¬ s 11 ≤ nI k
           rw [hs]; exact nI_ge (by omega) (by omega))
      · have h2 := h2 (some (.int (bI (G h)))) (some (.int (nI h))) (Or.inr ⟨_, rfl⟩) (Or.inr ⟨_, rfl⟩)
        generalize G h = g at h2 ⊢
        generalize seenA N (a 12) h k = b at h2 ⊢
        refine AJ.run kX8_areSeen [4] 60 ⟨fun h5 => ?_, fun h5 => ⟨fun h6 => ?_, fun h6 => ?_⟩⟩
        · rw [bI_eq0] at h5
          rw [h5] at h2
          rw [h5]
          exact h2
        · rw [bI_eq0] at h6
          rw [h6, Bool.and_false] at h2
          rw [h6]
          exact h2
        · rw [bI_ne0] at h5 h6
          rw [h5, h6] at h2
          rw [h5, h6]
          exact h2
  exact AJ.run kX8_areSeen [4] 60 (loop n 0 none none (by omega) (Or.inl rfl) (Or.inl rfl))
/-- the laws' counts: how many of the first t fit, the first, how many have kind k -/
def mnS (fit : Nat → Bool) : Nat → Nat
  | 0 => 0
  | t + 1 => if fit t = true then mnS fit t + 1 else mnS fit t
def fiS (fit : Nat → Bool) : Nat → Int32
  | 0 => -1
  | t + 1 => if fit t = true then (if mnS fit t = 0 then nI (30 + t) else fiS fit t) else fiS fit t
def hkS (fit : Nat → Bool) (k : Nat) : Nat → Int32
  | 0 => 0
  | t + 1 => if fit t = true then hkS fit k t + (nI ((30 + t) / 30) >>> (nI k &&& 31) &&& 1) else hkS fit k t
theorem mnS_le (fit : Nat → Bool) : ∀ t, mnS fit t ≤ t
  | 0 => Nat.le_refl _
  | t + 1 => by
    have := mnS_le fit t
    rw [mnS]
    split <;> omega

