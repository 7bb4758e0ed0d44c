def feiP (V : Nat → Nat → Nat → Int32) (n w : Nat) (b : xN) : Int32 := if feB V n b 0 = 60 then -1 else feB V n b w
set_option maxHeartbeats 400000 in
theorem c8_fe_end (L : xLn) (Q : Option Value → List xE → Prop) (s : xN) (j : Int64) (a : Nat → xN) (n0 w : Nat) (hw : w < 4) (k n : Int32) (x4 x5 : Option Value) (b : xN) (hb : a 33 = b) (nxt : Q (some (.int (if b 0 = 60 then -1 else b w))) (modW s j a)) :
    AJ L mX8_feigned 5 0 0 Q n0 (0, 0) 148 [some (.ref 0), some (.int k), some (.int n), some (.int (nI w)), x4, x5] [] (modW s j a) := by
  subst hb
  refine AJ.run kX8_feigned [] 60 ⟨0, rfl, by omega, fun h => ⟨w, rfl, by omega, ?_⟩, fun h => ?_⟩
  · have h : ¬ a 33 0 = 60 := h
    rw [if_neg h] at nxt
    exact nxt
  · have h : a 33 0 = 60 := h
    rw [if_pos h] at nxt
    exact nxt
/-- what feigned answers -/
def feiR (s : xN) (a : Nat → xN) (m : Nat) (k n w : Int32) : Int32 := if isPersonP s k = true then (if (inP n 0 2 && inP w 0 3) = true then feiP (feV s a m k.toNatClampNeg) n.toNatClampNeg w.toNatClampNeg (fun _ => 0) else -3) else -2
def kpQ (m : Nat) (s : xN) (a : Nat → xN) (v : Int32) : Option Value → List xE → Prop := fun r Y => r = some (.int v) ∧ ∃ s' j' a', Y = modW s' j' a' ∧ keptM m s a s' a'
theorem bst_lo {f g : xN} (h : ∀ i, i < 4 → f i = g i) (v : Int32) (q y z : Nat) : ∀ i, i < 4 → bstP v q y z f i = bstP v q y z g i := by
  intro i hi
  unfold bstP
  rw [h 0 (by omega)]
  split
  · rcases (show i = 0 ∨ i = 1 ∨ i = 2 ∨ i = 3 by omega) with rfl | rfl | rfl | rfl <;> rfl
  · exact h i hi
theorem fe1_lo (V : Nat → Nat → Nat → Int32) {f g : xN} (h : ∀ i, i < 4 → f i = g i) : ∀ k i, i < 4 → fe1 V f k i = fe1 V g k i
  | 0 => h
  | k + 1 => bst_lo (fe1_lo V h k) _ _ _ _
theorem fe2i_lo (V : Nat → Nat → Nat → Int32) (y : Nat) {f g : xN} (h : ∀ i, i < 4 → f i = g i) : ∀ k i, i < 4 → fe2i V y f k i = fe2i V y g k i
  | 0 => h
  | k + 1 => bst_lo (fe2i_lo V y h k) _ _ _ _
theorem fe2_lo (V : Nat → Nat → Nat → Int32) {f g : xN} (h : ∀ i, i < 4 → f i = g i) : ∀ k i, i < 4 → fe2 V f k i = fe2 V g k i
  | 0 => h
  | k + 1 => fe2i_lo V k (fe2_lo V h k) (59 - k)
theorem feB_lo (V : Nat → Nat → Nat → Int32) (n : Nat) (f g : xN) {w : Nat} (hw : w < 4) : feB V n f w = feB V n g w := by
  have h0 : ∀ i, i < 4 → fe0 f i = fe0 g i := by
    intro i hi
    rcases (show i = 0 ∨ i = 1 ∨ i = 2 ∨ i = 3 by omega) with rfl | rfl | rfl | rfl <;> rfl
  have h1 := bst_lo h0 (V 0 0 0) 0 0 0
  have h2 := fe1_lo V h1 60
  have h3 := fe2_lo V h2 60
  unfold feB
  split
  · exact h3 w hw
  · split
    · exact h2 w hw
    · exact h1 w hw
theorem feiP_lo (V : Nat → Nat → Nat → Int32) (n : Nat) (f g : xN) {w : Nat} (hw : w < 4) : feiP V n w f = feiP V n w g := by
  unfold feiP
  rw [feB_lo V n f g hw, feB_lo V n f g (by omega : 0 < 4)]
set_option maxHeartbeats 400000 in
theorem c8_fe_go (L : xLn) (Q : Option Value → List xE → Prop) (V : Nat → Nat → Nat → Int32) (s : xN) (j : Int64) (a : Nat → xN) (m n0 p n w : Nat) (hw : w < 4) (hn : n ≤ 2) (hc : tfC L V m s j a p)
    (nxt : ∀ s' a', keptM m s a s' a' → Q (some (.int (feiP V n w (a 33)))) (modW s' j a')) :
    AJ L mX8_feigned 5 0 0 Q n0 (0, 0) 32 [some (.ref 0), some (.int (nI p)), some (.int (nI n)), some (.int (nI w)), none, none] [] (modW s j a) := by
  have hK0 : keptM m s a s (va_up a 33 (fe0 (a 33))) := ⟨fun _ _ => rfl, ⟨rfl, rfl, rfl, rfl, rfl, rfl⟩, fun _ _ => rfl, fun _ _ => rfl⟩
  have c0 := hc 0 0 0 s (va_up a 33 (fe0 (a 33))) (by omega) hK0
  refine AJ.run kX8_feigned [66] 60 ⟨0, rfl, by omega, 1, rfl, by omega, 2, rfl, by omega, 3, rfl, by omega, ?_⟩
  refine AJ.callF kX8_feigned c0 bX8_tryFeigned rfl (by decide +kernel) [] rfl rfl rfl rfl rfl rfl rfl rfl ?_
  rintro r Y ⟨rfl, s1, a1, rfl, hK1, hb1⟩
  refine ⟨rfl, rfl, AJ.run kX8_feigned [72] 60 ?_⟩
  have hb1 : a1 33 = bstP (V 0 0 0) 0 0 0 (fe0 (a 33)) := hb1
  unfold feiP at nxt
  -- behind the first loop
  have two : ∀ b : xN, feB V n (a 33) = (if 1 < n then fe2 V b 60 else b) → ∀ s' a' (x4 : Int32), keptM m s a s' a' → a' 33 = b → AJ L mX8_feigned 5 0 0 Q n0 (0, 0) 98 [some (.ref 0), some (.int (nI p)), some (.int (nI n)), some (.int (nI w)), some (.int x4), none] [] (modW s' j a') := by
    intro b hB s' a' x4 hK hb
    by_cases h1 : 1 < n
    · rw [if_pos h1] at hB
      have key := c8_fe_two L Q V s j a m n0 p n (nI w) hn h1 hc (fe2 V b) (fun y _ => rfl) (fun s2 a2 x5 hK2 hb2 _ => c8_fe_end L Q s2 j a2 n0 w hw (nI p) (nI n) _ x5 (feB V n (a 33)) (by rw [hB]; exact hb2) (nxt s2 a2 hK2)) 60 0 s' a' none (by omega) hK hb (Or.inl rfl)
      exact AJ.run kX8_feigned [101] 60 key
    · rw [if_neg h1] at hB
      have key := c8_fe_end L Q s' j a' n0 w hw (nI p) (nI n) (some (.int (nI 0))) none (feB V n (a 33)) (by rw [hB]; exact hb) (nxt s' a' hK)
      exact AJ.run kX8_feigned [148] 60 ⟨fun hz => absurd hz (by decide), fun _ => ⟨fun _ => key, fun hz => absurd (nI_le (a := n) (b := 1) (by omega) (by omega)) hz⟩⟩
  by_cases h0 : 0 < n
  · have key := c8_fe_one L Q V s j a m n0 p n (nI w) hn h0 hc (fe1 V (bstP (V 0 0 0) 0 0 0 (fe0 (a 33)))) (fun i => rfl) (fun s2 a2 hK2 hb2 => two _ (by unfold feB; split; rfl; rfl) s2 a2 (nI 60) hK2 hb2) 60 0 s1 a1 (by omega) hK1 hb1
    exact key
  · have key := two (bstP (V 0 0 0) 0 0 0 (fe0 (a 33))) (by unfold feB; rw [if_neg (by omega), if_neg h0, if_neg (by omega)]) s1 a1 (nI 0) hK1 hb1
    exact AJ.run kX8_feigned [98] 60 ⟨fun hz => absurd hz (by decide), fun _ => ⟨fun _ => key, fun hz => absurd (nI_le (a := n) (b := 0) (by omega) (by omega)) hz⟩⟩
theorem c8_feigned (L : xLn) (s : xN) (j : Int64) (a : Nat → xN) (m : Nat) (hok : okT s a m) (k n w : Int32) : CT L mX8_feigned 5 0 0 [.ref 0, .int k, .int n, .int w] (modW s j a) (kpQ m s a (feiR s a m k n w)) := by
  refine CT.of rfl (Nat.le_of_ble_eq_true rfl) (Nat.le_of_ble_eq_true rfl) ?_
  have hQ : ∀ s' a', keptM m s a s' a' → kpQ m s a (feiR s a m k n w) (some (.int (feiR s a m k n w))) (modW s' j a') := fun s' a' hK => ⟨rfl, s', j, a', rfl, hK⟩
  have hQ0 := hQ s a (keptM.rf m s a)
  generalize kpQ m s a (feiR s a m k n w) = Q at hQ hQ0 ⊢
  refine AJ.run kX8_feigned [] 60 ?_
  refine AJ.callF kX8_feigned (c8_isPerson L s j a k) bX8_isPerson rfl (by decide +kernel) [] rfl rfl rfl rfl rfl rfl rfl rfl ?_
  rintro r Y ⟨rfl, rfl⟩
  refine ⟨rfl, rfl, AJ.run kX8_feigned [11] 60 ⟨fun h => ?_, fun h => ?_⟩⟩
  · rw [bI_ne0] at h
    refine AJ.run kX8_feigned [] 60 ?_
    refine AJ.callZ kX8_feigned (c8_in L n 0 2) bX8_in rfl (by decide +kernel) [] rfl rfl rfl rfl rfl ?_
    rintro r rfl
    refine AJ.run kX8_feigned [] 60 ⟨fun h2 => ?_, fun h2 => ?_⟩
    · rw [bI_eq0] at h2
      rw [feiR, if_pos h, h2, if_neg (by simp)] at hQ0
      exact hQ0
    rw [bI_ne0] at h2
    refine AJ.callZ kX8_feigned (c8_in L w 0 3) bX8_in rfl (by decide +kernel) [] rfl rfl rfl rfl rfl ?_
    rintro r rfl
    refine AJ.run kX8_feigned [32] 60 ⟨fun h3 => ?_, fun h3 => ?_⟩
    · rw [bI_ne0] at h3
      have hk : ∃ p, p ≤ 7 ∧ k = nI p := by
        have h2 := h
        simp only [isPersonP, Bool.and_eq_true] at h2
        exact inP_nI (n := 7) (by omega) h2.1
      obtain ⟨p, hp, rfl⟩ := hk
      obtain ⟨n, hn, rfl⟩ := inP_nI (n := 2) (by omega) h2
      obtain ⟨w, hw, rfl⟩ := inP_nI (n := 3) (by omega) h3
      refine c8_fe_go L Q (feV s a m p) s j a m _ p n w (by omega) hn (fun q y z s' a' hq hK => c8_tf L s j a m p q y z (by omega) hq hok s' a' hK) ?_
      intro s' a' hK
      have := hQ s' a' hK
      rw [feiR, if_pos h, h2, h3, if_pos (by simp), nI_clamp (by omega), nI_clamp (by omega), nI_clamp (by omega), feiP_lo _ n _ (a 33) (by omega)] at this
      exact this
    · rw [bI_eq0] at h3
      rw [feiR, if_pos h, h2, h3, if_neg (by simp)] at hQ0
      exact hQ0
  · rw [bI_eq0] at h
    rw [feiR, if_neg (by rw [h]; simp)] at hQ0
    exact hQ0
