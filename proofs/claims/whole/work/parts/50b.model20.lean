/-- nothing, or a number -/
def oI (x : Option Value) : Prop := x = none ∨ ∃ v, x = some (.int v)
set_option maxHeartbeats 400000 in
theorem c8_la_out (L : xLn) (Q : Option Value → List xE → Prop) (s : xN) (j : Int64) (a : Nat → xN) (N : xN) (n0 l : Nat) (w : Int32) (hs : s 0 = nI l) (hl2 : l ≤ 12) (lt : Nat → Nat) (hl : ∀ q, q < 8 → lateP N q = nI (lt q)) (h60 : ∀ q, q < 8 → lt q ≤ 60) (G : Nat → Int32 × Nat × Nat) (b1 b2 : Nat → Nat) (hb1 : ∀ p, b1 p = la1 (s 7) (a 8) lt p 8) (hb2 : ∀ p, b2 p = la1 (s 7) (a 8) (fun _ => 1) p 8)
    (hG : ∀ p, G (p + 1) = if 0 < b2 p ∧ ((G p).1 = -1 ∨ (G p).2.1 * b2 p < b1 p * (G p).2.2) then (nI p, b1 p, b2 p) else G p) (hGl : ∀ p, (G p).2.1 ≤ 480 ∧ 1 ≤ (G p).2.2 ∧ (G p).2.2 ≤ 8)
    (nxt : ∀ x6 x7 x8 x9, oI x6 → oI x7 → oI x8 → oI x9 → AJ L mX8_last 4 0 0 Q n0 (0, 0) 167 [some (.ref 0), some (.int w), some (.int (G l).1), some (.int (nI (G l).2.1)), some (.int (nI (G l).2.2)), some (.int (nI l)), x6, x7, x8, x9] [] (modN s j a N)) :
    ∀ (n p : Nat) (x6 x7 x8 x9 : Option Value), p + n = l → oI x6 → oI x7 → oI x8 → oI x9 → AJ L mX8_last 4 0 0 Q n0 (0, 0) 30 [some (.ref 0), some (.int w), some (.int (G p).1), some (.int (nI (G p).2.1)), some (.int (nI (G p).2.2)), some (.int (nI p)), x6, x7, x8, x9] [] (modN s j a N) := by
  intro n
  induction n with
  | zero =>
    intro p x6 x7 x8 x9 hp i6 i7 i8 hx
    obtain rfl : p = l := by omega
    have nx := nxt x6 x7 x8 x9 i6 i7 i8 hx
    refine AJ.run kX8_last [30, 167] 60 ⟨fun _ => nx, fun hz => absurd ?_ hz⟩
    show s 0 ≤ nI p
    rw [hs]; exact nI_le (by omega) (by omega)
  | succ n ih =>
    intro p x6 x7 x8 x9 hp i6 i7 i8 hx
    have h3 := fun x6 x7 x8 v => ih (p + 1) x6 x7 x8 v (by omega)
    have L1 := la1_le (s 7) (a 8) h60 p 8 (by omega)
    have L2 := la1_le (s 7) (a 8) (lt := fun _ => 1) (b := 1) (fun _ _ => Nat.le_refl _) p 8 (by omega)
    have gl := hGl p
    rw [nI_succ, hG p] at h3
    rw [← hb1] at L1
    rw [← hb2] at L2
    refine AJ.run kX8_last [48] 60 ⟨fun hz => absurd hz ?_, fun _ => ?_⟩
    · show ¬ s 0 ≤ nI p
      rw [hs]; exact nI_ge (by omega) (by omega)
    refine c8_la_in L Q s j a N n0 p (G p).2.1 (G p).2.2 w (G p).1 lt hl (fun q => la1 (s 7) (a 8) lt p q) (fun q => la1 (s 7) (a 8) (fun _ => 1) p q) (fun q => rfl) (fun q => rfl) ?_ 8 0 x9 (by omega) hx
    intro x9 hx9
    try dsimp only
    rw [← hb1, ← hb2]
    have no : ¬ (0 < b2 p ∧ ((G p).1 = -1 ∨ (G p).2.1 * b2 p < b1 p * (G p).2.2)) → AJ L mX8_last 4 0 0 Q n0 (0, 0) 161 [some (.ref 0), some (.int w), some (.int (G p).1), some (.int (nI (G p).2.1)), some (.int (nI (G p).2.2)), some (.int (nI p)), some (.int (nI (b1 p))), some (.int (nI (b2 p))), some (.int (nI 8)), x9] [] (modN s j a N) := by
      intro hc
      have h4 := h3 (some (.int (nI (b1 p)))) (some (.int (nI (b2 p)))) (some (.int (nI 8))) x9 (Or.inr ⟨_, rfl⟩) (Or.inr ⟨_, rfl⟩) (Or.inr ⟨_, rfl⟩) hx9
      rw [if_neg hc] at h4
      exact AJ.run kX8_last [30] 60 h4
    have yes : (0 < b2 p ∧ ((G p).1 = -1 ∨ (G p).2.1 * b2 p < b1 p * (G p).2.2)) → AJ L mX8_last 4 0 0 Q n0 (0, 0) 151 [some (.ref 0), some (.int w), some (.int (G p).1), some (.int (nI (G p).2.1)), some (.int (nI (G p).2.2)), some (.int (nI p)), some (.int (nI (b1 p))), some (.int (nI (b2 p))), some (.int (nI 8)), x9] [] (modN s j a N) := by
      intro hc
      have h4 := h3 (some (.int (nI (b1 p)))) (some (.int (nI (b2 p)))) (some (.int (nI 8))) x9 (Or.inr ⟨_, rfl⟩) (Or.inr ⟨_, rfl⟩) (Or.inr ⟨_, rfl⟩) hx9
      rw [if_pos hc] at h4
      exact AJ.run kX8_last [30] 60 h4
    refine AJ.run kX8_last [161, 151] 60 ⟨fun h5 => no ?_, fun h5 => ⟨fun h6 => yes ?_, fun h6 => ⟨fun h7 => no ?_, fun h7 => yes ?_⟩⟩⟩
    · have := (nI_leI (a := b2 p) (b := 0) (by omega) (by omega)).mp h5
      omega
    · have h5 : ¬ b2 p ≤ 0 := fun z => h5 ((nI_leI (a := b2 p) (b := 0) (by omega) (by omega)).mpr z)
      exact ⟨by omega, Or.inl h6⟩
    · have h6 : ¬ (G p).1 = -1 := h6
      have h7 : nI (b1 p) * nI (G p).2.2 ≤ nI (G p).2.1 * nI (b2 p) := h7
      have m1 : b1 p * (G p).2.2 ≤ 480 * 8 := Nat.mul_le_mul L1 gl.2.2
      have m2 : (G p).2.1 * b2 p ≤ 480 * 8 := Nat.mul_le_mul gl.1 L2
      rw [pk_mul, pk_mul, nI_leI (by omega) (by omega)] at h7
      rintro ⟨-, z | z⟩
      · exact h6 z
      · omega
    · have h5 : ¬ b2 p ≤ 0 := fun z => h5 ((nI_leI (a := b2 p) (b := 0) (by omega) (by omega)).mpr z)
      have h7 : ¬ nI (b1 p) * nI (G p).2.2 ≤ nI (G p).2.1 * nI (b2 p) := h7
      have m1 : b1 p * (G p).2.2 ≤ 480 * 8 := Nat.mul_le_mul L1 gl.2.2
      have m2 : (G p).2.1 * b2 p ≤ 480 * 8 := Nat.mul_le_mul gl.1 L2
      rw [pk_mul, pk_mul, nI_leI (by omega) (by omega)] at h7
      exact ⟨by omega, Or.inr (by omega)⟩
set_option maxHeartbeats 400000 in
theorem c8_last (L : xLn) (s : xN) (j : Int64) (a : Nat → xN) (m l : Nat) (hok : okT s a m) (hl : s 0 = nI l) (hl2 : l ≤ 12) (w : Int32) : CT L mX8_last 4 0 0 [.ref 0, .int w] (modW s j a) (kpQ m s a (lasR s a m w)) := by
  refine CT.of rfl (Nat.le_of_ble_eq_true rfl) (Nat.le_of_ble_eq_true rfl) ?_
  have hQ : ∀ s' a', keptM m s a s' a' → kpQ m s a (lasR s a m w) (some (.int (lasR s a m w))) (modW s' j a') := fun s' a' hK => ⟨rfl, s', j, a', rfl, hK⟩
  have hQ0 := hQ s a (keptM.rf m s a)
  generalize kpQ m s a (lasR s a m w) = Q at hQ hQ0 ⊢
  refine AJ.run kX8_last [] 60 ?_
  refine AJ.callZ kX8_last (c8_in L w 0 2) bX8_in rfl (by decide +kernel) [] rfl rfl rfl rfl rfl ?_
  rintro r rfl
  refine AJ.run kX8_last [12] 60 ⟨fun h => ?_, fun h => ?_⟩
  case refine_2 =>
    rw [bI_eq0] at h
    rw [lasR, if_neg (by rw [h]; simp)] at hQ0
    exact hQ0
  rw [bI_ne0] at h
  rw [lasR, if_pos h, hl, nI_clamp (by omega)] at hQ
  have hmo := dq_hmO (toldP s) a m (by have := hok.2.1; omega)
  have hld : ∀ q, q < 8 → lateP (dq (toldP s) a m) q = nI (lateN (dq (toldP s) a m) q) := fun q hq => (lateN_is hmo hq).1
  have h60 : ∀ q, q < 8 → lateN (dq (toldP s) a m) q ≤ 60 := fun q hq => (lateN_is hmo hq).2
  have hgl := laS_le (s 7) (a 8) h60
  have hg : ∀ p, laS (s 7) (a 8) (lateN (dq (toldP s) a m)) (p + 1) = _ := fun p => rfl
  have hlN : ∀ N, isDay (toldP s) a m N → ∀ q, q < 8 → lateP N q = nI (lateN (dq (toldP s) a m) q) := by
    intro N hN q hq
    obtain ⟨-, h', e1, e2, e3⟩ := hN
    rw [lateP_ag e3 hq]; exact hld q hq
  generalize lateN (dq (toldP s) a m) = lt at hQ hld h60 hgl hlN
  refine AJ.run kX8_last [] 60 ?_
  refine AJ.callF kX8_last (c8_asTold L s j a) bX8_asTold rfl (by decide +kernel) [] rfl rfl rfl rfl rfl rfl rfl rfl ?_
  rintro r Y ⟨rfl, rfl⟩
  refine ⟨rfl, rfl, AJ.run kX8_last [] 60 ?_⟩
  refine AJ.callF kX8_last (c8_dayB L (toldP s) j a m hok.d) bX8_goDay rfl (by decide +kernel) [] rfl rfl rfl rfl rfl rfl rfl rfl ?_
  rintro r Y ⟨rfl, N, A, hN, hA, rfl⟩
  have hlN := hlN N hN
  clear hN
  have key := c8_la_out L Q (toldP s) j (va_up a 27 A) N (modW s j a).length l w hl hl2 lt hlN h60 (laS (s 7) (a 8) lt) (fun p => la1 (s 7) (a 8) lt p 8) (fun p => la1 (s 7) (a 8) (fun _ => 1) p 8) (fun p => rfl) (fun p => rfl) (fun p => rfl) hgl ?_ l 0 none none none none (by omega) (Or.inl rfl) (Or.inl rfl) (Or.inl rfl) (Or.inl rfl)
  · exact ⟨rfl, rfl, AJ.run kX8_last [30] 60 key⟩
  intro x6 x7 x8 x9 i6 i7 i8 i9
  have gl := hgl l
  generalize laS (s 7) (a 8) lt l = S at gl hQ
  obtain ⟨pl, ab, be⟩ := S
  have gl : ab ≤ 480 ∧ 1 ≤ be ∧ be ≤ 8 := gl
  show AJ L mX8_last 4 0 0 Q (modW s j a).length (0, 0) 167 [some (.ref 0), some (.int w), some (.int pl), some (.int (nI ab)), some (.int (nI be)), some (.int (nI l)), x6, x7, x8, x9] [] (modN (toldP s) j (va_up a 27 A) N)
  have wf : ∀ st, xwf (modN (toldP s) j (va_up a 27 A) N) [] st = true → xwf (modN (toldP s) j (va_up a 27 A) N) [some (.ref 0), some (.int w), some (.int pl), some (.int (nI ab)), some (.int (nI be)), some (.int (nI l)), x6, x7, x8, x9] st = true := by
    intro st h
    rcases i6 with rfl | ⟨_, rfl⟩ <;> rcases i7 with rfl | ⟨_, rfl⟩ <;> rcases i8 with rfl | ⟨_, rfl⟩ <;> rcases i9 with rfl | ⟨_, rfl⟩ <;> exact h
  refine AJ.run kX8_last [] 60 ?_
  refine AJ.callF kX8_last (c8_putB L (toldP s) j (va_up a 27 A) N) bX8_putBack rfl (by decide +kernel) [] rfl rfl rfl rfl rfl (wf _ rfl) rfl rfl ?_
  rintro r Y ⟨rfl, B, hB, rfl⟩
  have hQ := hQ (toldP s) (va_up (va_up a 27 A) 26 B) ⟨fun i hi => by
    unfold toldP
    rw [pk_un (by omega), pk_un (by omega), pk_un (by omega)], ⟨rfl, rfl, rfl, rfl, rfl, rfl⟩, fun _ _ => rfl, fun i hi => (hB i hi).trans (hA i hi)⟩
  clear hB hA
  have hpos := gcL_pos (be + 1) ab be (by omega) (Or.inr (by omega))
  have hle := gcL_le (be + 1) ab be 480 gl.1 (by omega)
  -- the division
  have div : ∀ v : Nat, v ≤ 480 → lasA (pl, ab, be) w = nI (v / gcL (be + 1) ab be) → AJ L mX8_last 4 0 0 Q (modW s j a).length (0, 0) 193 [some (.ref 0), some (.int w), some (.int pl), some (.int (nI ab)), some (.int (nI be)), some (.int (nI l)), x6, x7, x8, x9] [.int (nI v)] (modN (toldP s) j (va_up a 27 A) B) := by
    intro v hv he
    refine AJ.run kX8_last [] 60 ?_
    refine AJ.callZ kX8_last (c8_divisor L ab be (by omega) (by omega)) bX8_divisor rfl (by decide +kernel) [.int (nI v)] rfl rfl (wf _ rfl) rfl rfl ?_
    rintro r rfl
    rw [he] at hQ
    generalize gcL (be + 1) ab be = g at hpos hle hQ
    rw [← pk_div (by omega) hpos (by omega)] at hQ
    exact AJ.run kX8_last [] 60 ⟨nI_ne0 hpos (by omega), hQ⟩
  refine ⟨rfl, rfl, AJ.run kX8_last [180, 193] 60 ⟨fun h5 => ?_, fun h5 => ⟨fun h6 => ⟨fun h7 => div be (by omega) ?_, fun h7 => div ab (by omega) ?_⟩, fun h6 => ?_⟩⟩⟩
  · have h5 : pl = -1 := h5
    rw [lasA, if_pos (Or.inl h5)] at hQ
    exact AJ.run kX8_last [] 60 hQ
  · have h5 : ¬ pl = -1 := h5
    have h6 : ¬ w = 0 := h6
    have h7 : ¬ w = 1 := h7
    rw [lasA, if_neg (by rintro (z | z); exact h5 z; exact h6 z), if_neg h7]
  · have h5 : ¬ pl = -1 := h5
    have h6 : ¬ w = 0 := h6
    have h7 : w = 1 := h7
    rw [lasA, if_neg (by rintro (z | z); exact h5 z; exact h6 z), if_pos h7]
  · have h6 : w = 0 := h6
    rw [lasA, if_pos (Or.inr h6)] at hQ
    exact AJ.run kX8_last [] 60 hQ
