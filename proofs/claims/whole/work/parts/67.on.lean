/-! ===== the class: people get on; a halt is noted ===== -/
theorem IVp_onS {e k q : Nat} {s : xN} {a : Nat → xN} {se : Int32} {S : xN × Int32} (hk : k < 2) (hq : q < 8) (h5 : hasP (s 5) (nI k) = true) (h : IVp e s a S.1) : IVp e s a (onS (s 7) se k q S).1 := by
  unfold onS
  split
  · next hc =>
    show IVp e s a (upd S.1 (17 + q) (nI k))
    intro p hp
    rw [pk_un (show 25 + p ≠ 17 + q by omega), pk_un (show 33 + p ≠ 17 + q by omega), pk_un (show 9 + p ≠ 17 + q by omega)]
    by_cases ep : p = q
    · subst ep
      rw [pk_us]
      exact ⟨Or.inr ⟨k, hk, rfl, h5, hc.1, hc.2.2.1⟩, (h p hp).2⟩
    · rw [pk_un (by omega)]
      exact h p hp
  · exact h
theorem IVp_onL {e k : Nat} {s : xN} {a : Nat → xN} {se : Int32} {S : xN × Int32} (hk : k < 2) (h5 : hasP (s 5) (nI k) = true) (h : IVp e s a S.1) : ∀ q, q ≤ 8 → IVp e s a (onL (s 7) se k S q).1
  | 0, _ => h
  | q + 1, hq => IVp_onS hk (by omega) h5 (IVp_onL hk h5 h q (by omega))
theorem onL_full {fo se : Int32} {k : Nat} {S : xN × Int32} {q : Nat} (h : ¬ (onL fo se k S q).2 < se) : ∀ n, onL fo se k S (q + n) = onL fo se k S q
  | 0 => rfl
  | n + 1 => by
    have ih := onL_full h n
    rw [← Nat.add_assoc, onL, ih, onS, if_neg (fun z => h z.2.2.2.2)]
theorem sub_dec (x y : Int32) : x - y + (-1) = x - (y + 1) := by
  rw [Int32.sub_eq_add_neg, Int32.sub_eq_add_neg, Int32.neg_add, Int32.sub_eq_add_neg, Int32.add_assoc]
theorem onL_c {fo se : Int32} {k : Nat} {S : xN × Int32} {c : Nat} (hS : S.2 = nI c) : ∀ q, ∃ c', c' ≤ c + q ∧ (onL fo se k S q).2 = nI c'
  | 0 => ⟨c, Nat.le_refl _, hS⟩
  | q + 1 => by
    obtain ⟨c', h1, h2⟩ := onL_c (fo := fo) (se := se) (k := k) hS q
    rw [onL, onS]
    split
    · exact ⟨c' + 1, by omega, by show (onL fo se k S q).2 + 1 = _; rw [h2, nI_1]⟩
    · exact ⟨c', by omega, h2⟩
set_option maxHeartbeats 1000000 in
theorem cD_letOn (L : xLn) (d : xN) (da : Nat → xN) (t : xN) (ta : Nat → xN) (m e k c v : Nat) (s : xN) (a : Nat → xN) (S0 : xN × Int32) (hk : k < 2) (hT : RT m t ta s a) (hv : s 3 = nI v) (hv6 : v ≤ 6) (h5 : hasP (s 5) (nI k) = true) (hI : IVp e s a S0.1) (h4 : da 4 k = S0.1 (1 + k)) (hP : RP da S0.1) (hc : S0.2 = nI c) (hc8 : c ≤ 8) (hcb : bitsP (da 6 k) 8 = nI c) : CT L mX0_letOn 1 0 0 [.ref 0, .int (nI k)] (dtW d da t ta) (dtQ t ta (fun d' da' => d' = d ∧ smP da da' ∧ RP da' (onL (s 7) (s 3) k S0 8).1)) := by
  refine dt_gen fun Q fin => ?_
  refine CT.of rfl (Nat.le_of_ble_eq_true rfl) (Nat.le_of_ble_eq_true rfl) ?_
  have t3 : t 3 = nI v := hT.1.2.2.2.1.trans hv
  have hx : AJ L mX0_letOn 1 0 0 Q (dtW d da t ta).length (0, 0) 20 [some (.ref 0), some (.int (nI k)), some (.int (nI v - nI c)), some (.int (nI 0)), none] [] (dtW d da t ta) → AJ L mX0_letOn 1 0 0 Q (dtW d da t ta).length (0, 0) 0 [some (.ref 0), some (.int (nI k)), none, none, none] [] (dtW d da t ta) := by
    intro go
    refine AJ.run kX0_letOn [] 60 ⟨k, rfl, by omega, ?_⟩
    refine AJ.callZ kX0_letOn (cJ_bitCount L (da 6 k) (fun q h1 h2 => by rw [hP.1 k hk q h2]; have : ¬ q < 8 := by omega
                                                                         simp [this])) bJ6_bitCount_0f7a4 rfl (by decide +kernel) [.int (t 3)] rfl rfl rfl rfl rfl ?_
    rintro r rfl
    rw [hcb, t3]
    exact AJ.run kX0_letOn [20] 60 go
  refine hx ?_
  have loop : ∀ (n q c : Nat) (da' : Nat → xN) (x4 : Option Value), q + n = 8 → oI x4 → smP da da' → RP da' (onL (s 7) (s 3) k S0 q).1 → (onL (s 7) (s 3) k S0 q).2 = nI c → c ≤ 8 + q → AJ L mX0_letOn 1 0 0 Q (dtW d da t ta).length (0, 0) 20 [some (.ref 0), some (.int (nI k)), some (.int (nI v - nI c)), some (.int (nI q)), x4] [] (dtW d da' t ta) := by
    intro n
    induction n with
    | zero =>
      intro q c da' x4 hq hx hs hR h2 hcq
      obtain rfl : q = 8 := by omega
      exact AJ.run kX0_letOn [20] 30 ⟨fun _ => fin d da' ⟨rfl, hs, hR⟩, fun hz => absurd (by decide) hz⟩
    | succ n ih =>
      intro q c da' x4 hq hx hs hR h2 hcq
      have nxt := fun c' da'' x4' => ih (q + 1) c' da'' x4' (by omega)
      rw [nI_succ, onL] at nxt
      have hIq := IVp_onL (se := s 3) hk h5 hI q (by omega)
      have lo : ∀ i, i < 17 → (onL (s 7) (s 3) k S0 q).1 i = S0.1 i := fun i hi => onL_out (s 7) (s 3) S0 (Or.inl hi) q (by omega)
      have full := fun z => onL_full (fo := s 7) (se := s 3) (k := k) (S := S0) (q := q) z (n + 1)
      rw [show q + (n + 1) = 8 by omega] at full
      have vc : (nI v - nI c ≤ 0) ↔ v ≤ c := by
        rw [i32_le, pk_sub_toInt (by omega) (by omega)]
        have : (0 : Int32).toInt = 0 := rfl
        omega
      have vlt : (onL (s 7) (s 3) k S0 q).2 < s 3 ↔ c < v := by
        rw [h2, hv, nI_ltI (by omega) (by omega)]
      generalize hS : onL (s 7) (s 3) k S0 q = S at hR nxt hIq lo full vlt h2
      have e4 : da' 4 k = S.1 (1 + k) := by rw [hs 4 (by omega) (by omega), h4, lo (1 + k) (by omega)]
      have e10 : ta 10 q = a 8 (2 * q) := (hT.2.2.1 q (by omega)).1
      have t9 : t 9 = s 7 := hT.1.2.2.2.2.2.2.1
      have skip : ∀ x4', oI x4' → ¬ (hasP (s 7) (nI q) = true ∧ S.1 (17 + q) = -1 ∧ S.1 (25 + q) = -1 ∧ S.1 (9 + q) = S.1 (1 + k) ∧ S.2 < s 3) → AJ L mX0_letOn 1 0 0 Q (dtW d da t ta).length (0, 0) 20 [some (.ref 0), some (.int (nI k)), some (.int (nI v - nI c)), some (.int (nI q + 1)), x4'] [] (dtW d da' t ta) := by
        intro x4' hx' hn
        refine nxt c da' x4' hx' hs ?_ ?_ (by omega)
        · rw [onS, if_neg hn]; exact hR
        · rw [onS, if_neg hn]; exact h2
      have skip64 : ¬ (hasP (s 7) (nI q) = true ∧ S.1 (17 + q) = -1 ∧ S.1 (25 + q) = -1) → AJ L mX0_letOn 1 0 0 Q (dtW d da t ta).length (0, 0) 64 [some (.ref 0), some (.int (nI k)), some (.int (nI v - nI c)), some (.int (nI q)), x4] [] (dtW d da' t ta) := by
        intro hn
        have sk := skip (some (.int 0)) (Or.inr ⟨_, rfl⟩) (fun z => hn ⟨z.1, z.2.1, z.2.2.1⟩)
        exact AJ.run kX0_letOn [20] 60 ⟨fun _ => sk, fun hz => absurd rfl hz⟩
      have wf : ∀ rest, (rest = [] ∨ rest = [Value.int (-1)]) → xwf (dtW d da' t ta) [some (.ref 0), some (.int (nI k)), some (.int (nI v - nI c)), some (.int (nI q)), x4] rest = true := by
        intro rest hr
        rcases hx with rfl | ⟨u, rfl⟩ <;> rcases hr with rfl | rfl <;> rfl
      refine AJ.run kX0_letOn [20] 60 ⟨fun hz => absurd hz (nI_ge (b := 8) (by omega) (by omega)), fun hz => ⟨fun h6 => fin d da' ⟨rfl, hs, ?_⟩, fun h6 => ?_⟩⟩
      · have h6 : v ≤ c := vc.mp h6
        rw [full (fun z => by have := vlt.mp z; omega)]
        exact hR
      have h6 : ¬ v ≤ c := fun z => h6 (vc.mpr z)
      refine AJ.callP kX0_letOn (cT_isPerson L t ta (nI q)) bX6_isPerson rfl (by decide +kernel) [13, 14, 15, 16, 17, 18, 19, 20, 21, 22] [] rfl rfl rfl rfl rfl rfl rfl (wf [] (Or.inl rfl)) rfl rfl ?_
      rintro r rfl
      rw [in_nI' (by omega) (by omega), show decide (q ≤ 7) = true by simp; omega, Bool.true_and, t9]
      refine AJ.run kX0_letOn [20, 64] 60 ⟨fun h7 => skip64 ?_, fun h7 => ⟨q, rfl, by omega, fun h8 => skip64 ?_, fun h8 => ?_⟩⟩
      · rw [bI_eq0] at h7
        simp [h7]
      · have h8 : ¬ da' 8 q = -1 := h8
        rw [(hR.2 q (by omega)).1] at h8
        simp [h8]
      rw [bI_ne0] at h7
      have h8 : da' 8 q = -1 := h8
      rw [(hR.2 q (by omega)).1] at h8
      refine AJ.callF kX0_letOn (cD_tramOf L d da' t ta S.1 q (by omega) hR hIq.ab) bX0_tramOf rfl (by decide +kernel) [] rfl rfl rfl rfl rfl (wf [] (Or.inl rfl)) rfl rfl ?_
      rintro r Y ⟨rfl, rfl⟩
      refine ⟨rfl, rfl, ?_⟩
      refine AJ.run kX0_letOn [20, 64] 60 ⟨fun h9 => skip64 (fun z => h9 z.2.1), fun h9 => ⟨fun hz => absurd hz (by decide), fun _ => ⟨q, rfl, by omega, k, rfl, by omega, fun h10 => skip (some (.int 1)) (Or.inr ⟨_, rfl⟩) ?_, fun h10 => ⟨k, rfl, by omega, k, rfl, by omega, ?_⟩⟩⟩⟩
      · have h10 : ¬ ta 10 q = da' 4 k := h10
        rintro ⟨-, -, z1, z2, -⟩
        rw [(hIq q (by omega)).2.2.1, if_pos z1] at z2
        exact h10 (by rw [e10, z2, e4])
      have h9 : S.1 (17 + q) = -1 := h9
      have h10 : ta 10 q = da' 4 k := h10
      have h11 : S.1 (9 + q) = S.1 (1 + k) := by rw [(hIq q (by omega)).2.2.1, if_pos h8, ← e10, h10, e4]
      have hon : onS (s 7) (s 3) k q S = (upd S.1 (17 + q) (nI k), S.2 + 1) := by
        rw [onS, if_pos ⟨h7, h9, h8, h11, vlt.mpr (by omega)⟩]
      rw [hon] at nxt
      have n5 := nxt (c + 1)
      rw [show nI v - nI (c + 1) = nI v - nI c + (-1) by rw [nI_succ, sub_dec]] at n5
      refine n5 (va_up da' 6 (upd (da' 6) k (da' 6 k ||| 1 <<< (nI q &&& 31)))) (some (.int 1)) (Or.inr ⟨_, rfl⟩) (fun i x1 x2 => by rw [va_up_ne _ _ x1]; exact hs i x1 x2) ⟨fun j hj p hp => ?_, fun p hp => ?_⟩ ?_ (by omega)
      · show hasP (upd (da' 6) k _ j) (nI p) = decide (p < 8 ∧ upd S.1 (17 + q) (nI k) (17 + p) = nI j)
        have old := hR.1 j hj p hp
        by_cases ej : j = k
        · subst ej
          rw [pk_us, set_bit _ (by omega) hp, old]
          by_cases ep : p = q
          · subst ep
            rw [pk_us]
            have : p < 8 := by omega
            simp [this]
          · rw [pk_un (show 17 + p ≠ 17 + q by omega)]
            simp [ep]
        · rw [pk_un ej, old]
          by_cases ep : p = q
          · subst ep
            rw [pk_us, h9]
            have n1 : ¬ (-1 : Int32) = nI j := fun z => nI_m1 (by omega) z.symm
            have n2 : ¬ nI k = nI j := by rw [nI_eq (by omega) (by omega)]; omega
            simp [n1, n2]
          · rw [pk_un (show 17 + p ≠ 17 + q by omega)]
      · show da' 8 p = upd S.1 (17 + q) (nI k) (25 + p) ∧ da' 9 p = upd S.1 (17 + q) (nI k) (33 + p)
        rw [pk_un (by omega), pk_un (by omega)]
        exact hR.2 p hp
      · show S.2 + 1 = nI (c + 1)
        rw [h2, nI_1]
  exact loop 8 0 c da none (by omega) (Or.inl rfl) (fun _ _ _ => rfl) hP hc (by omega)
def halW (b : Nat) (z : Int32) (f0 f1 f2 f3 : xN) : List xE := [.inr (.inr (2, [.ref (b + 1), .ref (b + 2), .ref (b + 3), .ref (b + 4), .int z])), .inl (0, 26, f0), .inl (0, 26, f1), .inl (0, 26, f2), .inl (0, 26, f3)]
theorem cH_add (L : xLn) (z : Int32) (f0 f1 f2 f3 : xN) (h : Nat) (hz : z = nI h) (hh : h < 26) (v0 v1 v2 v3 : Int32) : CT L mX2_add 0 0 0 [.ref 0, .int v0, .int v1, .int v2, .int v3] (halW 0 z f0 f1 f2 f3) (eqQ none (halW 0 (nI (h + 1)) (upd f0 h v0) (upd f1 h v1) (upd f2 h v2) (upd f3 h v3))) := by
  refine CT.of rfl (Nat.le_of_ble_eq_true rfl) (Nat.le_of_ble_eq_true rfl) ?_
  subst hz
  rw [nI_succ]
  exact AJ.run kX2_add [] 60 ⟨fun hz => absurd hz (nI_ge (b := 26) (by omega) (by omega)), fun _ => ⟨h, rfl, by omega, h, rfl, by omega, h, rfl, by omega, h, rfl, by omega, rfl, rfl⟩⟩
