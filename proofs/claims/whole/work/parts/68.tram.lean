/-! ===== the class: a tram in its minute ===== -/
theorem haltA_5 (N : xN) {k c h : Nat} (hk : k < 2) (hc : c < 26) : haltA N k c h (5 + k) = 1 ∧ haltA N k c h (67 + c) = 1 := by
  unfold haltA; (try dsimp only)
  exact ⟨by rw [pk_un (by omega), pk_us], pk_us⟩
theorem haltA_row (N : xN) {k c h : Nat} (hk : k < 2) (hc : c < 26) : haltA N k c h (93 + 4 * h) = nI k ∧ haltA N k c h (93 + 4 * h + 1) = N (1 + k) ∧ haltA N k c h (93 + 4 * h + 2) = N 0 ∧ haltA N k c h (93 + 4 * h + 3) = nI c := by
  unfold haltA; (try dsimp only)
  refine ⟨?_, ?_, ?_, ?_⟩
  · rw [pk_un (by omega), pk_un (by omega), pk_un (by omega), pk_un (by omega), pk_un (by omega), pk_un (by omega), pk_us]
  · rw [pk_un (by omega), pk_un (by omega), pk_un (by omega), pk_un (by omega), pk_un (by omega), pk_us, pk_un (by omega)]
  · rw [pk_un (by omega), pk_un (by omega), pk_un (by omega), pk_un (by omega), pk_us, pk_un (by omega), pk_un (by omega)]
  · rw [pk_un (by omega), pk_un (by omega), pk_un (by omega), pk_us]
theorem haltA_hm (N : xN) {k c h : Nat} (hk : k < 2) (hc : c < 26) : haltA N k c h 7 + haltA N k c h 8 = N 7 + N 8 + 1 := by
  have h7 := haltA_7 N (c := c) (h := h) hk
  rcases (show k = 0 ∨ k = 1 by omega) with rfl | rfl
  · rw [show (7 : Nat) = 7 + 0 from rfl, h7, haltA_out N (i := 8) (by omega), Int32.add_assoc, Int32.add_comm 1, ← Int32.add_assoc]
  · rw [show (8 : Nat) = 7 + 1 from rfl, h7, haltA_out N (i := 7) (by omega), Int32.add_assoc]
theorem RA_halt {N d d' : xN} {da da' : Nat → xN} {k c h : Nat} (hk : k < 2) (hc : c < 26) (hA : RA d da N) (d3 : d' 3 = d 3) (d7 : d' 7 = d 7 ||| 1 <<< (nI k &&& 31)) (h4 : da' 4 = da 4) (h5 : da' 5 = da 5) : RA d' da' (haltA N k c h) := by
  refine ⟨by rw [d3, haltA_out N (by omega)]; exact hA.1, fun j hj => ?_⟩
  obtain ⟨a1, a2, a3⟩ := hA.2 j hj
  rw [h4, h5, haltA_out N (i := 1 + j) (by omega), haltA_out N (i := 3 + j) (by omega), d7, set_bit _ (by omega) (by omega)]
  refine ⟨a1, a2, ?_⟩
  by_cases e : j = k
  · subst e; rw [(haltA_5 N hk hc).1]; simp [bI]
  · rw [haltA_out N (by omega), a3]; simp [e]
theorem RF_halt {m b sp k c h : Nat} {s : xN} {a : Nat → xN} {d d' : xN} {da da' : Nat → xN} {N : xN} (hm : m ≤ 26) (hk : k < 2) (hc : c < m) (hF : RF m b sp s a d da N) (d13 : d' 13 = d 13 ||| 1 <<< (nI c &&& 31)) (d12 : d' 12 = d 12 &&& (1 <<< (nI c &&& 31) ^^^ -1)) (h10 : da' 10 = da 10) (h11 : da' 11 = da 11) : RF m b sp s a d' da' (haltA N k c h) := by
  have e41 : ∀ i, i < 26 → haltA N k c h (41 + i) = N (41 + i) := fun i hi => haltA_out N (by omega)
  have e67 : ∀ i, i < 26 → i ≠ c → haltA N k c h (67 + i) = N (67 + i) := fun i hi h => haltA_out N (by omega)
  have ec := (haltA_5 N (h := h) hk (show c < 26 by omega)).2
  refine ⟨fun i hi => ?_, fun p hp i hi => ?_, fun i hi => ?_⟩
  · rw [h10, e41 i hi, d13, set_bit _ (by omega) (by omega)]
    refine ⟨(hF.1 i hi).1, ?_⟩
    by_cases e : i = c
    · subst e; rw [ec]; simp [bI]
    · rw [e67 i hi e, (hF.1 i hi).2]; simp [e]
  · rw [h11, hF.2.1 p hp i hi]
    by_cases h8 : i < m
    · rw [e41 i (by omega)]
    · simp [h8]
  · rw [d12, clr_bit _ (by omega) hi, hF.2.2 i hi]
    by_cases h8 : i < m
    · rw [e41 i (by omega)]
      by_cases e : i = c
      · subst e
        rw [ec]
        simp
      · rw [e67 i (by omega) e]
        simp [e]
    · simp [h8]
theorem hm_nI {N : xN} {h : Nat} (hh : N 7 + N 8 = nI h) (h2 : h < 1000) : hmP N = h := by
  unfold hmP; rw [hh, nI_clamp (by omega)]
theorem RH_halt {N d d' : xN} {da da' : Nat → xN} {k c h : Nat} (hk : k < 2) (hc : c < 26) (hh : N 7 + N 8 = nI h) (h26 : h < 26) (hH : RH d da N) (d20 : d' 20 = nI (h + 1)) (r0 : da' 20 = upd (da 20) h (nI k)) (r1 : da' 21 = upd (da 21) h (N (1 + k))) (r2 : da' 22 = upd (da 22) h (N 0)) (r3 : da' 23 = upd (da 23) h (nI c)) : RH d' da' (haltA N k c h) := by
  have e7 : haltA N k c h 7 + haltA N k c h 8 = nI (h + 1) := by rw [haltA_hm N hk hc, hh, nI_1]
  refine ⟨by rw [e7]; exact d20, fun i hi => ?_⟩
  rw [hm_nI e7 (by omega)] at hi
  rw [r0, r1, r2, r3]
  by_cases e : i = h
  · subst e
    obtain ⟨o1, o2, o3, o4⟩ := haltA_row N (h := i) hk hc
    rw [o1, o2, o3, o4, pk_us, pk_us, pk_us, pk_us]
    exact ⟨rfl, rfl, rfl, rfl⟩
  · rw [pk_un e, pk_un e, pk_un e, pk_un e, haltA_out N (i := 93 + 4 * i) (by omega), haltA_out N (i := 93 + 4 * i + 1) (by omega), haltA_out N (i := 93 + 4 * i + 2) (by omega), haltA_out N (i := 93 + 4 * i + 3) (by omega)]
    exact hH.2 i (by rw [hm_nI hh (by omega)]; omega)
/-- tram k goes on, or halts -/
def trX (s : xN) (a : Nat → xN) (m : Nat) (N : xN) (k : Nat) : xN := if N (5 + k) = 1 ∨ caP (s 30) (s 31) (a 10) N (N (1 + k)) m = -1 then goOnP (s 0) (s 7) (s 4) N k else haltP (s 7) (s 3) (a 8) N k (caP (s 30) (s 31) (a 10) N (N (1 + k)) m).toNatClampNeg (N 7 + N 8).toNatClampNeg
/-- all that a day is, in both -/
def ID (l m g e : Nat) (s : xN) (a : Nat → xN) (N : xN) : Prop := IVa l g s N ∧ IVp e s a N ∧ IVm l m e a N ∧ IVh m e N
theorem caP_un {ns sp : Int32} {mo N : xN} {q : Int32} : ∀ k c, caP ns sp mo N q k = nI c → c < 1000 → k ≤ 26 → N (67 + c) = 0 ∧ N (41 + c) = q
  | 0, c, h, hc, _ => by rw [caP] at h; exact absurd h.symm (nI_m1 (by omega))
  | k + 1, c, h, hc, hk => by
    rw [caP] at h
    split at h
    · next hx =>
      have e : k = c := (nI_eq (by omega) (by omega)).mp h
      subst e
      have := hx.1
      unfold isC at this
      simp only [Bool.and_eq_true, decide_eq_true_eq] at this
      exact ⟨this.1.1.2, this.1.1.1⟩
    · exact caP_un k c h hc (by omega)
set_option maxHeartbeats 1000000 in
theorem cD_runTram (L : xLn) (d : xN) (da : Nat → xN) (t : xN) (ta : Nat → xN) (l m sp g k : Nat) (s : xN) (a : Nat → xN) (N : xN) (hk : k < 2) (hW : WD l m sp s a) (hT : RT m t ta s a) (h60 : g < 60) (h5 : hasP (s 5) (nI k) = true) (hI : ID l m g (g + 1) s a N) (hR : RD m (g + 1) sp s a d da N) : CT L mX0_runTram 2 0 0 [.ref 0, .int (nI k)] (dtW d da t ta) (dtQ t ta (fun d' da' => RD m (g + 1) sp s a d' da' (trX s a m N k))) := by
  refine dt_gen fun Q fin => ?_
  refine CT.of rfl (Nat.le_of_ble_eq_true rfl) (Nat.le_of_ble_eq_true rfl) ?_
  obtain ⟨hIa, hIp, hIm, hIh⟩ := hI
  obtain ⟨hL, hA, hP, hF, hH⟩ := hR
  obtain ⟨⟨hg, -⟩, hIk⟩ := hIa
  obtain ⟨i1, i2, i3⟩ := hIk k hk
  obtain ⟨v, hv, ev⟩ := i1 h5
  have hm := hW.2.1
  have hl := hW.1.2.1
  have a4 : da 4 k = nI v := (hA.2 k hk).1.trans ev
  have hfo : ∀ q, q < 8 → N (17 + q) = nI k → hasP (s 7) (nI q) = true := fun q hq z => (hIp.fo hk hq z).1
  have d3 : d 3 = N 0 := hA.1
  unfold trX at fin
  rw [ev] at fin
  -- it goes on
  have goon : (N (5 + k) = 1 ∨ caP (s 30) (s 31) (a 10) N (nI v) m = -1) → ∀ x : Option Value, AJ L mX0_runTram 2 0 0 Q (dtW d da t ta).length (0, 0) 26 [some (.ref 0), some (.int (nI k)), none] [.int (-1)] (dtW d da t ta) := by
    intro hc x
    rw [if_pos hc] at fin
    refine AJ.run kX0_runTram [] 30 ⟨fun hz => absurd rfl hz, fun _ => ?_⟩
    refine AJ.callF kX0_runTram (cD_moveOn L d da t ta l m sp k v s a N hk hW hT hv ev i2 hA hP hfo) bX0_moveOn rfl (by decide +kernel) [] rfl rfl rfl rfl rfl rfl rfl rfl ?_
    rintro r Y ⟨rfl, d', da', ⟨q1, q2, q3⟩, rfl⟩
    refine ⟨rfl, rfl, ?_⟩
    refine AJ.run kX0_runTram [] 30 (fin d' da' ⟨⟨?_, ?_⟩, q2, q3, ?_, ?_⟩)
    · rw [q1.2 1 (by omega)]; exact hL.1
    · rw [q1.2 2 (by omega)]; exact hL.2
    · have : RF m (g + 1) sp s a d' da' N := by
        unfold RF
        rw [q1.1 10 (by omega) (by omega) (by omega), q1.1 11 (by omega) (by omega) (by omega), q1.2 12 (by omega), q1.2 13 (by omega)]
        exact hF
      exact this.same hm (fun i h1 h2 => goOnP_out _ _ _ _ hk (by omega))
    · have : RH d' da' N := by
        unfold RH
        rw [q1.1 20 (by omega) (by omega) (by omega), q1.1 21 (by omega) (by omega) (by omega), q1.1 22 (by omega) (by omega) (by omega), q1.1 23 (by omega) (by omega) (by omega), q1.2 20 (by omega)]
        exact hH
      exact this.same (fun i h => goOnP_out _ _ _ _ hk (by omega))
  have bit : hasP (d 7) (nI k) = true ↔ N (5 + k) = 1 := by
    rw [(hA.2 k hk).2.2]
    cases hasP (d 7) (nI k) <;> simp [bI]
  refine AJ.run kX0_runTram [26] 60 ⟨fun h6 => ⟨k, rfl, by omega, ?_⟩, fun h6 => ?_⟩
  · have h6 : ¬ d 7 >>> (nI k &&& 31) &&& 1 = 1 := h6
    rw [hasP_iff, bit] at h6
    have ce := cD_eldestCause L d da t ta l m sp g v s a N hW hT hg h60 hv hF
    rw [← a4] at ce
    refine AJ.callF kX0_runTram ce bX0_eldestCause rfl (by decide +kernel) [] rfl rfl rfl rfl rfl rfl rfl rfl ?_
    rintro r Y ⟨rfl, rfl⟩
    refine ⟨rfl, rfl, ?_⟩
    rw [a4]
    rcases caP_in (s 30) (s 31) (a 10) N (nI v) m with hc | ⟨c, hcm, hc⟩
    · rw [hc]
      exact goon (Or.inr hc) none
    rw [hc]
    obtain ⟨u1, u2⟩ := caP_un m c hc (by omega) hm
    obtain ⟨h, e1, e2, e3, e4⟩ := hIh
    have h26 : h < 26 := by
      have := cntB_lt (P := fun k => decide (N (67 + k) = 1)) m c hcm (by rw [u1]; rfl)
      omega
    rw [hc, if_neg (by rintro (z | z); exact h6 z; exact nI_m1 (by omega) z), e1, nI_clamp (by omega), nI_clamp (by omega)] at fin
    unfold haltP at fin
    have d20 : d 20 = nI h := hH.1.trans e1
    -- the halt is noted
    obtain ⟨d1, hd1⟩ : ∃ d1, d1 = upd (upd (upd d 13 (d 13 ||| 1 <<< (nI c &&& 31))) 12 (d 12 &&& (1 <<< (nI c &&& 31) ^^^ -1))) 7 (d 7 ||| 1 <<< (nI k &&& 31)) := ⟨_, rfl⟩
    have g92 : AJ L mX0_runTram 2 0 0 Q (dtW d da t ta).length (0, 0) 92 [some (.ref 0), some (.int (nI k)), some (.int (nI c))] [.int (nI c), .int (d1 3), .int (da 4 k), .int (nI k), .ref 8] (dtW d1 da t ta) := by
      refine AJ.callU kX0_runTram (cH_add L (d1 20) (da 20) (da 21) (da 22) (da 23) h (by rw [hd1]; exact d20) h26 (nI k) (da 4 k) (d1 3) (nI c)) bX2_add rfl (by decide +kernel) [8, 9, 10, 11, 12] [] rfl rfl rfl rfl rfl rfl rfl rfl rfl rfl ?_
      rintro r Y ⟨rfl, rfl⟩
      refine ⟨dtW (upd d1 20 (nI (h + 1))) (va_up (va_up (va_up (va_up da 20 (upd (da 20) h (nI k))) 21 (upd (da 21) h (da 4 k))) 22 (upd (da 22) h (d1 3))) 23 (upd (da 23) h (nI c))) t ta, rfl, rfl, ?_⟩
      obtain ⟨d2, hd2⟩ : ∃ d2, d2 = upd d1 20 (nI (h + 1)) := ⟨_, rfl⟩
      obtain ⟨da2, hda2⟩ : ∃ da2, da2 = (va_up (va_up (va_up (va_up da 20 (upd (da 20) h (nI k))) 21 (upd (da 21) h (da 4 k))) 22 (upd (da 22) h (d1 3))) 23 (upd (da 23) h (nI c))) := ⟨_, rfl⟩
      rw [← hd2, ← hda2]
      have d13 : d1 3 = N 0 := by rw [hd1]; exact d3
      have A2 : RA d2 da2 (haltA N k c h) := RA_halt hk (by omega) hA (by rw [hd2, hd1]; rfl) (by rw [hd2, hd1]; rfl) (by rw [hda2]; rfl) (by rw [hda2]; rfl)
      have F2 : RF m (g + 1) sp s a d2 da2 (haltA N k c h) := RF_halt hm hk hcm hF (by rw [hd2, hd1]; rfl) (by rw [hd2, hd1]; rfl) (by rw [hda2]; rfl) (by rw [hda2]; rfl)
      have H2 : RH d2 da2 (haltA N k c h) := RH_halt hk (by omega) e1 h26 hH (by rw [hd2]; rfl) (by rw [hda2]; rfl) (by rw [hda2, ← (hA.2 k hk).1]; rfl) (by rw [hda2, ← d13]; rfl) (by rw [hda2]; rfl)
      have P2 : RP da2 (haltA N k c h) := by
        have : RP da2 N := by
          unfold RP
          rw [hda2]
          exact hP
        exact this.same (fun i h1 h2 => haltA_out N (by omega))
      have I2 : IVp (g + 1) s a (haltA N k c h) := hIp.same (fun i h1 h2 => haltA_out N (by omega))
      have L2 : RLw s d2 := ⟨by rw [hd2, hd1]; exact hL.1, by rw [hd2, hd1]; exact hL.2⟩
      have g0 : haltA N k c h 0 = nI g := by rw [haltA_out N (by omega)]; exact hg
      clear hd2 hda2 hd1
      refine AJ.run kX0_runTram [] 30 ?_
      refine AJ.callF kX0_runTram (cD_letOff L d2 da2 t ta m g (g + 1) k s a (haltA N k c h) hk hT g0 (by omega) h60 h5 I2 A2 P2) bX0_letOff rfl (by decide +kernel) [] rfl rfl rfl rfl rfl rfl rfl rfl ?_
      rintro r Y ⟨rfl, d3, da3, ⟨rfl, s3, P3⟩, rfl⟩
      refine ⟨rfl, rfl, ?_⟩
      have cnt := offL_cnt hk g0 (by omega) h60 h5 I2 8 (by omega)
      have I3 := IVp_offL hk g0 (by omega) h60 h5 I2 8 (by omega)
      have lo : ∀ i, i < 9 ∨ 33 ≤ i → (offL (s 7) (a 8) k (haltA N k c h) 8).1 i = haltA N k c h i := fun i hi => offL_out (s 7) (a 8) _ hi 8 (by omega)
      generalize offL (s 7) (a 8) k (haltA N k c h) 8 = S at fin P3 cnt I3 lo
      obtain ⟨vs, -, hv6, hvs⟩ := hW.2.2.2.2.1
      refine AJ.run kX0_runTram [] 30 ?_
      refine AJ.callF kX0_runTram (cD_letOn L d3 da3 t ta m (g + 1) k (cntB (fun i => decide (S.1 (17 + i) = nI k)) 8) vs s a S hk hT hvs hv6 h5 I3 (by rw [s3 4 (by omega) (by omega), (A2.2 k hk).1, lo _ (by omega)]) P3 cnt (cntB_le _ _) (by
        rw [bitsP_cnt _ 8 (by omega)]
        exact congrArg nI (cntB_congr 8 (fun i hi => by rw [P3.1 k hk i (by omega)]; simp [hi])))) bX0_letOn rfl (by decide +kernel) [] rfl rfl rfl rfl rfl rfl rfl rfl ?_
      rintro r Y ⟨rfl, d4, da4, ⟨rfl, s4, P4⟩, rfl⟩
      refine ⟨rfl, rfl, ?_⟩
      have lo2 : ∀ i, i < 9 ∨ 33 ≤ i → (onL (s 7) (s 3) k S 8).1 i = haltA N k c h i := fun i hi => (onL_out (s 7) (s 3) S (by omega) 8 (by omega)).trans (lo i hi)
      refine AJ.run kX0_runTram [] 30 (fin d4 da4 ⟨L2, ?_, P4, ?_, ?_⟩)
      · have : RA d4 da4 (haltA N k c h) := by
          unfold RA
          rw [s4 4 (by omega) (by omega), s4 5 (by omega) (by omega), s3 4 (by omega) (by omega), s3 5 (by omega) (by omega)]
          exact A2
        exact this.same (fun i hi => lo2 i (by omega))
      · have : RF m (g + 1) sp s a d4 da4 (haltA N k c h) := by
          unfold RF
          rw [s4 10 (by omega) (by omega), s4 11 (by omega) (by omega), s3 10 (by omega) (by omega), s3 11 (by omega) (by omega)]
          exact F2
        exact this.same hm (fun i h1 h2 => lo2 i (by omega))
      · have : RH d4 da4 (haltA N k c h) := by
          unfold RH
          rw [s4 20 (by omega) (by omega), s4 21 (by omega) (by omega), s4 22 (by omega) (by omega), s4 23 (by omega) (by omega), s3 20 (by omega) (by omega), s3 21 (by omega) (by omega), s3 22 (by omega) (by omega), s3 23 (by omega) (by omega)]
          exact H2
        exact this.same (fun i h => lo2 i (by omega))
    rw [hd1] at g92
    exact AJ.run kX0_runTram [92] 60 ⟨fun _ => ⟨k, rfl, by omega, g92⟩, fun z => absurd z (nI_m1 (by omega))⟩
  · have h6 : d 7 >>> (nI k &&& 31) &&& 1 = 1 := h6
    rw [hasP_iff, bit] at h6
    exact goon (Or.inl h6) none
