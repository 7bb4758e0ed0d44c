set_option maxRecDepth 100000 in
theorem c7_ret {L : xLn} {M : xM} {d : Nat} {Q : Option Value → List xE → Prop} {n0 pc : Nat} {ls : List (Option Value)} {v : Int32} {x : xN} {xa : Nat → xN} {D : Nat → xN} {E : Nat → Nat → xN} {T : Nat → xN} {U : Nat → Nat → xN} (hM : xMk M = true) {nx tg : Nat} {v0 : Int32} {w : Int64} {a b t : Nat} {sw : List (Int32 × Nat)} (ho : xat M pc = some (.ireturn, nx, tg, v0, w, a, b, t, sw)) (hr : xret M = some .int) (h : Q (some (.int v)) (clsW x xa D E T U)) : AJ L M d 0 0 Q n0 (0, 0) pc ls [.int v] (clsW x xa D E T U) := by
  refine AJ.run hM [] 0 ?_
  rw [ho]
  show h_b (Nat.ble 0 0 && Nat.ble 0 0 && (clsW x xa D E T U).all (xoke (clsW x xa D E T U).length)) (xrr M Q [.int v] (clsW x xa D E T U))
  rw [cls_len, cls_ok]
  show xrr M Q [.int v] (clsW x xa D E T U)
  unfold xrr
  rw [hr]
  exact h
/-! ===== the class: what is asked of today ===== -/
set_option maxRecDepth 100000 in
set_option maxHeartbeats 4000000 in
theorem c7_count (L : xLn) (l m sp n c : Nat) (x : xN) (xa : Nat → xN) (D : Nat → xN) (E : Nat → Nat → xN) (T : Nat → xN) (U : Nat → Nat → xN) (s : xN) (a : Nat → xN) (hC : CI l m sp n c x xa D E T U s a) (k : Int32) : CT L mX7_count 0 0 0 [.ref 0, .int k] (clsW x xa D E T U) (ciQ l m sp n c s a (cntP s a k)) := by
  obtain ⟨v, hv⟩ : ∃ v, v = cntP s a k := ⟨_, rfl⟩
  rw [← hv]
  obtain ⟨Q, hQ⟩ : ∃ Q, Q = ciQ l m sp n c s a v := ⟨_, rfl⟩
  have fin : ∀ x xa D E T U y, CI l m sp n c x xa D E T U s a → v = y → Q (some (.int y)) (clsW x xa D E T U) := by rintro x xa D E T U y hC rfl; rw [hQ]; exact ⟨rfl, x, xa, D, E, T, U, hC, rfl⟩
  rw [← hQ]
  clear hQ
  have fin0 := fun y => fin x xa D E T U y hC
  obtain ⟨⟨hW, hT, h2, hs1, hs2⟩, ⟨n1, n2, n3, n4⟩, ⟨c1, c2, c3, c4⟩, ⟨g, hI, hR⟩, hK, hF, hB⟩ := id hC
  obtain ⟨⟨t0, t1, t2, t3, t4, t5, t9, t12⟩, tt, tp, tm, tb⟩ := id hT
  obtain ⟨⟨l2, l12, s0⟩, ⟨m24, s9⟩, -⟩ := id hW
  refine CT.of rfl (Nat.le_of_ble_eq_true rfl) (Nat.le_of_ble_eq_true rfl) ?_
  unfold cntP at hv
  exact AJ.run kX7_count [71, 79, 87, 95, 103, 111, 119, 127, 135, 146, 154, 162, 165] 40 ⟨fun z0 => (c7_ret kX7_count rfl rfl (fin0 _ (by rw [hv, if_pos z0]; exact t0.symm))), fun z0 => ⟨fun z1 => (c7_ret kX7_count rfl rfl (fin0 _ (by rw [hv, if_neg z0, if_pos z1]; exact t1.symm))), fun z1 => ⟨fun z2 => (c7_ret kX7_count rfl rfl (fin0 _ (by rw [hv, if_neg z0, if_neg z1, if_pos z2]; exact t2.symm))), fun z2 => ⟨fun z3 => (c7_ret kX7_count rfl rfl (fin0 _ (by rw [hv, if_neg z0, if_neg z1, if_neg z2, if_pos z3]; exact t3.symm))), fun z3 => ⟨fun z4 => (c7_ret kX7_count rfl rfl (fin0 _ (by rw [hv, if_neg z0, if_neg z1, if_neg z2, if_neg z3, if_pos z4]; exact t4.symm))), fun z4 => ⟨fun z5 => (c7_ret kX7_count rfl rfl (fin0 _ (by rw [hv, if_neg z0, if_neg z1, if_neg z2, if_neg z3, if_neg z4, if_pos z5]; exact t5.symm))), fun z5 => ⟨fun z6 => (c7_ret kX7_count rfl rfl (fin0 _ (by rw [hv, if_neg z0, if_neg z1, if_neg z2, if_neg z3, if_neg z4, if_neg z5, if_pos z6]; exact t9.symm))), fun z6 => ⟨fun z7 => (c7_ret kX7_count rfl rfl (fin0 _ (by rw [hv, if_neg z0, if_neg z1, if_neg z2, if_neg z3, if_neg z4, if_neg z5, if_neg z6, if_pos z7]; exact (t12.trans s9.symm).symm))), fun z7 => ⟨fun z8 => (c7_ret kX7_count rfl rfl (fin0 _ (by rw [hv, if_neg z0, if_neg z1, if_neg z2, if_neg z3, if_neg z4, if_neg z5, if_neg z6, if_neg z7, if_pos z8]; exact hR.2.1.1.symm))), fun z8 => ⟨fun z9 => (c7_ret kX7_count rfl rfl (fin0 _ (by rw [hv, if_neg z0, if_neg z1, if_neg z2, if_neg z3, if_neg z4, if_neg z5, if_neg z6, if_neg z7, if_neg z8, if_pos z9]; exact hR.2.2.2.2.1.symm))), fun z9 => ⟨fun z10 => (c7_ret kX7_count rfl rfl (fin0 _ (by rw [hv, if_neg z0, if_neg z1, if_neg z2, if_neg z3, if_neg z4, if_neg z5, if_neg z6, if_neg z7, if_neg z8, if_neg z9, if_pos z10]; exact (c3.trans c2.symm).symm))), fun z10 => ⟨fun z11 => (c7_ret kX7_count rfl rfl (fin0 _ (by rw [hv, if_neg z0, if_neg z1, if_neg z2, if_neg z3, if_neg z4, if_neg z5, if_neg z6, if_neg z7, if_neg z8, if_neg z9, if_neg z10, if_pos z11]; exact (n3.trans n2.symm).symm))), fun z11 => (c7_ret kX7_count rfl rfl (fin0 _ (by rw [hv, if_neg z0, if_neg z1, if_neg z2, if_neg z3, if_neg z4, if_neg z5, if_neg z6, if_neg z7, if_neg z8, if_neg z9, if_neg z10, if_neg z11])))⟩⟩⟩⟩⟩⟩⟩⟩⟩⟩⟩⟩
set_option maxRecDepth 100000 in
set_option maxHeartbeats 4000000 in
theorem c7_mood (L : xLn) (l m sp n c : Nat) (x : xN) (xa : Nat → xN) (D : Nat → xN) (E : Nat → Nat → xN) (T : Nat → xN) (U : Nat → Nat → xN) (s : xN) (a : Nat → xN) (hC : CI l m sp n c x xa D E T U s a) (k w : Int32) : CT L mX7_mood 0 0 0 [.ref 0, .int k, .int w] (clsW x xa D E T U) (ciQ l m sp n c s a (moodP s a k w)) := by
  obtain ⟨v, hv⟩ : ∃ v, v = moodP s a k w := ⟨_, rfl⟩
  rw [← hv]
  obtain ⟨Q, hQ⟩ : ∃ Q, Q = ciQ l m sp n c s a v := ⟨_, rfl⟩
  have fin : ∀ x xa D E T U y, CI l m sp n c x xa D E T U s a → v = y → Q (some (.int y)) (clsW x xa D E T U) := by rintro x xa D E T U y hC rfl; rw [hQ]; exact ⟨rfl, x, xa, D, E, T, U, hC, rfl⟩
  rw [← hQ]
  clear hQ
  have fin0 := fun y => fin x xa D E T U y hC
  obtain ⟨⟨hW, hT, h2, hs1, hs2⟩, ⟨n1, n2, n3, n4⟩, ⟨c1, c2, c3, c4⟩, ⟨g, hI, hR⟩, hK, hF, hB⟩ := id hC
  obtain ⟨⟨t0, t1, t2, t3, t4, t5, t9, t12⟩, tt, tp, tm, tb⟩ := id hT
  obtain ⟨⟨l2, l12, s0⟩, ⟨m24, s9⟩, -⟩ := id hW
  refine CT.of rfl (Nat.le_of_ble_eq_true rfl) (Nat.le_of_ble_eq_true rfl) ?_
  unfold moodP at hv
  rw [s9] at hv
  rcases pk_ix k (n := m) (by omega) with hk | hk | ⟨p, hp, rfl⟩
  · rw [in_out (Or.inl hk), if_neg (by simp)] at hv
    exact AJ.run kX7_mood [17, 61, 71, 81, 91, 103, 106] 40 ⟨fun _ => (c7_ret kX7_mood rfl rfl (fin0 _ hv)), fun z => absurd hk z⟩
  · have e : inP k 0 (nI m - 1) = false := by
      cases hb : inP k 0 (nI m - 1) with
      | false => rfl
      | true =>
        obtain ⟨p, hp, e⟩ := in_lt (by omega) hb
        rw [e] at hk
        exact absurd hk (nI_ge hp (by omega))
    rw [e, if_neg (by simp)] at hv
    refine AJ.run kX7_mood [17, 61, 71, 81, 91, 103, 106] 40 ⟨fun _ => (c7_ret kX7_mood rfl rfl (fin0 _ hv)), fun _ => ⟨fun z => absurd z ?_, fun _ => (c7_ret kX7_mood rfl rfl (fin0 _ hv))⟩⟩
    show ¬ k < T 0 12
    rw [t12]
    exact le_nlt.mp hk
  · rw [lt_in (by omega) hp, if_pos rfl, nI_clamp (by omega)] at hv
    refine AJ.run kX7_mood [17, 61, 71, 81, 91, 103, 106] 60 ⟨fun z => absurd z (nI_pos (by omega)), fun _ => ⟨fun _ => ⟨fun z0 => ⟨p, rfl, by omega, (c7_ret kX7_mood rfl rfl (fin0 _ (by rw [hv, if_pos z0]; exact (tm p hp).1.symm)))⟩, fun z0 => ⟨fun z1 => ⟨p, rfl, by omega, (c7_ret kX7_mood rfl rfl (fin0 _ (by rw [hv, if_neg z0, if_pos z1]; exact (tm p hp).2.1.symm)))⟩, fun z1 => ⟨fun z2 => ⟨p, rfl, by omega, (c7_ret kX7_mood rfl rfl (fin0 _ (by rw [hv, if_neg z0, if_neg z1, if_pos z2]; exact (tm p hp).2.2.symm)))⟩, fun z2 => ⟨fun z3 => ⟨p, rfl, by omega, (c7_ret kX7_mood rfl rfl (fin0 _ (by rw [hv, if_neg z0, if_neg z1, if_neg z2, if_pos z3]; exact (hR.2.2.2.1.1 p (by omega)).1.symm)))⟩, fun z3 => ⟨fun z4 => (c7_ret kX7_mood rfl rfl (fin0 _ (by rw [hv, if_neg z0, if_neg z1, if_neg z2, if_neg z3, if_pos z4]; rw [hasP_val _ (by omega)]; exact (hR.2.2.2.1.1 p (by omega)).2))), fun z4 => (c7_ret kX7_mood rfl rfl (fin0 _ (by rw [hv, if_neg z0, if_neg z1, if_neg z2, if_neg z3, if_neg z4])))⟩⟩⟩⟩⟩, fun z => absurd ?_ z⟩⟩
    show nI p < T 0 12
    rw [t12]
    exact nI_lt hp (by omega)
theorem abrL_bit (fo : Int32) (N : xN) (k : Int32) {q : Nat} (hq : q < 32) : ∀ n, n ≤ 8 → hasP (abrL fo N k n) (nI q) = decide (q < n ∧ hasP fo (nI q) = true ∧ N (17 + q) = k)
  | 0, _ => by rw [abrL, zero_bit hq]; simp
  | n + 1, hn => by
    have ih := abrL_bit fo N k hq n (by omega)
    rw [abrL, or_bit _ _ hq, ih]
    by_cases e : q = n
    · subst e
      by_cases c : hasP fo (nI q) = true ∧ N (17 + q) = k
      · rw [if_pos c, one_bit (by omega) hq]; simp [c]
      · rw [if_neg c, zero_bit hq]
        have : ¬ (q < q + 1 ∧ hasP fo (nI q) = true ∧ N (17 + q) = k) := fun z => c z.2
        rw [decide_eq_false this]
        simp
    · have e2 : (q < n + 1) ↔ q < n := by omega
      simp only [e2]
      split
      · rw [one_bit (by omega) hq]; simp [e]
      · rw [zero_bit hq]; simp
set_option maxRecDepth 100000 in
set_option maxHeartbeats 4000000 in
theorem c7_tram (L : xLn) (l m sp n c : Nat) (x : xN) (xa : Nat → xN) (D : Nat → xN) (E : Nat → Nat → xN) (T : Nat → xN) (U : Nat → Nat → xN) (s : xN) (a : Nat → xN) (hC : CI l m sp n c x xa D E T U s a) (k w : Int32) : CT L mX7_tram 1 0 0 [.ref 0, .int k, .int w] (clsW x xa D E T U) (ciQ l m sp n c s a (tramP s a k w)) := by
  obtain ⟨v, hv⟩ : ∃ v, v = tramP s a k w := ⟨_, rfl⟩
  rw [← hv]
  obtain ⟨Q, hQ⟩ : ∃ Q, Q = ciQ l m sp n c s a v := ⟨_, rfl⟩
  have fin : ∀ x xa D E T U y, CI l m sp n c x xa D E T U s a → v = y → Q (some (.int y)) (clsW x xa D E T U) := by rintro x xa D E T U y hC rfl; rw [hQ]; exact ⟨rfl, x, xa, D, E, T, U, hC, rfl⟩
  rw [← hQ]
  clear hQ
  have fin0 := fun y => fin x xa D E T U y hC
  obtain ⟨⟨hW, hT, h2, hs1, hs2⟩, ⟨n1, n2, n3, n4⟩, ⟨c1, c2, c3, c4⟩, ⟨g, hI, hR⟩, hK, hF, hB⟩ := id hC
  obtain ⟨⟨t0, t1, t2, t3, t4, t5, t9, t12⟩, tt, tp, tm, tb⟩ := id hT
  obtain ⟨⟨l2, l12, s0⟩, ⟨m24, s9⟩, -⟩ := id hW
  refine CT.of rfl (Nat.le_of_ble_eq_true rfl) (Nat.le_of_ble_eq_true rfl) ?_
  unfold tramP at hv
  refine AJ.run kX7_tram [13, 53, 63, 73, 85, 88] 30 ?_
  refine AJ.callP kX7_tram (cT_isTram L (T 0) (U 0) k) bX6_isTram rfl (by decide +kernel) [3, 4, 5, 6, 7, 8, 9, 10, 11, 12] [] rfl rfl rfl rfl rfl rfl rfl (cls_wf rfl) rfl rfl ?_
  rintro r rfl
  rw [t5]
  refine AJ.run kX7_tram [14, 13, 53, 63, 73, 85, 88] 60 ⟨fun z => ?_, fun z => (c7_ret kX7_tram rfl rfl (fin0 _ (by rw [hv, if_neg (by rw [show inP k 0 1 = inP k 0 (nI 1) from rfl, (bI_eq0 _).mp z]; simp)])))⟩
  have zb := (bI_ne0 _).mp z
  have zb1 : (inP k 0 1 && hasP (s 5) k) = true := zb
  rw [if_pos zb1] at hv
  rw [Bool.and_eq_true] at zb
  obtain ⟨p, hp, rfl⟩ := inP_nI (n := 1) (by omega) zb.1
  have hp : p < 2 := by omega
  rw [nI_clamp (by omega)] at hv
  have eab : abrL (s 7) (a 26) (nI p) 8 = E 0 6 p := by
    apply bit_ext
    intro q hq
    rw [abrL_bit _ _ _ hq 8 (by omega), hR.2.2.1.1 p hp q hq]
    by_cases h8 : q < 8
    · by_cases h17 : a 26 (17 + q) = nI p
      · have := (hI.2.1.fo hp h8 h17).1
        rw [toldP_lo s (by omega)] at this
        simp [h8, h17, this]
      · simp [h17]
    · simp [h8]
  refine AJ.run kX7_tram [13, 53, 63, 73, 85, 88] 60 ⟨fun z0 => ⟨p, rfl, by omega, (c7_ret kX7_tram rfl rfl (fin0 _ (by rw [hv, if_pos z0]; exact (hR.2.1.2 p hp).1.symm)))⟩, fun z0 => ⟨fun z1 => ⟨p, rfl, by omega, (c7_ret kX7_tram rfl rfl (fin0 _ (by rw [hv, if_neg z0, if_pos z1]; exact (hR.2.1.2 p hp).2.1.symm)))⟩, fun z1 => ⟨fun z2 => ⟨p, rfl, by omega, (c7_ret kX7_tram rfl rfl (fin0 _ (by rw [hv, if_neg z0, if_neg z1, if_pos z2]; exact eab)))⟩, fun z2 => ⟨fun z3 => ?_, fun z3 => (c7_ret kX7_tram rfl rfl (fin0 _ (by rw [hv, if_neg z0, if_neg z1, if_neg z2, if_neg z3])))⟩⟩⟩⟩
  obtain ⟨h, h1, hb, h3, h4⟩ := hI.2.2.2
  have h26 : h ≤ 26 := by rw [hb]; exact Nat.le_trans (cntB_le _ _) (by omega)
  have hH := hR.2.2.2.2
  refine AJ.callP kX7_tram (cH_ofTram L (D 0 20) (E 0 20) (E 0 21) (E 0 22) (E 0 23) h (hH.1.trans h1) h26 (nI p)) bX2_ofTram rfl (by decide +kernel) [33, 34, 35, 36, 37] [] rfl rfl rfl rfl rfl rfl rfl (cls_wf rfl) rfl rfl ?_
  rintro r rfl
  refine (c7_ret kX7_tram rfl rfl (fin0 _ ?_))
  rw [hv, if_neg z0, if_neg z1, if_neg z2, if_pos z3, h3 p hp]
  exact congrArg nI (cntB_congr h (fun i hi => by rw [(hH.2 i (by rw [hm_nI h1 (by omega)]; exact hi)).1]))
set_option maxRecDepth 100000 in
set_option maxHeartbeats 4000000 in
theorem c7_person (L : xLn) (l m sp n c : Nat) (x : xN) (xa : Nat → xN) (D : Nat → xN) (E : Nat → Nat → xN) (T : Nat → xN) (U : Nat → Nat → xN) (s : xN) (a : Nat → xN) (hC : CI l m sp n c x xa D E T U s a) (k w : Int32) : CT L mX7_person 2 0 0 [.ref 0, .int k, .int w] (clsW x xa D E T U) (ciQ l m sp n c s a (personP s a k w)) := by
  obtain ⟨v, hv⟩ : ∃ v, v = personP s a k w := ⟨_, rfl⟩
  rw [← hv]
  obtain ⟨Q, hQ⟩ : ∃ Q, Q = ciQ l m sp n c s a v := ⟨_, rfl⟩
  have fin : ∀ x xa D E T U y, CI l m sp n c x xa D E T U s a → v = y → Q (some (.int y)) (clsW x xa D E T U) := by rintro x xa D E T U y hC rfl; rw [hQ]; exact ⟨rfl, x, xa, D, E, T, U, hC, rfl⟩
  rw [← hQ]
  clear hQ
  have fin0 := fun y => fin x xa D E T U y hC
  obtain ⟨⟨hW, hT, h2, hs1, hs2⟩, ⟨n1, n2, n3, n4⟩, ⟨c1, c2, c3, c4⟩, ⟨g, hI, hR⟩, hK, hF, hB⟩ := id hC
  obtain ⟨⟨t0, t1, t2, t3, t4, t5, t9, t12⟩, tt, tp, tm, tb⟩ := id hT
  obtain ⟨⟨l2, l12, s0⟩, ⟨m24, s9⟩, -⟩ := id hW
  refine CT.of rfl (Nat.le_of_ble_eq_true rfl) (Nat.le_of_ble_eq_true rfl) ?_
  unfold personP isPersonP at hv
  refine AJ.run kX7_person [13, 56, 65, 75, 85, 95, 98] 30 ?_
  refine AJ.callP kX7_person (cT_isPerson L (T 0) (U 0) k) bX6_isPerson rfl (by decide +kernel) [3, 4, 5, 6, 7, 8, 9, 10, 11, 12] [] rfl rfl rfl rfl rfl rfl rfl (cls_wf rfl) rfl rfl ?_
  rintro r rfl
  rw [t9]
  refine AJ.run kX7_person [14, 13, 56, 65, 75, 85, 95, 98] 60 ⟨fun z => ?_, fun z => (c7_ret kX7_person rfl rfl (fin0 _ (by rw [hv, if_neg (by rw [show inP k 0 7 = inP k 0 (nI 7) from rfl, (bI_eq0 _).mp z]; simp)])))⟩
  have zb := (bI_ne0 _).mp z
  have zb1 : (inP k 0 7 && hasP (s 7) k) = true := zb
  rw [if_pos zb1] at hv
  rw [Bool.and_eq_true] at zb
  obtain ⟨p, hp, rfl⟩ := inP_nI (n := 7) (by omega) zb.1
  have hp : p < 8 := by omega
  rw [nI_clamp (by omega)] at hv
  have hTt : RT m (T 0) (U 0) (toldP s) a := RT_s hT (fun i hi => toldP_lo s (by omega)) rfl rfl (fun _ _ => rfl)
  refine AJ.run kX7_person [13, 56, 65, 75, 85, 95, 98] 60 ⟨fun z0 => ?_, fun z0 => ⟨fun z1 => ?_, fun z1 => ⟨fun z2 => ⟨p, rfl, by omega, (c7_ret kX7_person rfl rfl (fin0 _ (by rw [hv, if_neg z0, if_neg z1, if_pos z2]; exact (hR.2.2.1.2 p hp).1.symm)))⟩, fun z2 => ⟨fun z3 => ⟨p, rfl, by omega, (c7_ret kX7_person rfl rfl (fin0 _ (by rw [hv, if_neg z0, if_neg z1, if_neg z2, if_pos z3]; exact (hR.2.2.1.2 p hp).2.symm)))⟩, fun z3 => ⟨fun z4 => ⟨p, rfl, by omega, (c7_ret kX7_person rfl rfl (fin0 _ (by rw [hv, if_neg z0, if_neg z1, if_neg z2, if_neg z3, if_pos z4]; exact (tp p hp).2.symm)))⟩, fun z4 => (c7_ret kX7_person rfl rfl (fin0 _ (by rw [hv, if_neg z0, if_neg z1, if_neg z2, if_neg z3, if_neg z4])))⟩⟩⟩⟩⟩
  · refine AJ.callX kX7_person (cD_placeOf L (D 0) (E 0) (T 0) (U 0) m g (toldP s) a (a 26) p hp hTt (by rw [toldP_lo s (by omega)]; exact zb.2) hR.2.1 hR.2.2.1 hI.2.1) bX0_placeOf rfl (by decide +kernel) [25, 26, 27, 28, 29, 30, 31, 32, 33, 34, 35, 36, 37, 3, 4, 5, 6, 7, 8, 9, 10, 11, 12] [] rfl rfl rfl rfl rfl rfl rfl (cls_wf rfl) rfl rfl ?_
    rintro r Y ⟨rfl, rfl⟩
    refine ⟨(clsW x xa D E T U), rfl, rfl, ?_⟩
    exact (c7_ret kX7_person rfl rfl (fin0 _ (by rw [hv, if_pos z0])))
  · refine AJ.callX kX7_person (cD_tramOf L (D 0) (E 0) (T 0) (U 0) (a 26) p hp hR.2.2.1 hI.2.1.ab) bX0_tramOf rfl (by decide +kernel) [25, 26, 27, 28, 29, 30, 31, 32, 33, 34, 35, 36, 37, 3, 4, 5, 6, 7, 8, 9, 10, 11, 12] [] rfl rfl rfl rfl rfl rfl rfl (cls_wf rfl) rfl rfl ?_
    rintro r Y ⟨rfl, rfl⟩
    refine ⟨(clsW x xa D E T U), rfl, rfl, ?_⟩
    exact (c7_ret kX7_person rfl rfl (fin0 _ (by rw [hv, if_neg z0, if_pos z1])))
set_option maxRecDepth 100000 in
set_option maxHeartbeats 4000000 in
theorem c7_halt (L : xLn) (l m sp n c : Nat) (x : xN) (xa : Nat → xN) (D : Nat → xN) (E : Nat → Nat → xN) (T : Nat → xN) (U : Nat → Nat → xN) (s : xN) (a : Nat → xN) (hC : CI l m sp n c x xa D E T U s a) (i w : Int32) : CT L mX7_halt 1 0 0 [.ref 0, .int i, .int w] (clsW x xa D E T U) (ciQ l m sp n c s a (haltQ a i w)) := by
  obtain ⟨v, hv⟩ : ∃ v, v = haltQ a i w := ⟨_, rfl⟩
  rw [← hv]
  obtain ⟨Q, hQ⟩ : ∃ Q, Q = ciQ l m sp n c s a v := ⟨_, rfl⟩
  have fin : ∀ x xa D E T U y, CI l m sp n c x xa D E T U s a → v = y → Q (some (.int y)) (clsW x xa D E T U) := by rintro x xa D E T U y hC rfl; rw [hQ]; exact ⟨rfl, x, xa, D, E, T, U, hC, rfl⟩
  rw [← hQ]
  clear hQ
  have fin0 := fun y => fin x xa D E T U y hC
  obtain ⟨⟨hW, hT, h2, hs1, hs2⟩, ⟨n1, n2, n3, n4⟩, ⟨c1, c2, c3, c4⟩, ⟨g, hI, hR⟩, hK, hF, hB⟩ := id hC
  obtain ⟨⟨t0, t1, t2, t3, t4, t5, t9, t12⟩, tt, tp, tm, tb⟩ := id hT
  obtain ⟨⟨l2, l12, s0⟩, ⟨m24, s9⟩, -⟩ := id hW
  refine CT.of rfl (Nat.le_of_ble_eq_true rfl) (Nat.le_of_ble_eq_true rfl) ?_
  unfold haltQ at hv
  obtain ⟨h, h1, hb, h3, h4⟩ := hI.2.2.2
  have h26 : h ≤ 26 := by rw [hb]; exact Nat.le_trans (cntB_le _ _) (by omega)
  have hH := hR.2.2.2.2
  have d20 : D 0 20 = nI h := hH.1.trans h1
  rw [h1] at hv
  by_cases ci : i < 0
  · rw [if_neg (fun z => z.1 ci)] at hv
    exact AJ.run kX7_halt [15, 31, 76, 89, 102, 115, 135] 40 ⟨fun _ => (c7_ret kX7_halt rfl rfl (fin0 _ hv)), fun z => absurd ci z⟩
  by_cases cw : inP w 0 4 = true
  · rw [if_pos ⟨ci, cw⟩] at hv
    obtain ⟨u, hu, rfl⟩ := inP_nI (n := 4) (by omega) cw
    by_cases cl : i < nI h
    · rw [if_pos cl] at hv
      obtain ⟨p, hp, rfl⟩ : ∃ p, p < h ∧ i = nI p := by
        rcases pk_ix i (n := h) (by omega) with z | z | ⟨p, hp, e⟩
        · exact absurd z ci
        · exact absurd cl (le_nlt.mp z)
        · exact ⟨p, hp, e⟩
      rw [nI_clamp (by omega), nI_clamp (by omega)] at hv
      have hpm : p < hmP (a 26) := by rw [hm_nI h1 (by omega)]; exact hp
      have go : ∀ Q0, AJ L mX7_halt 1 0 0 Q0 133 (0, 0) 32 [some (.ref 0), some (.int (nI p)), some (.int (nI u))] [] (clsW x xa D E T U) → AJ L mX7_halt 1 0 0 Q0 133 (0, 0) 0 [some (.ref 0), some (.int (nI p)), some (.int (nI u))] [] (clsW x xa D E T U) := by
        intro Q0 hh
        refine AJ.run kX7_halt [32, 15, 31, 76, 89, 102, 115, 135] 40 ⟨fun z => absurd z (nI_pos (by omega)), fun _ => ⟨fun z => absurd z (nI_pos (by omega)), fun _ => ⟨fun _ => ⟨fun _ => hh, fun z => absurd ?_ z⟩, fun z => absurd ?_ z⟩⟩⟩
        · show nI p < D 0 20
          rw [d20]; exact nI_lt hp (by omega)
        · exact nI_le (b := 4) (by omega) (by omega)
      refine go Q ?_
      rcases (show u = 0 ∨ u = 1 ∨ u = 2 ∨ u = 3 ∨ u = 4 by omega) with rfl | rfl | rfl | rfl | rfl
      · rw [if_pos (by decide)] at hv
        exact AJ.run kX7_halt [15, 31, 76, 89, 102, 115, 135] 40 ⟨fun _ => ⟨p, rfl, by omega, (c7_ret kX7_halt rfl rfl (fin0 _ (by rw [hv]; exact (hH.2 p hpm).1.symm)))⟩, fun z => absurd rfl z⟩
      · rw [if_pos (by decide)] at hv
        exact AJ.run kX7_halt [15, 31, 76, 89, 102, 115, 135] 40 ⟨fun z => absurd z (by decide), fun _ => ⟨fun _ => ⟨p, rfl, by omega, (c7_ret kX7_halt rfl rfl (fin0 _ (by rw [hv]; exact (hH.2 p hpm).2.1.symm)))⟩, fun z => absurd rfl z⟩⟩
      · rw [if_pos (by decide)] at hv
        exact AJ.run kX7_halt [15, 31, 76, 89, 102, 115, 135] 40 ⟨fun z => absurd z (by decide), fun _ => ⟨fun z => absurd z (by decide), fun _ => ⟨fun _ => ⟨p, rfl, by omega, (c7_ret kX7_halt rfl rfl (fin0 _ (by rw [hv]; exact (hH.2 p hpm).2.2.1.symm)))⟩, fun z => absurd rfl z⟩⟩⟩
      · rw [if_pos (by decide)] at hv
        exact AJ.run kX7_halt [15, 31, 76, 89, 102, 115, 135] 40 ⟨fun z => absurd z (by decide), fun _ => ⟨fun z => absurd z (by decide), fun _ => ⟨fun z => absurd z (by decide), fun _ => ⟨fun _ => ⟨p, rfl, by omega, (c7_ret kX7_halt rfl rfl (fin0 _ (by rw [hv]; exact (hH.2 p hpm).2.2.2.symm)))⟩, fun z => absurd rfl z⟩⟩⟩⟩
      · rw [if_neg (by decide)] at hv
        obtain ⟨b, hbm, eb⟩ := (h4 p hp).1
        have e23 : E 0 23 p = nI b := (hH.2 p hpm).2.2.2.trans eb
        rw [eb, nI_clamp (by omega)] at hv
        have cc := cT_whoseMood L (T 0) (U 0) m b t12 (by omega) hbm
        rw [← e23] at cc
        refine AJ.run kX7_halt [15, 31, 76, 89, 102, 115, 135] 60 ⟨fun z => absurd z (by decide), fun _ => ⟨fun z => absurd z (by decide), fun _ => ⟨fun z => absurd z (by decide), fun _ => ⟨fun z => absurd z (by decide), fun _ => ⟨p, rfl, by omega, ?_⟩⟩⟩⟩⟩
        refine AJ.callP kX7_halt cc bX6_whoseMood rfl (by decide +kernel) [3, 4, 5, 6, 7, 8, 9, 10, 11, 12] [] rfl rfl rfl rfl rfl rfl rfl (cls_wf rfl) rfl rfl ?_
        rintro r rfl
        exact (c7_ret kX7_halt rfl rfl (fin0 _ (by rw [hv]; exact (tm b hbm).1.symm)))
    · rw [if_neg cl] at hv
      refine AJ.run kX7_halt [15, 31, 76, 89, 102, 115, 135] 40 ⟨fun z => absurd z ci, fun _ => ⟨fun z => absurd z (nI_pos (by omega)), fun _ => ⟨fun _ => ⟨fun z => absurd z ?_, fun _ => (c7_ret kX7_halt rfl rfl (fin0 _ hv))⟩, fun z => absurd ?_ z⟩⟩⟩
      · show ¬ i < D 0 20
        rw [d20]; exact cl
      · exact nI_le (b := 4) (by omega) (by omega)
  · rw [if_neg (fun z => cw z.2)] at hv
    refine AJ.run kX7_halt [15, 31, 76, 89, 102, 115, 135] 40 ⟨fun z => absurd z ci, fun _ => ⟨fun _ => (c7_ret kX7_halt rfl rfl (fin0 _ hv)), fun z => ⟨fun z2 => absurd (in_mid z (fun y => le_nlt.mp z2 y)) cw, fun _ => (c7_ret kX7_halt rfl rfl (fin0 _ hv))⟩⟩⟩
