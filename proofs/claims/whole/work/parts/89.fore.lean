/-! ===== the class: what is foretold ===== -/
set_option maxRecDepth 100000 in
theorem c7_rv {L : xLn} {M : xM} {d : Nat} {Q : Option Value → List xE → Prop} {n0 pc : Nat} {ls : List (Option Value)} {x : xN} {xa : Nat → xN} {D : Nat → xN} {E : Nat → Nat → xN} {T : Nat → xN} {U : Nat → Nat → xN} (hM : xMk M = true) {nx tg : Nat} {v0 : Int32} {w : Int64} {a b t : Nat} {sw : List (Int32 × Nat)} (ho : xat M pc = some (.return_, nx, tg, v0, w, a, b, t, sw)) (hr : xret M = none) (h : Q none (clsW x xa D E T U)) : AJ L M d 0 0 Q n0 (0, 0) pc ls [] (clsW x xa D E T U) := by
  refine AJ.run hM [] 0 ?_
  rw [ho]
  show h_b (Nat.ble 0 0 && Nat.ble 0 0 && (clsW x xa D E T U).all (xoke (clsW x xa D E T U).length)) (match ([] : List Value), xret M with
      | [], none => Q none (clsW x xa D E T U)
      | _, _ => False)
  rw [cls_len, cls_ok, hr]
  exact h
theorem CI.fore {l m sp n c : Nat} {x : xN} {xa : Nat → xN} {D : Nat → xN} {E : Nat → Nat → xN} {T : Nat → xN} {U : Nat → Nat → xN} {s : xN} {a : Nat → xN} (h : CI l m sp n c x xa D E T U s a) (d : xN) (e : Nat → xN) : CI l m sp n c x xa (va_up D 1 d) (va_up E 1 e) T U s a := by
  obtain ⟨h1, h2, h3, h4, h5, h6, h7⟩ := h
  refine ⟨h1, h2, h3, ?_, fun k hk => ?_, h6, h7⟩
  · rw [va_up_ne _ _ (by omega), va_up_ne _ _ (by omega)]
    exact h4
  · rw [va_up_ne _ _ (by omega), va_up_ne _ _ (by omega)]
    exact h5 k hk
def foQ (x : xN) (xa : Nat → xN) (D : Nat → xN) (E : Nat → Nat → xN) (T : Nat → xN) (U : Nat → Nat → xN) (P : xN → (Nat → xN) → Prop) : Option Value → List xE → Prop := fun r Y => r = none ∧ ∃ d e, P d e ∧ Y = clsW x xa (va_up D 1 d) (va_up E 1 e) T U
set_option maxRecDepth 100000 in
set_option maxHeartbeats 4000000 in
theorem c7_foretell (L : xLn) (l m sp v : Nat) (x : xN) (xa : Nat → xN) (D : Nat → xN) (E : Nat → Nat → xN) (T : Nat → xN) (U : Nat → Nat → xN) (S : xN) (a : Nat → xN) (hW : WD l m sp S a) (hT : RT m (T 0) (U 0) S a) (h30 : S 30 = nI v) (h31 : S 31 = T 0 2) : CT L mX7_foretellDay 5 0 0 [.ref 0, .int (nI v)] (clsW x xa D E T U) (foQ x xa D E T U (fun d e => RD m 60 sp S a d e (dq S a m))) := by
  obtain ⟨Q, hQ⟩ : ∃ Q, Q = foQ x xa D E T U (fun d e => RD m 60 sp S a d e (dq S a m)) := ⟨_, rfl⟩
  have fin : ∀ d e, RD m 60 sp S a d e (dq S a m) → Q none (clsW x xa (va_up D 1 d) (va_up E 1 e) T U) := fun d e h => by rw [hQ]; exact ⟨rfl, d, e, h, rfl⟩
  rw [← hQ]
  clear hQ
  have hI0 := ID_begin hW (fun _ => 0)
  obtain ⟨N, hN⟩ : ∃ N, N = dq S a m := ⟨_, rfl⟩
  rw [← hN] at fin
  refine CT.of rfl (Nat.le_of_ble_eq_true rfl) (Nat.le_of_ble_eq_true rfl) ?_
  refine AJ.run kX7_foretellDay [24] 30 ?_
  refine AJ.callX kX7_foretellDay (cD_begin L (D 1) (E 1) (T 0) (U 0) m sp S a (nI v) (T 0 2) hW.2.1 hT h30 h31) bX0_begin rfl (by decide +kernel) [38, 39, 40, 41, 42, 43, 44, 45, 46, 47, 48, 49, 50, 3, 4, 5, 6, 7, 8, 9, 10, 11, 12] [] rfl rfl rfl rfl rfl rfl rfl (cls_wf rfl) rfl rfl ?_
  rintro r Y ⟨rfl, d1, e1, hR1, rfl⟩
  refine ⟨clsW x xa (va_up D 1 d1) (va_up E 1 e1) T U, rfl, rfl, ?_⟩
  have cr := cD_runTo L d1 e1 (T 0) (U 0) l m sp 0 60 S a _ hW hT (by omega) (Nat.le_refl _) hI0 (hR1 (fun _ => 0))
  rw [Nat.sub_zero] at cr
  have hN2 : goL S a m (beginP (a 6) (a 8) (fun _ => 0)) 60 = N := hN.symm
  rw [hN2] at cr
  clear hR1 hN hN2
  refine AJ.run kX7_foretellDay [24] 30 ?_
  refine AJ.callX kX7_foretellDay cr bX0_runTo rfl (by decide +kernel) [38, 39, 40, 41, 42, 43, 44, 45, 46, 47, 48, 49, 50, 3, 4, 5, 6, 7, 8, 9, 10, 11, 12] [] rfl rfl rfl rfl rfl rfl rfl (cls_wf rfl) rfl rfl ?_
  rintro r Y ⟨rfl, d2, e2, hR2, rfl⟩
  exact ⟨clsW x xa (va_up D 1 d2) (va_up E 1 e2) T U, rfl, rfl, c7_rv kX7_foretellDay rfl rfl (fin d2 e2 hR2)⟩
set_option maxRecDepth 100000 in
set_option maxHeartbeats 4000000 in
theorem c7_home (L : xLn) (l m sp n c : Nat) (x : xN) (xa : Nat → xN) (D : Nat → xN) (E : Nat → Nat → xN) (T : Nat → xN) (U : Nat → Nat → xN) (s : xN) (a : Nat → xN) (hC : CI l m sp n c x xa D E T U s a) (k : Int32) : CT L mX7_home 6 0 0 [.ref 0, .int k] (clsW x xa D E T U) (ciQ l m sp n c s a (if isPersonP s k = true then dq (toldP s) a m (25 + k.toNatClampNeg) else -2)) := by
  obtain ⟨v, hv⟩ : ∃ v, v = if isPersonP s k = true then dq (toldP s) a m (25 + k.toNatClampNeg) else -2 := ⟨_, rfl⟩
  rw [← hv]
  obtain ⟨Q, hQ⟩ : ∃ Q, Q = ciQ l m sp n c s a v := ⟨_, rfl⟩
  have fin : ∀ x xa D E T U y, CI l m sp n c x xa D E T U s a → v = y → Q (some (.int y)) (clsW x xa D E T U) := by rintro x xa D E T U y hC rfl; rw [hQ]; exact ⟨rfl, x, xa, D, E, T, U, hC, rfl⟩
  rw [← hQ]
  clear hQ
  have fin0 := fun y => fin x xa D E T U y hC
  obtain ⟨⟨hW, hT, h2, hs1, hs2⟩, ⟨n1, n2, n3, n4⟩, ⟨c1, c2, c3, c4⟩, ⟨g, hI, hR⟩, hK, hF, hB⟩ := id hC
  obtain ⟨⟨t0, t1, t2, t3, t4, t5, t9, t12⟩, tt, tp, tm, tb⟩ := id hT
  obtain ⟨⟨l2, l12, s0⟩, ⟨m24, s9⟩, -⟩ := id hW
  refine CT.of rfl (Nat.le_of_ble_eq_true rfl) (Nat.le_of_ble_eq_true rfl) ?_
  have hWd : WD l m sp (toldP s) a := by
    obtain ⟨⟨u, hu, eu⟩, -⟩ := hW.2.2.1
    exact hW.w (fun i hi => toldP_lo s (by omega)) eu hu h2 hs1 hs2
  have hTt : RT m (T 0) (U 0) (toldP s) a := RT_s hT (fun i hi => toldP_lo s (by omega)) rfl rfl (fun _ _ => rfl)
  have cf : CT L mX7_foretellDay 5 0 0 [.ref 0, .int (T 0 1)] (clsW x xa D E T U) (foQ x xa D E T U (fun d e => RD m 60 sp (toldP s) a d e (dq (toldP s) a m))) := by
    obtain ⟨⟨u, hu, eu⟩, -⟩ := hW.2.2.1
    rw [t1.trans eu]
    exact c7_foretell L l m sp u x xa D E T U (toldP s) a hWd hTt eu t2.symm
  have hId : ID l m 60 60 (toldP s) a (dq (toldP s) a m) := by
    have := ID_goL hWd (ID_begin hWd (fun _ => 0)) 60 (by omega)
    rw [Nat.zero_add] at this
    exact this
  obtain ⟨N, hN⟩ : ∃ N, N = dq (toldP s) a m := ⟨_, rfl⟩
  unfold isPersonP at hv
  rw [← hN] at hv cf
  clear hN hId
  refine AJ.run kX7_home [13, 34] 30 ?_
  refine AJ.callP kX7_home (cT_isPerson L (T 0) (U 0) k) bX6_isPerson rfl (by decide +kernel) [3, 4, 5, 6, 7, 8, 9, 10, 11, 12] [] rfl rfl rfl rfl rfl rfl rfl (cls_wf rfl) rfl rfl ?_
  rintro r rfl
  rw [t9]
  refine AJ.run kX7_home [14, 13, 34] 60 ⟨fun z => ?_, fun z => (c7_ret kX7_home rfl rfl (fin0 _ (by rw [hv, if_neg (by rw [show inP k 0 7 = inP k 0 (nI 7) from rfl, (bI_eq0 _).mp z]; simp)])))⟩
  have zb := (bI_ne0 _).mp z
  have zb1 : (inP k 0 7 && hasP (s 7) k) = true := zb
  rw [if_pos zb1] at hv
  rw [Bool.and_eq_true] at zb
  obtain ⟨p, hp, rfl⟩ := inP_nI (n := 7) (by omega) zb.1
  have hp : p < 8 := by omega
  rw [nI_clamp (by omega)] at hv
  refine AJ.run kX7_home [13, 34] 30 ?_
  refine AJ.callF kX7_home cf bX7_foretellDay rfl (by decide +kernel) [] rfl rfl rfl rfl rfl (cls_wf rfl) rfl rfl ?_
  rintro r Y ⟨rfl, d, e, hRd, rfl⟩
  refine ⟨rfl, rfl, ?_⟩
  exact AJ.run kX7_home [13, 34] 30 ⟨p, rfl, by omega, (c7_ret kX7_home rfl rfl (fin _ _ _ _ _ _ _ (hC.fore d e) (by rw [hv]; exact (hRd.2.2.1.2 p hp).1.symm)))⟩
theorem wornL_cnt (N : xN) (q : Int32) : ∀ h, wornL N q h = nI (cntB (fun i => decide (N (93 + 4 * i + 1) = q)) h)
  | 0 => rfl
  | h + 1 => by
    rw [wornL, cntB, wornL_cnt N q h]
    by_cases c : N (93 + 4 * h + 1) = q
    · rw [if_pos c, if_pos (decide_eq_true c), nI_1]
    · rw [if_neg c, if_neg (by simp [c]), Nat.add_zero, Int32.add_zero]
set_option maxRecDepth 100000 in
set_option maxHeartbeats 4000000 in
theorem c7_worn (L : xLn) (l m sp n c : Nat) (x : xN) (xa : Nat → xN) (D : Nat → xN) (E : Nat → Nat → xN) (T : Nat → xN) (U : Nat → Nat → xN) (s : xN) (a : Nat → xN) (hC : CI l m sp n c x xa D E T U s a) (k : Int32) : CT L mX7_worn 6 0 0 [.ref 0, .int k] (clsW x xa D E T U) (ciQ l m sp n c s a (if inP k 0 (s 0 - 1) = true then wornL (dq (toldP s) a m) k (hmP (dq (toldP s) a m)) else -2)) := by
  obtain ⟨v, hv⟩ : ∃ v, v = if inP k 0 (s 0 - 1) = true then wornL (dq (toldP s) a m) k (hmP (dq (toldP s) a m)) else -2 := ⟨_, rfl⟩
  rw [← hv]
  obtain ⟨Q, hQ⟩ : ∃ Q, Q = ciQ l m sp n c s a v := ⟨_, rfl⟩
  have fin : ∀ x xa D E T U y, CI l m sp n c x xa D E T U s a → v = y → Q (some (.int y)) (clsW x xa D E T U) := by rintro x xa D E T U y hC rfl; rw [hQ]; exact ⟨rfl, x, xa, D, E, T, U, hC, rfl⟩
  rw [← hQ]
  clear hQ
  have fin0 := fun y => fin x xa D E T U y hC
  obtain ⟨⟨hW, hT, h2, hs1, hs2⟩, ⟨n1, n2, n3, n4⟩, ⟨c1, c2, c3, c4⟩, ⟨g, hI, hR⟩, hK, hF, hB⟩ := id hC
  obtain ⟨⟨t0, t1, t2, t3, t4, t5, t9, t12⟩, tt, tp, tm, tb⟩ := id hT
  obtain ⟨⟨l2, l12, s0⟩, ⟨m24, s9⟩, -⟩ := id hW
  refine CT.of rfl (Nat.le_of_ble_eq_true rfl) (Nat.le_of_ble_eq_true rfl) ?_
  have hWd : WD l m sp (toldP s) a := by
    obtain ⟨⟨u, hu, eu⟩, -⟩ := hW.2.2.1
    exact hW.w (fun i hi => toldP_lo s (by omega)) eu hu h2 hs1 hs2
  have hTt : RT m (T 0) (U 0) (toldP s) a := RT_s hT (fun i hi => toldP_lo s (by omega)) rfl rfl (fun _ _ => rfl)
  have cf : CT L mX7_foretellDay 5 0 0 [.ref 0, .int (T 0 1)] (clsW x xa D E T U) (foQ x xa D E T U (fun d e => RD m 60 sp (toldP s) a d e (dq (toldP s) a m))) := by
    obtain ⟨⟨u, hu, eu⟩, -⟩ := hW.2.2.1
    rw [t1.trans eu]
    exact c7_foretell L l m sp u x xa D E T U (toldP s) a hWd hTt eu t2.symm
  have hId : ID l m 60 60 (toldP s) a (dq (toldP s) a m) := by
    have := ID_goL hWd (ID_begin hWd (fun _ => 0)) 60 (by omega)
    rw [Nat.zero_add] at this
    exact this
  obtain ⟨N, hN⟩ : ∃ N, N = dq (toldP s) a m := ⟨_, rfl⟩
  obtain ⟨h, h1, hb2, h3, h4⟩ := hId.2.2.2
  rw [← hN] at h1 hb2 h3 h4
  have h26 : h ≤ 26 := by rw [hb2]; exact Nat.le_trans (cntB_le _ _) (by omega)
  have ehm := hm_nI h1 (by omega)
  rw [← hN] at hv cf
  rw [ehm, s0, l_p1 l2] at hv
  clear hN hId
  refine AJ.run kX7_worn [13, 36] 30 ?_
  refine AJ.callP kX7_worn (cT_isPlace L (T 0) (U 0) k l (t0.trans s0) (by omega) l12) bX6_isPlace rfl (by decide +kernel) [3, 4, 5, 6, 7, 8, 9, 10, 11, 12] [] rfl rfl rfl rfl rfl rfl rfl (cls_wf rfl) rfl rfl ?_
  rintro r rfl
  refine AJ.run kX7_worn [14, 13, 36] 60 ⟨fun z => ?_, fun z => (c7_ret kX7_worn rfl rfl (fin0 _ (by rw [hv, if_neg (by rw [(bI_eq0 _).mp z]; simp)])))⟩
  rw [if_pos ((bI_ne0 _).mp z)] at hv
  refine AJ.run kX7_worn [13, 36] 30 ?_
  refine AJ.callF kX7_worn cf bX7_foretellDay rfl (by decide +kernel) [] rfl rfl rfl rfl rfl (cls_wf rfl) rfl rfl ?_
  rintro r Y ⟨rfl, d, e, hRd, rfl⟩
  refine ⟨rfl, rfl, ?_⟩
  have hH := hRd.2.2.2.2
  refine AJ.run kX7_worn [13, 36] 30 ?_
  refine AJ.callP kX7_worn (cH_atPlace L (d 20) (e 20) (e 21) (e 22) (e 23) h (hH.1.trans h1) h26 k) bX2_atPlace rfl (by decide +kernel) [46, 47, 48, 49, 50] [] rfl rfl rfl rfl rfl rfl rfl (cls_wf rfl) rfl rfl ?_
  rintro r rfl
  refine (c7_ret kX7_worn rfl rfl (fin _ _ _ _ _ _ _ (hC.fore d e) ?_))
  rw [hv, wornL_cnt]
  exact congrArg nI (cntB_congr h (fun i hi => by rw [(hH.2 i (by rw [ehm]; exact hi)).2.1]))
set_option maxRecDepth 100000 in
set_option maxHeartbeats 4000000 in
theorem c7_dry (L : xLn) (l m sp n c : Nat) (x : xN) (xa : Nat → xN) (D : Nat → xN) (E : Nat → Nat → xN) (T : Nat → xN) (U : Nat → Nat → xN) (s : xN) (a : Nat → xN) (hC : CI l m sp n c x xa D E T U s a)  : CT L mX7_dry 6 0 0 [.ref 0] (clsW x xa D E T U) (ciQ l m sp n c s a (dryL (dq (toldP s) a m) (hmP (dq (toldP s) a m)) l)) := by
  obtain ⟨v, hv⟩ : ∃ v, v = dryL (dq (toldP s) a m) (hmP (dq (toldP s) a m)) l := ⟨_, rfl⟩
  rw [← hv]
  obtain ⟨Q, hQ⟩ : ∃ Q, Q = ciQ l m sp n c s a v := ⟨_, rfl⟩
  have fin : ∀ x xa D E T U y, CI l m sp n c x xa D E T U s a → v = y → Q (some (.int y)) (clsW x xa D E T U) := by rintro x xa D E T U y hC rfl; rw [hQ]; exact ⟨rfl, x, xa, D, E, T, U, hC, rfl⟩
  rw [← hQ]
  clear hQ
  have fin0 := fun y => fin x xa D E T U y hC
  obtain ⟨⟨hW, hT, h2, hs1, hs2⟩, ⟨n1, n2, n3, n4⟩, ⟨c1, c2, c3, c4⟩, ⟨g, hI, hR⟩, hK, hF, hB⟩ := id hC
  obtain ⟨⟨t0, t1, t2, t3, t4, t5, t9, t12⟩, tt, tp, tm, tb⟩ := id hT
  obtain ⟨⟨l2, l12, s0⟩, ⟨m24, s9⟩, -⟩ := id hW
  refine CT.of rfl (Nat.le_of_ble_eq_true rfl) (Nat.le_of_ble_eq_true rfl) ?_
  have hWd : WD l m sp (toldP s) a := by
    obtain ⟨⟨u, hu, eu⟩, -⟩ := hW.2.2.1
    exact hW.w (fun i hi => toldP_lo s (by omega)) eu hu h2 hs1 hs2
  have hTt : RT m (T 0) (U 0) (toldP s) a := RT_s hT (fun i hi => toldP_lo s (by omega)) rfl rfl (fun _ _ => rfl)
  have cf : CT L mX7_foretellDay 5 0 0 [.ref 0, .int (T 0 1)] (clsW x xa D E T U) (foQ x xa D E T U (fun d e => RD m 60 sp (toldP s) a d e (dq (toldP s) a m))) := by
    obtain ⟨⟨u, hu, eu⟩, -⟩ := hW.2.2.1
    rw [t1.trans eu]
    exact c7_foretell L l m sp u x xa D E T U (toldP s) a hWd hTt eu t2.symm
  have hId : ID l m 60 60 (toldP s) a (dq (toldP s) a m) := by
    have := ID_goL hWd (ID_begin hWd (fun _ => 0)) 60 (by omega)
    rw [Nat.zero_add] at this
    exact this
  obtain ⟨N, hN⟩ : ∃ N, N = dq (toldP s) a m := ⟨_, rfl⟩
  obtain ⟨h, h1, hb2, h3, h4⟩ := hId.2.2.2
  rw [← hN] at h1 hb2 h3 h4
  have h26 : h ≤ 26 := by rw [hb2]; exact Nat.le_trans (cntB_le _ _) (by omega)
  have ehm := hm_nI h1 (by omega)
  rw [← hN] at hv cf
  rw [ehm] at hv
  clear hN hId
  refine AJ.run kX7_dry [53] 30 ?_
  refine AJ.callF kX7_dry cf bX7_foretellDay rfl (by decide +kernel) [] rfl rfl rfl rfl rfl (cls_wf rfl) rfl rfl ?_
  rintro r Y ⟨rfl, d, e, hRd, rfl⟩
  refine ⟨rfl, rfl, ?_⟩
  have hH := hRd.2.2.2.2
  have cc : ∀ q, CT L mX2_atPlace 0 0 0 [.ref 0, .int (nI q)] (halW 0 (d 20) (e 20) (e 21) (e 22) (e 23)) (fun r Y => r = some (.int (wornL N (nI q) h)) ∧ Y = halW 0 (d 20) (e 20) (e 21) (e 22) (e 23)) := fun q => by
    have e1 := cH_atPlace L (d 20) (e 20) (e 21) (e 22) (e 23) h (hH.1.trans h1) h26 (nI q)
    rw [wornL_cnt, ← cntB_congr h (P := fun i => decide (e 21 i = nI q)) (fun i hi => by rw [(hH.2 i (by rw [ehm]; exact hi)).2.1])]
    exact e1
  obtain ⟨G, hG⟩ : ∃ G : Nat → Int32, G = fun q => dryL N h q := ⟨_, rfl⟩
  have G0 : G 0 = 0 := by rw [hG]; rfl
  have Gs : ∀ q, G (q + 1) = G q ||| (if wornL N (nI q) h = 0 then 1 <<< (nI q &&& 31) else 0) := by intro q; rw [hG]; rfl
  have Gl : v = G l := by rw [hG]; exact hv
  clear hG hv
  have loop : ∀ (k q : Nat), q + k = l → AJ L mX7_dry 6 0 0 Q (clsW x xa D E T U).length (0, 0) 15 [some (.ref 0), some (.int (G q)), some (.int (nI q))] [] (clsW x xa (va_up D 1 d) (va_up E 1 e) T U) := by
    intro k
    induction k with
    | zero =>
      intro q hq
      obtain rfl : q = l := by omega
      refine AJ.run kX7_dry [15, 53] 30 ⟨fun _ => (c7_ret kX7_dry rfl rfl (fin _ _ _ _ _ _ _ (hC.fore d e) Gl)), fun z => absurd ?_ z⟩
      show T 0 0 ≤ nI q
      rw [t0, s0]; exact nI_le (Nat.le_refl _) (by omega)
    | succ k ih =>
      intro q hq
      have nxt := ih (q + 1) (by omega)
      rw [nI_succ, Gs q] at nxt
      refine AJ.run kX7_dry [15, 53] 30 ⟨fun z => absurd z ?_, fun _ => ?_⟩
      · show ¬ T 0 0 ≤ nI q
        rw [t0, s0]; exact nI_ge (by omega) (by omega)
      refine AJ.callP kX7_dry (cc q) bX2_atPlace rfl (by decide +kernel) [46, 47, 48, 49, 50] [] rfl rfl rfl rfl rfl rfl rfl (cls_wf rfl) rfl rfl ?_
      rintro r rfl
      refine AJ.run kX7_dry [15, 53] 30 ⟨fun z => ?_, fun z => ?_⟩
      · rw [if_neg z, Int32.or_zero] at nxt
        exact nxt
      · rw [if_pos z] at nxt
        exact nxt
  have := loop l 0 (by omega)
  rw [G0] at this
  exact AJ.run kX7_dry [15, 53] 30 this
set_option maxRecDepth 100000 in
set_option maxHeartbeats 4000000 in
theorem c7_fares (L : xLn) (l m sp n c : Nat) (x : xN) (xa : Nat → xN) (D : Nat → xN) (E : Nat → Nat → xN) (T : Nat → xN) (U : Nat → Nat → xN) (s : xN) (a : Nat → xN) (hC : CI l m sp n c x xa D E T U s a)  : CT L mX7_fares 6 0 0 [.ref 0] (clsW x xa D E T U) (ciQ l m sp n c s a (fareL (s 7) (dq (toldP s) a m) 8)) := by
  obtain ⟨v, hv⟩ : ∃ v, v = fareL (s 7) (dq (toldP s) a m) 8 := ⟨_, rfl⟩
  rw [← hv]
  obtain ⟨Q, hQ⟩ : ∃ Q, Q = ciQ l m sp n c s a v := ⟨_, rfl⟩
  have fin : ∀ x xa D E T U y, CI l m sp n c x xa D E T U s a → v = y → Q (some (.int y)) (clsW x xa D E T U) := by rintro x xa D E T U y hC rfl; rw [hQ]; exact ⟨rfl, x, xa, D, E, T, U, hC, rfl⟩
  rw [← hQ]
  clear hQ
  have fin0 := fun y => fin x xa D E T U y hC
  obtain ⟨⟨hW, hT, h2, hs1, hs2⟩, ⟨n1, n2, n3, n4⟩, ⟨c1, c2, c3, c4⟩, ⟨g, hI, hR⟩, hK, hF, hB⟩ := id hC
  obtain ⟨⟨t0, t1, t2, t3, t4, t5, t9, t12⟩, tt, tp, tm, tb⟩ := id hT
  obtain ⟨⟨l2, l12, s0⟩, ⟨m24, s9⟩, -⟩ := id hW
  refine CT.of rfl (Nat.le_of_ble_eq_true rfl) (Nat.le_of_ble_eq_true rfl) ?_
  have hWd : WD l m sp (toldP s) a := by
    obtain ⟨⟨u, hu, eu⟩, -⟩ := hW.2.2.1
    exact hW.w (fun i hi => toldP_lo s (by omega)) eu hu h2 hs1 hs2
  have hTt : RT m (T 0) (U 0) (toldP s) a := RT_s hT (fun i hi => toldP_lo s (by omega)) rfl rfl (fun _ _ => rfl)
  have cf : CT L mX7_foretellDay 5 0 0 [.ref 0, .int (T 0 1)] (clsW x xa D E T U) (foQ x xa D E T U (fun d e => RD m 60 sp (toldP s) a d e (dq (toldP s) a m))) := by
    obtain ⟨⟨u, hu, eu⟩, -⟩ := hW.2.2.1
    rw [t1.trans eu]
    exact c7_foretell L l m sp u x xa D E T U (toldP s) a hWd hTt eu t2.symm
  have hId : ID l m 60 60 (toldP s) a (dq (toldP s) a m) := by
    have := ID_goL hWd (ID_begin hWd (fun _ => 0)) 60 (by omega)
    rw [Nat.zero_add] at this
    exact this
  obtain ⟨N, hN⟩ : ∃ N, N = dq (toldP s) a m := ⟨_, rfl⟩
  rw [← hN] at hv cf hId
  clear hN
  refine AJ.run kX7_fares [40] 30 ?_
  refine AJ.callF kX7_fares cf bX7_foretellDay rfl (by decide +kernel) [] rfl rfl rfl rfl rfl (cls_wf rfl) rfl rfl ?_
  rintro r Y ⟨rfl, d, e, hRd, rfl⟩
  refine ⟨rfl, rfl, ?_⟩
  obtain ⟨G, hG⟩ : ∃ G : Nat → Int32, G = fun q => fareL (s 7) N q := ⟨_, rfl⟩
  have G0 : G 0 = 0 := by rw [hG]; rfl
  have Gs : ∀ q, q < 8 → G (q + 1) = G q + e 9 q := by
    intro q hq
    have h33 := ((hId.2.1 q hq).2.1)
    rw [toldP_lo s (by omega)] at h33
    have e9 := (hRd.2.2.1.2 q hq).2
    rw [hG]
    show fareL (s 7) N q + (if hasP (s 7) (nI q) = true then N (33 + q) else 0) = fareL (s 7) N q + e 9 q
    by_cases c : hasP (s 7) (nI q) = true
    · rw [if_pos c, e9]
    · rw [if_neg c, e9, (h33 (by simpa using c)).2]
  have Gl : v = G 8 := by rw [hG]; exact hv
  clear hG hv
  have loop : ∀ (k q : Nat), q + k = 8 → AJ L mX7_fares 6 0 0 Q (clsW x xa D E T U).length (0, 0) 15 [some (.ref 0), some (.int (G q)), some (.int (nI q))] [] (clsW x xa (va_up D 1 d) (va_up E 1 e) T U) := by
    intro k
    induction k with
    | zero =>
      intro q hq
      obtain rfl : q = 8 := by omega
      exact AJ.run kX7_fares [15, 40] 30 ⟨fun _ => (c7_ret kX7_fares rfl rfl (fin _ _ _ _ _ _ _ (hC.fore d e) Gl)), fun z => absurd (by decide) z⟩
    | succ k ih =>
      intro q hq
      have nxt := ih (q + 1) (by omega)
      rw [nI_succ, Gs q (by omega)] at nxt
      exact AJ.run kX7_fares [15, 40] 30 ⟨fun z => absurd z (nI_ge (b := 8) (by omega) (by omega)), fun _ => ⟨q, rfl, by omega, nxt⟩⟩
  have := loop 8 0 (by omega)
  rw [G0] at this
  exact AJ.run kX7_fares [15, 40] 30 this
set_option maxRecDepth 100000 in
set_option maxHeartbeats 4000000 in
theorem c7_law (L : xLn) (l m sp n c : Nat) (x : xN) (xa : Nat → xN) (D : Nat → xN) (E : Nat → Nat → xN) (T : Nat → xN) (U : Nat → Nat → xN) (s : xN) (a : Nat → xN) (hC : CI l m sp n c x xa D E T U s a) (k : Int32) : CT L mX7_law 6 0 0 [.ref 0, .int k] (clsW x xa D E T U) (ciQ l m sp n c s a (if inP k 0 1 = true then (if k = 0 then (lawS (s 7) (lawN s a m) 8).1 else (lawS (s 7) (lawN s a m) 8).2) else -3)) := by
  obtain ⟨v, hv⟩ : ∃ v, v = if inP k 0 1 = true then (if k = 0 then (lawS (s 7) (lawN s a m) 8).1 else (lawS (s 7) (lawN s a m) 8).2) else -3 := ⟨_, rfl⟩
  rw [← hv]
  obtain ⟨Q, hQ⟩ : ∃ Q, Q = ciQ l m sp n c s a v := ⟨_, rfl⟩
  have fin : ∀ x xa D E T U y, CI l m sp n c x xa D E T U s a → v = y → Q (some (.int y)) (clsW x xa D E T U) := by rintro x xa D E T U y hC rfl; rw [hQ]; exact ⟨rfl, x, xa, D, E, T, U, hC, rfl⟩
  rw [← hQ]
  clear hQ
  have fin0 := fun y => fin x xa D E T U y hC
  obtain ⟨⟨hW, hT, h2, hs1, hs2⟩, ⟨n1, n2, n3, n4⟩, ⟨c1, c2, c3, c4⟩, ⟨g, hI, hR⟩, hK, hF, hB⟩ := id hC
  obtain ⟨⟨t0, t1, t2, t3, t4, t5, t9, t12⟩, tt, tp, tm, tb⟩ := id hT
  obtain ⟨⟨l2, l12, s0⟩, ⟨m24, s9⟩, -⟩ := id hW
  refine CT.of rfl (Nat.le_of_ble_eq_true rfl) (Nat.le_of_ble_eq_true rfl) ?_
  have cf : ∀ q, q < 8 → ∀ (D : Nat → xN) (E : Nat → Nat → xN), CT L mX7_foretellDay 5 0 0 [.ref 0, .int (nI q)] (clsW x xa D E T U) (foQ x xa D E T U (fun d e => RD m 60 sp (upd (toldP s) 30 (nI q)) a d e (lawN s a m q))) := by
    intro q hq D E
    have hs8 : ∀ i, i < 8 → upd (toldP s) 30 (nI q) i = s i := fun i hi => by rw [pk_un (by omega)]; exact toldP_lo s (by omega)
    exact c7_foretell L l m sp q x xa D E T U (upd (toldP s) 30 (nI q)) a (hW.w hs8 pk_us hq h2 hs1 hs2) (RT_s hT hs8 rfl rfl (fun _ _ => rfl)) pk_us t2.symm
  by_cases ck : inP k 0 1 = true
  · rw [if_pos ck] at hv
    have hk0 : ¬ k < 0 := fun z => by rw [in_out (Or.inl z)] at ck; cases ck
    have hk1 : k ≤ 1 := by
      rw [le_nlt]
      exact fun z => by rw [in_out (Or.inr z)] at ck; cases ck
    generalize lawN s a m = F at cf hv
    obtain ⟨G1, hG1⟩ : ∃ G : Nat → Int32, G = fun q => (lawS (s 7) F q).1 := ⟨_, rfl⟩
    obtain ⟨G2, hG2⟩ : ∃ G : Nat → Int32, G = fun q => (lawS (s 7) F q).2 := ⟨_, rfl⟩
    obtain ⟨W, hWl⟩ : ∃ W : Nat → Int32, W = fun q => lateL (s 7) (F q) 8 := ⟨_, rfl⟩
    have g0 : G1 0 = -1 ∧ G2 0 = 0 := by rw [hG1, hG2]; exact ⟨rfl, rfl⟩
    have g1 : ∀ q, G1 (q + 1) = (if G1 q = -1 ∨ W q < G2 q then nI q else G1 q) ∧ G2 (q + 1) = (if G1 q = -1 ∨ W q < G2 q then W q else G2 q) := by
      intro q; rw [hG1, hG2, hWl]; exact lawS_1 (s 7) F q
    have Gl : v = if k = 0 then G1 8 else G2 8 := by rw [hG1, hG2]; exact hv
    have cl : ∀ q d e, RD m 60 sp (upd (toldP s) 30 (nI q)) a d e (F q) → CT L mX0_lateOfAll 1 0 0 [.ref 0] (dtW d e (T 0) (U 0)) (fun r Y => r = some (.int (W q)) ∧ Y = dtW d e (T 0) (U 0)) := by
      intro q d e hRd
      rw [hWl]
      exact cD_lateOfAll L d e (T 0) (U 0) m s a (F q) hT hRd.2.2.1
    clear hG1 hG2 hWl hv
    have loop : ∀ (f q : Nat) (D : Nat → xN) (E : Nat → Nat → xN) (x5 : Option Value), q + f = 8 → CI l m sp n c x xa D E T U s a → oI x5 → AJ L mX7_law 6 0 0 Q (clsW x xa D E T U).length (0, 0) 19 [some (.ref 0), some (.int k), some (.int (G1 q)), some (.int (G2 q)), some (.int (nI q)), x5] [] (clsW x xa D E T U) := by
      intro f
      induction f with
      | zero =>
        intro q D E x5 hq hC h5
        obtain rfl : q = 8 := by omega
        have ff := fun y => fin x xa D E T U y hC
        rcases h5 with rfl | ⟨y, rfl⟩
        · exact AJ.run kX7_law [19, 11, 73] 40 ⟨fun _ => ⟨fun z => (c7_ret kX7_law rfl rfl (ff _ (by rw [Gl, if_neg z]))), fun z => (c7_ret kX7_law rfl rfl (ff _ (by rw [Gl, if_pos z])))⟩, fun z => absurd (by decide) z⟩
        · exact AJ.run kX7_law [19, 11, 73] 40 ⟨fun _ => ⟨fun z => (c7_ret kX7_law rfl rfl (ff _ (by rw [Gl, if_neg z]))), fun z => (c7_ret kX7_law rfl rfl (ff _ (by rw [Gl, if_pos z])))⟩, fun z => absurd (by decide) z⟩
      | succ f ih =>
        intro q D E x5 hq hC h5
        have body : ∀ x5, oI x5 → AJ L mX7_law 6 0 0 Q (clsW x xa D E T U).length (0, 0) 29 [some (.ref 0), some (.int k), some (.int (G1 q)), some (.int (G2 q)), some (.int (nI q)), x5] [.int (nI q), .ref 0] (clsW x xa D E T U) := by
          intro x5 h5
          have aft : ∀ d e x5, oI x5 → RD m 60 sp (upd (toldP s) 30 (nI q)) a d e (F q) → AJ L mX7_law 6 0 0 Q (clsW x xa D E T U).length (0, 0) 32 [some (.ref 0), some (.int k), some (.int (G1 q)), some (.int (G2 q)), some (.int (nI q)), x5] [] (clsW x xa (va_up D 1 d) (va_up E 1 e) T U) := by
            intro d e x5 h5 hRd
            have nxt := ih (q + 1) (va_up D 1 d) (va_up E 1 e) (some (.int (W q))) (by omega) (hC.fore d e) (Or.inr ⟨_, rfl⟩)
            rw [(g1 q).1, (g1 q).2, nI_succ] at nxt
            have rest : AJ L mX7_law 6 0 0 Q (clsW x xa D E T U).length (0, 0) 41 [some (.ref 0), some (.int k), some (.int (G1 q)), some (.int (G2 q)), some (.int (nI q)), some (.int (W q))] [] (clsW x xa (va_up D 1 d) (va_up E 1 e) T U) := by
              refine AJ.run kX7_law [19, 11, 73] 40 ⟨fun z => ?_, fun z => ⟨fun z2 => ?_, fun z2 => ?_⟩⟩
              · rw [if_pos (Or.inl z), if_pos (Or.inl z)] at nxt
                exact nxt
              · have hn : ¬ (G1 q = -1 ∨ W q < G2 q) := by
                  rintro (y | y)
                  · exact z y
                  · exact le_nlt.mp z2 y
                rw [if_neg hn, if_neg hn] at nxt
                exact nxt
              · have hy : G1 q = -1 ∨ W q < G2 q := Or.inr (by
                  rcases Classical.em (W q < G2 q) with y | y
                  · exact y
                  · exact absurd (le_nlt.mpr y) z2)
                rw [if_pos hy, if_pos hy] at nxt
                exact nxt
            rcases h5 with rfl | ⟨y, rfl⟩
            · refine AJ.run kX7_law [11, 73] 30 ?_
              refine AJ.callX kX7_law (cl q d e hRd) bX0_lateOfAll rfl (by decide +kernel) [38, 39, 40, 41, 42, 43, 44, 45, 46, 47, 48, 49, 50, 3, 4, 5, 6, 7, 8, 9, 10, 11, 12] [] rfl rfl rfl rfl rfl rfl rfl (cls_wf rfl) rfl rfl ?_
              rintro r Y ⟨rfl, rfl⟩
              refine ⟨(clsW x xa (va_up D 1 d) (va_up E 1 e) T U), rfl, rfl, ?_⟩
              exact AJ.run kX7_law [41, 11, 73] 30 rest
            · refine AJ.run kX7_law [11, 73] 30 ?_
              refine AJ.callX kX7_law (cl q d e hRd) bX0_lateOfAll rfl (by decide +kernel) [38, 39, 40, 41, 42, 43, 44, 45, 46, 47, 48, 49, 50, 3, 4, 5, 6, 7, 8, 9, 10, 11, 12] [] rfl rfl rfl rfl rfl rfl rfl (cls_wf rfl) rfl rfl ?_
              rintro r Y ⟨rfl, rfl⟩
              refine ⟨(clsW x xa (va_up D 1 d) (va_up E 1 e) T U), rfl, rfl, ?_⟩
              exact AJ.run kX7_law [41, 11, 73] 30 rest
          rcases h5 with rfl | ⟨y, rfl⟩
          · refine AJ.callF kX7_law (cf q (by omega) D E) bX7_foretellDay rfl (by decide +kernel) [] rfl rfl rfl rfl rfl (cls_wf rfl) rfl rfl ?_
            rintro r Y ⟨rfl, d, e, hRd, rfl⟩
            exact ⟨rfl, rfl, aft d e _ (Or.inl rfl) hRd⟩
          · refine AJ.callF kX7_law (cf q (by omega) D E) bX7_foretellDay rfl (by decide +kernel) [] rfl rfl rfl rfl rfl (cls_wf rfl) rfl rfl ?_
            rintro r Y ⟨rfl, d, e, hRd, rfl⟩
            exact ⟨rfl, rfl, aft d e _ (Or.inr ⟨y, rfl⟩) hRd⟩
        have hg : ¬ nI 7 < nI q := by rw [nI_ltI (by omega) (by omega)]; omega
        rcases h5 with rfl | ⟨y, rfl⟩
        · exact AJ.run kX7_law [19, 11, 73] 40 ⟨fun z => absurd z hg, fun _ => body _ (Or.inl rfl)⟩
        · exact AJ.run kX7_law [19, 11, 73] 40 ⟨fun z => absurd z hg, fun _ => body _ (Or.inr ⟨y, rfl⟩)⟩
    have := loop 8 0 D E none (by omega) hC (Or.inl rfl)
    rw [g0.1, g0.2] at this
    exact AJ.run kX7_law [19, 11, 73] 40 ⟨fun z => absurd z hk0, fun _ => ⟨fun _ => this, fun z => absurd hk1 z⟩⟩
  · rw [if_neg ck] at hv
    exact AJ.run kX7_law [19, 11, 73] 40 ⟨fun _ => (c7_ret kX7_law rfl rfl (fin0 _ hv)), fun z => ⟨fun z2 => absurd (in_mid z (le_nlt.mp z2)) ck, fun _ => (c7_ret kX7_law rfl rfl (fin0 _ hv))⟩⟩
