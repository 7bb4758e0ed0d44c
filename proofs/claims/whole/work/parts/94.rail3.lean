/-! ===== the class: the text is read ===== -/
theorem CI.read {l m sp n c : Nat} {x : xN} {xa : Nat → xN} {D : Nat → xN} {E : Nat → Nat → xN} {T : Nat → xN} {U : Nat → Nat → xN} {s : xN} {a : Nat → xN} (h : CI l m sp n c x xa D E T U s a) (fa li fr to : Int32) (nu t : xN) (ta : Nat → xN) : CI l m sp n c (upd (upd (upd (upd (upd x 0 (nI n)) 1 fa) 2 li) 3 fr) 4 to) (va_up xa 1 nu) D E (va_up T 1 t) (va_up U 1 ta) s a := by
  obtain ⟨-, ⟨n1, n2, n3, n4⟩, ⟨c1, c2, c3, c4⟩, -⟩ := id h
  have h2 : CI l m sp n c (upd (upd (upd (upd (upd x 0 (nI n)) 1 fa) 2 li) 3 fr) 4 to) (va_up xa 1 nu) D E T U s a := h.cg (fun _ _ => rfl) rfl rfl (fun _ _ => rfl) (fun _ _ => rfl) rfl rfl ⟨n1, n2, rfl, n4⟩ ⟨c1, c2, c3, c4⟩ rfl (fun i h1 h2 => by rw [pk_un (by omega), pk_un (by omega), pk_un (by omega), pk_un (by omega), pk_un (by omega)]) (Or.inr ⟨rfl, rfl, rfl, rfl, rfl, rfl, rfl⟩)
  exact h2
set_option maxRecDepth 100000 in
set_option maxHeartbeats 4000000 in
theorem c7_fault (L : xLn) (l m sp n c : Nat) (x : xN) (xa : Nat → xN) (D : Nat → xN) (E : Nat → Nat → xN) (T : Nat → xN) (U : Nat → Nat → xN) (s : xN) (a : Nat → xN) (hC : CI l m sp n c x xa D E T U s a)  : CT L mX7_fault 9 0 0 [.ref 0] (clsW x xa D E T U) (ciQ l m sp n c s a (fauP (a 14) n s a)) := by
  obtain ⟨v, hv⟩ : ∃ v, v = fauP (a 14) n s a := ⟨_, rfl⟩
  rw [← hv]
  obtain ⟨Q, hQ⟩ : ∃ Q, Q = ciQ l m sp n c s a v := ⟨_, rfl⟩
  have fin : ∀ x xa D E T U y, CI l m sp n c x xa D E T U s a → v = y → Q (some (.int y)) (clsW x xa D E T U) := by rintro x xa D E T U y hC rfl; rw [hQ]; exact ⟨rfl, x, xa, D, E, T, U, hC, rfl⟩
  rw [← hQ]
  clear hQ
  have fin0 := fun y => fin x xa D E T U y hC
  obtain ⟨⟨hW, hT, h2, hs1, hs2⟩, ⟨n1, n2, n3, n4⟩, ⟨c1, c2, c3, c4⟩, ⟨g, hI, hR⟩, hK, hF, hB⟩ := id hC
  obtain ⟨⟨t0, t1, t2, t3, t4, t5, t9, t12⟩, tt, tp, tm, tb⟩ := id hT
  obtain ⟨⟨l2, l12, s0⟩, ⟨m24, s9⟩, -⟩ := id hW
  refine CT.of rfl (Nat.le_of_ble_eq_true rfl) (Nat.le_of_ble_eq_true rfl) ?_
  have ex : upd x 0 (nI n) = x := upd_id n3
  have erd : rdL (xa 0) n 10 0 0 s a = rdL (a 14) n 10 0 0 s a := rdL_cg n4 10 0 0 s a (by omega)
  have crd := cR_readLines L (x 1) (x 2) (x 3) (x 4) n (xa 0) (T 1) (U 1) (xa 1) (T 0) (U 0) l m s a n1 hT hW
  rw [erd] at crd
  obtain ⟨o, ho⟩ : ∃ o, o = rdL (a 14) n 10 0 0 s a := ⟨_, rfl⟩
  rw [← ho] at crd
  have rdr : (∀ fa li fr to nu t ta e, o = .inl e → e ≤ n → fa = nI e → AJ L mX7_fault 9 0 0 Q 133 (0, 0) 7 [some (.ref 0)] [] (clsW (upd (upd (upd (upd (upd x 0 (nI n)) 1 fa) 2 li) 3 fr) 4 to) (va_up xa 1 nu) D E (va_up T 1 t) (va_up U 1 ta))) → (∀ fa li fr to nu t ta c' S A m', o = .inr (c', S, A) → RT m' t ta S A → S 9 = nI m' → m' ≤ 24 → fa = -1 → li = nI c' → AJ L mX7_fault 9 0 0 Q 133 (0, 0) 7 [some (.ref 0)] [] (clsW (upd (upd (upd (upd (upd x 0 (nI n)) 1 fa) 2 li) 3 fr) 4 to) (va_up xa 1 nu) D E (va_up T 1 t) (va_up U 1 ta))) → AJ L mX7_fault 9 0 0 Q 133 (0, 0) 0 [some (.ref 0)] [] (clsW x xa D E T U) := by
    intro k0 k1
    rw [← ex]
    refine AJ.run kX7_fault [14] 30 ?_
    refine AJ.callX kX7_fault crd bX4_readLines rfl (by decide +kernel) [13, 1, 2, 14, 15, 16, 17, 18, 19, 20, 21, 22, 23, 24, 3, 4, 5, 6, 7, 8, 9, 10, 11, 12] [] rfl rfl rfl rfl rfl rfl rfl (cls_wf rfl) rfl rfl ?_
    rintro r Y ⟨rfl, ⟨e, li, fr, to, t, ta, nu, h1, h2, rfl⟩ | ⟨c', S, A, fr, to, t, ta, m', nu, h1, h2, h3, h4, rfl⟩⟩
    · exact ⟨(clsW (upd (upd (upd (upd (upd x 0 (nI n)) 1 (nI e)) 2 li) 3 fr) 4 to) (va_up xa 1 nu) D E (va_up T 1 t) (va_up U 1 ta)), rfl, rfl, k0 (nI e) li fr to nu t ta e h1 h2 rfl⟩
    · exact ⟨(clsW (upd (upd (upd (upd (upd x 0 (nI n)) 1 (-1)) 2 (nI c')) 3 fr) 4 to) (va_up xa 1 nu) D E (va_up T 1 t) (va_up U 1 ta)), rfl, rfl, k1 (-1) (nI c') fr to nu t ta c' S A m' h1 h2 h3 h4 rfl rfl⟩
  clear crd erd
  unfold fauP at hv
  rw [← ho] at hv
  refine rdr (fun fa li fr to nu t ta e h1 h2 h3 => ?_) (fun fa li fr to nu t ta c' S A m' h1 h2 h3 h4 h5 h6 => ?_)
  · rw [h1] at hv
    have f2 := fin _ _ _ _ _ _ fa (hC.read fa li fr to nu t ta) (by rw [hv, h3])
    exact AJ.run kX7_fault [14] 30 (c7_ret kX7_fault rfl rfl f2)
  · rw [h1] at hv
    have f2 := fin _ _ _ _ _ _ fa (hC.read fa li fr to nu t ta) (by rw [hv, h5])
    exact AJ.run kX7_fault [14] 30 (c7_ret kX7_fault rfl rfl f2)
theorem DAY_begin {l m sp : Nat} {s S : xN} {a A : Nat → xN} {d : xN} {e : Nat → xN} {N : xN} (hW : WT l m s a) (h2 : s 2 = nI sp) (hs1 : 1 ≤ sp) (hs2 : sp ≤ 30) (hs : ∀ i, i < 10 → s i = S i) (h6 : a 6 = A 6) (h8 : a 8 = A 8) (h10 : ∀ i, i < 3 * m → a 10 i = A 10 i) (hR : RD m 0 sp (toldP S) A d e (beginP (A 6) (A 8) N)) : DAY l m sp 0 s a d e (beginP (A 6) (A 8) N) := by
  have hm := hW.2.1.1
  have hWd : WD l m sp (toldP s) a := by
    obtain ⟨⟨u, hu, eu⟩, -⟩ := hW.2.2.1
    exact hW.w (fun i hi => toldP_lo s (by omega)) eu hu h2 hs1 hs2
  have hI := ID_begin hWd N
  rw [h6, h8] at hI
  have hI2 : ID l m 0 0 (toldP S) A (beginP (A 6) (A 8) N) := ID_cg (by omega) hI (fun i hi => by rw [toldP_lo S (by omega), toldP_lo s (by omega)]; exact (hs i (by omega)).symm) h8.symm (fun i hi => (h10 i hi).symm) (fun _ _ => rfl)
  exact ⟨hI, RD_cg (by omega) hI2 hR (hs 1 (by omega)) (hs 2 (by omega)) h10 (fun _ _ => rfl)⟩
set_option maxRecDepth 100000 in
set_option maxHeartbeats 4000000 in
theorem c7_rail (L : xLn) (l m sp n c : Nat) (x : xN) (xa : Nat → xN) (D : Nat → xN) (E : Nat → Nat → xN) (T : Nat → xN) (U : Nat → Nat → xN) (s : xN) (a : Nat → xN) (j : Int64) (hC : CI l m sp n c x xa D E T U s a)  : CT L mX7_rail 9 0 0 [.ref 0] (clsW x xa D E T U) (relQ (railQ (a 14) n m s a)) := by
  obtain ⟨MQ, hMQ⟩ : ∃ MQ : Option Value → List xE → Prop, MQ = (railQ (a 14) n m s a) := ⟨_, rfl⟩
  rw [← hMQ]
  obtain ⟨Q, hQ⟩ : ∃ Q, Q = relQ MQ := ⟨_, rfl⟩
  have fin : ∀ v x xa D E T U, (∀ rm Ym, MQ rm Ym → rm = some (.int v) ∧ ∃ s' j' a', Ym = modW s' j' a' ∧ CJ x xa D E T U s' a') → Q (some (.int v)) (clsW x xa D E T U) := fun v x xa D E T U h => by rw [hQ]; exact rel_y h
  rw [← hQ]
  clear hQ
  obtain ⟨⟨hW, hT, h2, hs1, hs2⟩, ⟨n1, n2, n3, n4⟩, ⟨c1, c2, c3, c4⟩, ⟨g, hI, hR⟩, hK, hF, hB⟩ := id hC
  obtain ⟨⟨t0, t1, t2, t3, t4, t5, t9, t12⟩, tt, tp, tm, tb⟩ := id hT
  obtain ⟨⟨l2, l12, s0⟩, ⟨m24, s9⟩, -⟩ := id hW
  have hCJ : CJ x xa D E T U s a := ⟨l, m, sp, n, c, hC⟩
  refine CT.of rfl (Nat.le_of_ble_eq_true rfl) (Nat.le_of_ble_eq_true rfl) ?_
  have ex : upd x 0 (nI n) = x := upd_id n3
  have erd : rdL (xa 0) n 10 0 0 s a = rdL (a 14) n 10 0 0 s a := rdL_cg n4 10 0 0 s a (by omega)
  have crd := cR_readLines L (x 1) (x 2) (x 3) (x 4) n (xa 0) (T 1) (U 1) (xa 1) (T 0) (U 0) l m s a n1 hT hW
  rw [erd] at crd
  obtain ⟨o, ho⟩ : ∃ o, o = rdL (a 14) n 10 0 0 s a := ⟨_, rfl⟩
  rw [← ho] at crd
  have rdr : (∀ fa li fr to nu t ta e, o = .inl e → e ≤ n → fa = nI e → AJ L mX7_rail 9 0 0 Q 133 (0, 0) 7 [some (.ref 0)] [] (clsW (upd (upd (upd (upd (upd x 0 (nI n)) 1 fa) 2 li) 3 fr) 4 to) (va_up xa 1 nu) D E (va_up T 1 t) (va_up U 1 ta))) → (∀ fa li fr to nu t ta c' S A m', o = .inr (c', S, A) → RT m' t ta S A → S 9 = nI m' → m' ≤ 24 → fa = -1 → li = nI c' → AJ L mX7_rail 9 0 0 Q 133 (0, 0) 7 [some (.ref 0)] [] (clsW (upd (upd (upd (upd (upd x 0 (nI n)) 1 fa) 2 li) 3 fr) 4 to) (va_up xa 1 nu) D E (va_up T 1 t) (va_up U 1 ta))) → AJ L mX7_rail 9 0 0 Q 133 (0, 0) 0 [some (.ref 0)] [] (clsW x xa D E T U) := by
    intro k0 k1
    rw [← ex]
    refine AJ.run kX7_rail [20, 82] 30 ?_
    refine AJ.callX kX7_rail crd bX4_readLines rfl (by decide +kernel) [13, 1, 2, 14, 15, 16, 17, 18, 19, 20, 21, 22, 23, 24, 3, 4, 5, 6, 7, 8, 9, 10, 11, 12] [] rfl rfl rfl rfl rfl rfl rfl (cls_wf rfl) rfl rfl ?_
    rintro r Y ⟨rfl, ⟨e, li, fr, to, t, ta, nu, h1, h2, rfl⟩ | ⟨c', S, A, fr, to, t, ta, m', nu, h1, h2, h3, h4, rfl⟩⟩
    · exact ⟨(clsW (upd (upd (upd (upd (upd x 0 (nI n)) 1 (nI e)) 2 li) 3 fr) 4 to) (va_up xa 1 nu) D E (va_up T 1 t) (va_up U 1 ta)), rfl, rfl, k0 (nI e) li fr to nu t ta e h1 h2 rfl⟩
    · exact ⟨(clsW (upd (upd (upd (upd (upd x 0 (nI n)) 1 (-1)) 2 (nI c')) 3 fr) 4 to) (va_up xa 1 nu) D E (va_up T 1 t) (va_up U 1 ta)), rfl, rfl, k1 (-1) (nI c') fr to nu t ta c' S A m' h1 h2 h3 h4 rfl rfl⟩
  clear crd erd
  refine rdr (fun fa li fr to nu t ta e h1 h2 h3 => ?_) (fun fa li fr to nu t ta c' S A m' h1 hRT h9 hm24 h5 h6 => ?_)
  · have f2 := fin (-4) _ _ _ _ _ _ (by
      rintro rm Ym h
      rw [hMQ] at h
      rcases h with ⟨e', q1, rfl, s', j', a', rfl, hKp⟩ | ⟨c', S, A, q1, -⟩
      · exact ⟨rfl, s', j', a', rfl, l, m, sp, n, c, (hC.read fa li fr to nu t ta).kept hKp⟩
      · rw [← ho, h1] at q1; cases q1)
    exact AJ.run kX7_rail [20, 82] 30 ⟨fun z => absurd z (by
      show ¬ fa = -1
      rw [h3]; exact nI_m1 (by omega)), fun _ => c7_ret kX7_rail rfl rfl f2⟩
  · subst h5
    subst h6
    obtain ⟨l', m'', hWS⟩ := WT_rdL 10 0 0 s a l m hW c' S A (ho.symm.trans h1)
    obtain rfl : m'' = m' := by
      have := hWS.2.1.2.symm.trans h9
      exact (nI_eq (by have := hWS.2.1.1; omega) (by omega)).mp this
    obtain ⟨u2, u21, u22, eu2⟩ := hWS.2.2.1.2.1
    have f2 : ∀ d e, (∀ N, RD m'' 0 u2 (toldP S) A d e (beginP (A 6) (A 8) N)) → Q (some (.int (nI c'))) (clsW (upd (upd (upd (upd (upd (upd (upd (upd (upd (upd x 0 (nI n)) 1 (-1)) 2 (nI c')) 3 fr) 4 to) 0 0) 13 0) 14 0) 5 0) 14 0) (va_up (va_up xa 1 nu) 2 (upd (upd (xa 2) 0 0) 1 0)) (va_up D 0 d) (va_up E 0 e) (va_up (va_up T 1 t) 0 t) (va_up (va_up U 1 ta) 0 ta)) := fun d e hRd => fin (nI c') _ _ _ _ _ _ (by
      rintro rm Ym h
      rw [hMQ] at h
      rcases h with ⟨e', q1, -⟩ | ⟨c2, S2, A2, q1, rfl, s', j', a', N, rfl, hE, q11, q13, q290, q291, q26⟩
      · rw [← ho, h1] at q1; cases q1
      · rw [← ho, h1] at q1
        cases q1
        obtain ⟨hE1, hE6, hE8, hE10⟩ := hE
        have hW2 : WT l' m'' s' a' := WT_congr hWS hE1 hE6 hE8 (fun i _ => by rw [hE10])
        have hT2 : RT m'' t ta s' a' := RT_s hRT (fun i hi => hE1 i (by omega)) hE6 hE8 (fun i _ => by rw [hE10])
        have hs2 : s' 2 = nI u2 := by rw [hE1 2 (by omega)]; exact eu2
        refine ⟨rfl, s', j', a', rfl, l', m'', u2, 0, 0, ⟨hW2, hT2, hs2, u21, u22⟩, ⟨by omega, q13, rfl, fun i hi => by omega⟩, ⟨by omega, q11, rfl, fun i hi => by omega⟩, ⟨0, ?_⟩, fun k hk => ?_, ⟨Or.inl rfl, fun z => absurd z (show ¬ (0 : Int32) = 1 by decide)⟩, ⟨Or.inl rfl, fun z => absurd z (show ¬ (0 : Int32) = 1 by decide)⟩⟩
        · rw [q26]
          exact DAY_begin hW2 hs2 u21 u22 hE1 hE6 hE8 (fun i _ => by rw [hE10]) (hRd N)
        · have hz : a' 29 k = 0 := by
            rcases (show k = 0 ∨ k = 1 by omega) with rfl | rfl
            · exact q290
            · exact q291
          rw [hz]
          refine ⟨?_, Or.inl rfl, fun z => absurd z (by decide)⟩
          rcases (show k = 0 ∨ k = 1 by omega) with rfl | rfl <;> rfl)
    clear hMQ
    have g75 : ∀ d e, (∀ N, RD m'' 0 u2 (toldP S) A d e (beginP (A 6) (A 8) N)) → AJ L mX7_rail 9 0 0 Q 133 (0, 0) 75 [some (.ref 0)] [] (clsW (upd (upd (upd (upd (upd (upd (upd (upd (upd (upd x 0 (nI n)) 1 (-1)) 2 (nI c')) 3 fr) 4 to) 0 0) 13 0) 14 0) 5 0) 14 0) (va_up (va_up xa 1 nu) 2 (upd (upd (xa 2) 0 0) 1 0)) (va_up D 0 d) (va_up E 0 e) (va_up (va_up T 1 t) 0 t) (va_up (va_up U 1 ta) 0 ta)) := fun d e hRd => AJ.run kX7_rail [20, 82] 30 (c7_ret kX7_rail rfl rfl (f2 d e hRd))
    have g71 : ∀ d e, (∀ N, RD m'' 0 u2 (toldP S) A d e (beginP (A 6) (A 8) N)) → AJ L mX7_rail 9 0 0 Q 133 (0, 0) 71 [some (.ref 0)] [] (clsW (upd (upd (upd (upd (upd (upd (upd (upd x 0 (nI n)) 1 (-1)) 2 (nI c')) 3 fr) 4 to) 0 0) 13 0) 14 0) (va_up xa 1 nu) (va_up D 0 d) (va_up E 0 e) (va_up (va_up T 1 t) 0 t) (va_up (va_up U 1 ta) 0 ta)) := fun d e hRd => by
      refine AJ.run kX7_rail [20, 82] 30 ?_
      refine AJ.callF kX7_rail (c7_drop L _ _ _ _ _ _) bX7_dropWhatDependsOnMoods rfl (by decide +kernel) [] rfl rfl rfl rfl rfl (cls_wf rfl) rfl rfl ?_
      rintro r Y ⟨rfl, rfl⟩
      exact ⟨rfl, rfl, g75 d e hRd⟩
    have g64 : ∀ d e, (∀ N, RD m'' 0 u2 (toldP S) A d e (beginP (A 6) (A 8) N)) → AJ L mX7_rail 9 0 0 Q 133 (0, 0) 64 [some (.ref 0)] [] (clsW (upd (upd (upd (upd (upd (upd x 0 (nI n)) 1 (-1)) 2 (nI c')) 3 fr) 4 to) 0 0) (va_up xa 1 nu) (va_up D 0 d) (va_up E 0 e) (va_up (va_up T 1 t) 0 t) (va_up (va_up U 1 ta) 0 ta)) := fun d e hRd => by
      refine AJ.run kX7_rail [20, 82] 30 ?_
      refine AJ.callX kX7_rail (cB_clear L (x 13) (x 14) (x 15) (x 16) (x 17) (xa 3) (xa 4) (xa 5) (D 1) (E 1) t ta) bX3_clear rfl (by decide +kernel) [103, 104, 105, 106, 38, 39, 40, 41, 42, 43, 44, 45, 46, 47, 48, 49, 50, 3, 4, 5, 6, 7, 8, 9, 10, 11, 12] [] rfl rfl rfl rfl rfl rfl rfl (cls_wf rfl) rfl rfl ?_
      rintro r Y ⟨rfl, rfl⟩
      exact ⟨(clsW (upd (upd (upd (upd (upd (upd (upd (upd x 0 (nI n)) 1 (-1)) 2 (nI c')) 3 fr) 4 to) 0 0) 13 0) 14 0) (va_up xa 1 nu) (va_up D 0 d) (va_up E 0 e) (va_up (va_up T 1 t) 0 t) (va_up (va_up U 1 ta) 0 ta)), rfl, rfl, g71 d e hRd⟩
    have g43 : AJ L mX7_rail 9 0 0 Q 133 (0, 0) 43 [some (.ref 0)] [] (clsW (upd (upd (upd (upd (upd (upd x 0 (nI n)) 1 (-1)) 2 (nI c')) 3 fr) 4 to) 0 0) (va_up xa 1 nu) D E (va_up (va_up T 1 t) 0 t) (va_up (va_up U 1 ta) 0 ta)) := by
      refine AJ.run kX7_rail [20, 82] 30 ?_
      refine AJ.callX kX7_rail (cD_begin L (D 0) (E 0) t ta m'' u2 (toldP S) A (t 1) (t 2) (by omega) (RT_s hRT (fun i hi => toldP_lo S (by omega)) rfl rfl (fun _ _ => rfl)) hRT.1.2.1.symm hRT.1.2.2.1.symm) bX0_begin rfl (by decide +kernel) [25, 26, 27, 28, 29, 30, 31, 32, 33, 34, 35, 36, 37, 3, 4, 5, 6, 7, 8, 9, 10, 11, 12] [] rfl rfl rfl rfl rfl rfl rfl (cls_wf rfl) rfl rfl ?_
      rintro r Y ⟨rfl, d, e, hRd, rfl⟩
      exact ⟨(clsW (upd (upd (upd (upd (upd (upd x 0 (nI n)) 1 (-1)) 2 (nI c')) 3 fr) 4 to) 0 0) (va_up xa 1 nu) (va_up D 0 d) (va_up E 0 e) (va_up (va_up T 1 t) 0 t) (va_up (va_up U 1 ta) 0 ta)), rfl, rfl, g64 d e hRd⟩
    have g35 : AJ L mX7_rail 9 0 0 Q 133 (0, 0) 35 [some (.ref 0)] [] (clsW (upd (upd (upd (upd (upd x 0 (nI n)) 1 (-1)) 2 (nI c')) 3 fr) 4 to) (va_up xa 1 nu) D E (va_up (va_up T 1 t) 0 t) (va_up (va_up U 1 ta) 0 ta)) := AJ.run kX7_rail [43, 20, 82] 30 g43
    refine AJ.run kX7_rail [21, 20, 82] 30 ⟨fun _ => ?_, fun z => absurd rfl z⟩
    refine AJ.run kX7_rail [20, 82] 30 ?_
    refine AJ.callX kX7_rail (cT_copyFrom L (T 0) (U 0) t ta) bX6_copyFrom rfl (by decide +kernel) [3, 4, 5, 6, 7, 8, 9, 10, 11, 12, 14, 15, 16, 17, 18, 19, 20, 21, 22, 23] [] rfl rfl rfl rfl rfl rfl rfl (cls_wf rfl) rfl rfl ?_
    rintro r Y ⟨rfl, rfl⟩
    exact ⟨(clsW (upd (upd (upd (upd (upd x 0 (nI n)) 1 (-1)) 2 (nI c')) 3 fr) 4 to) (va_up xa 1 nu) D E (va_up (va_up T 1 t) 0 t) (va_up (va_up U 1 ta) 0 ta)), rfl, rfl, g35⟩
