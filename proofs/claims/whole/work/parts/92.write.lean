/-! ===== the class: what is written, what was seen ===== -/
theorem feV_cg {s s' : xN} {a a' : Nat → xN} {m p q y z : Nat} (hm : m ≤ 24) (hq : q ≤ 2) (hs : ∀ i, i < 10 → s' i = s i) (h6 : a' 6 = a 6) (h8 : a' 8 = a 8) (h10 : ∀ i, i < 3 * m → a' 10 i = a 10 i) : feV s' a' m p q y z = feV s a m p q y z := by
  unfold feV
  have e : dq (feS s' m q) (feA s' a' m p y z q) (m + q) = dq (feS s m q) (feA s a m p y z q) (m + q) := by
    refine dq_mo (by omega) ⟨⟨?_, ?_, ?_, ?_, ?_, hs 1 (by omega), hs 2 (by omega)⟩, h6, h8, fun i hi => ?_⟩
    · rw [feS_lo s' m q (by omega), feS_lo s m q (by omega)]; exact hs 0 (by omega)
    · rw [feS_lo s' m q (by omega), feS_lo s m q (by omega)]; exact hs 3 (by omega)
    · rw [feS_lo s' m q (by omega), feS_lo s m q (by omega)]; exact hs 4 (by omega)
    · rw [feS_lo s' m q (by omega), feS_lo s m q (by omega)]; exact hs 5 (by omega)
    · rw [feS_lo s' m q (by omega), feS_lo s m q (by omega)]; exact hs 7 (by omega)
    · show feM (a' 10) m (nI p) (kindP (s' 1)) y z q i = feM (a 10) m (nI p) (kindP (s 1)) y z q i
      rw [hs 1 (by omega)]
      exact feM_mo h10 (nI p) (kindP (s 1)) y z hq i hi
  rw [e]
theorem fitP_cg {m c : Nat} {s s' : xN} {a a' : Nat → xN} (hm : m ≤ 24) (hs : ∀ i, i < 10 → s' i = s i) (h6 : a' 6 = a 6) (h8 : a' 8 = a 8) (h10 : ∀ i, i < 3 * m → a' 10 i = a 10 i) (h12 : a' 12 = a 12) : fitP s' a' m c = fitP s a m c := by
  funext t
  have e : dq (lwS s' (30 + t)) a' m = dq (lwS s (30 + t)) a m := by
    refine dq_mo (by omega) ⟨⟨?_, ?_, ?_, ?_, ?_, rfl, rfl⟩, h6, h8, h10⟩
    · rw [lwS_lo s' _ (by omega), lwS_lo s _ (by omega)]; exact hs 0 (by omega)
    · rw [lwS_lo s' _ (by omega), lwS_lo s _ (by omega)]; exact hs 3 (by omega)
    · rw [lwS_lo s' _ (by omega), lwS_lo s _ (by omega)]; exact hs 4 (by omega)
    · rw [lwS_lo s' _ (by omega), lwS_lo s _ (by omega)]; exact hs 5 (by omega)
    · rw [lwS_lo s' _ (by omega), lwS_lo s _ (by omega)]; exact hs 7 (by omega)
  unfold fitP
  rw [e, h12]
/-- text and what was seen may change -/
theorem CI.cg {l m sp n c : Nat} {x : xN} {xa : Nat → xN} {D : Nat → xN} {E : Nat → Nat → xN} {T : Nat → xN} {U : Nat → Nat → xN} {s : xN} {a : Nat → xN} (h : CI l m sp n c x xa D E T U s a) {n' c' : Nat} {x' : xN} {xa' : Nat → xN} {s' : xN} {a' : Nat → xN} (hs : ∀ i, i < 10 → s' i = s i) (h6 : a' 6 = a 6) (h8 : a' 8 = a 8) (h10 : ∀ i, i < 3 * m → a' 10 i = a 10 i) (h26 : ∀ i, i < 573 → a' 26 i = a 26 i) (h28 : a' 28 = a 28) (h29 : a' 29 = a 29)
    (ht : n' ≤ 200 ∧ s' 13 = nI n' ∧ x' 0 = nI n' ∧ ∀ i, i < n' → xa' 0 i = a' 14 i) (hc : c' ≤ 8 ∧ s' 11 = nI c' ∧ x' 13 = nI c' ∧ ∀ i, i < c' → xa' 3 i = a' 12 (2 * i) ∧ xa' 4 i = a' 12 (2 * i + 1) ∧ ∃ t, t < 60 ∧ a' 12 (2 * i + 1) = nI t) (hx2 : xa' 2 = xa 2) (hf : ∀ i, 5 ≤ i → i < 13 → x' i = x i) (hb : x' 14 = 0 ∨ (x' 14 = x 14 ∧ c' = c ∧ a' 12 = a 12 ∧ x' 15 = x 15 ∧ x' 16 = x 16 ∧ x' 17 = x 17 ∧ xa' 5 = xa 5)) : CI l m sp n' c' x' xa' D E T U s' a' := by
  obtain ⟨⟨hW, hT, h2, h3, h4⟩, -, -, ⟨g, hD⟩, hk, ⟨f1, f2⟩, ⟨r1, r2⟩⟩ := h
  have hm := hW.2.1.1
  refine ⟨⟨WT_congr hW hs h6 h8 h10, RT_s hT (fun i hi => hs i (by omega)) h6 h8 h10, by rw [hs 2 (by omega)]; exact h2, h3, h4⟩, ht, hc, ⟨g, DAY_cg (by omega) hD hs h8 h10 h26⟩, fun k hk2 => ?_, ⟨by rw [hf 5 (by omega) (by omega)]; exact f1, fun z => ?_⟩, ?_⟩
  · obtain ⟨q1, q2, q3⟩ := hk k hk2
    rw [h29, h28, hx2]
    refine ⟨q1, q2, fun z => ?_⟩
    obtain ⟨g, hg⟩ := q3 z
    exact ⟨g, DAY_cg (by omega) hg hs h8 h10 (fun _ _ => rfl)⟩
  · rw [hf 5 (by omega) (by omega)] at z
    obtain ⟨p, q, p1, p2, p3, p4, p5⟩ := f2 z
    refine ⟨p, q, p1, p2, by rw [hf 6 (by omega) (by omega)]; exact p3, by rw [hf 7 (by omega) (by omega)]; exact p4, fun w hw => ?_⟩
    rw [hf (9 + w) (by omega) (by omega), p5 w hw]
    exact (fei_cg (fun q y z hq => feV_cg hm hq hs h6 h8 h10) q w _).symm
  · rcases hb with z | ⟨b1, rfl, b3, b4, b5, b6, b7⟩
    · exact ⟨Or.inl z, fun y => by rw [z] at y; exact absurd y (by decide)⟩
    · rw [b1]
      refine ⟨r1, fun z => ?_⟩
      have := r2 z
      unfold RK at this ⊢
      rw [fitP_cg hm hs h6 h8 h10 b3, b4, b5, b6, b7]
      exact this
theorem rel_y {MQ : Option Value → List xE → Prop} {v : Int32} {x : xN} {xa : Nat → xN} {D : Nat → xN} {E : Nat → Nat → xN} {T : Nat → xN} {U : Nat → Nat → xN} (h : ∀ rm Ym, MQ rm Ym → rm = some (.int v) ∧ ∃ s' j' a', Ym = modW s' j' a' ∧ CJ x xa D E T U s' a') : relQ MQ (some (.int v)) (clsW x xa D E T U) := ⟨v, x, xa, D, E, T, U, rfl, rfl, h⟩
set_option maxRecDepth 100000 in
set_option maxHeartbeats 4000000 in
theorem c7_erase (L : xLn) (l m sp n c : Nat) (x : xN) (xa : Nat → xN) (D : Nat → xN) (E : Nat → Nat → xN) (T : Nat → xN) (U : Nat → Nat → xN) (s : xN) (a : Nat → xN) (j : Int64) (hC : CI l m sp n c x xa D E T U s a)  : CT L mX7_erase 0 0 0 [.ref 0] (clsW x xa D E T U) (relQ (fun r Y => r = some (.int (s 13)) ∧ Y = modW (upd s 13 0) j a)) := by
  obtain ⟨MQ, hMQ⟩ : ∃ MQ : Option Value → List xE → Prop, MQ = (fun r Y => r = some (.int (s 13)) ∧ Y = modW (upd s 13 0) j a) := ⟨_, rfl⟩
  rw [← hMQ]
  obtain ⟨Q, hQ⟩ : ∃ Q, Q = relQ MQ := ⟨_, rfl⟩
  have fin : ∀ v x xa D E T U, (∀ rm Ym, MQ rm Ym → rm = some (.int v) ∧ ∃ s' j' a', Ym = modW s' j' a' ∧ CJ x xa D E T U s' a') → Q (some (.int v)) (clsW x xa D E T U) := fun v x xa D E T U h => by rw [hQ]; exact rel_y h
  rw [← hQ]
  clear hQ
  obtain ⟨⟨hW, hT, h2, hs1, hs2⟩, ⟨n1, n2, n3, n4⟩, ⟨c1, c2, c3, c4⟩, ⟨g, hI, hR⟩, hK, hF, hB⟩ := id hC
  obtain ⟨⟨t0, t1, t2, t3, t4, t5, t9, t12⟩, tt, tp, tm, tb⟩ := id hT
  obtain ⟨⟨l2, l12, s0⟩, ⟨m24, s9⟩, -⟩ := id hW
  have hCJ : CJ x xa D E T U s a := ⟨l, m, sp, n, c, hC⟩
  refine CT.of rfl (Nat.le_of_ble_eq_true rfl) (Nat.le_of_ble_eq_true rfl) ?_
  have f2 := fin (x 0) (upd x 0 0) xa D E T U (by
    rintro rm Ym h
    rw [hMQ] at h
    obtain ⟨rfl, rfl⟩ := h
    refine ⟨by rw [n2, n3], _, _, _, rfl, l, m, sp, 0, c, ?_⟩
    exact hC.cg (fun i hi => pk_un (by omega)) rfl rfl (fun _ _ => rfl) (fun _ _ => rfl) rfl rfl ⟨by omega, rfl, rfl, fun i hi => by omega⟩ ⟨c1, c2, c3, c4⟩ rfl (fun i h1 h2 => pk_un (by omega)) (Or.inr ⟨rfl, rfl, rfl, rfl, rfl, rfl, rfl⟩))
  have g17 : AJ L mX7_erase 0 0 0 Q (clsW x xa D E T U).length (0, 0) 17 [some (.ref 0), some (.int (x 0))] [.int (x 0)] (clsW (upd x 0 0) xa D E T U) := c7_ret kX7_erase rfl rfl f2
  exact AJ.run kX7_erase [17] 30 g17
set_option maxRecDepth 100000 in
set_option maxHeartbeats 4000000 in
theorem c7_forget (L : xLn) (l m sp n c : Nat) (x : xN) (xa : Nat → xN) (D : Nat → xN) (E : Nat → Nat → xN) (T : Nat → xN) (U : Nat → Nat → xN) (s : xN) (a : Nat → xN) (j : Int64) (hC : CI l m sp n c x xa D E T U s a)  : CT L mX7_forget 1 0 0 [.ref 0] (clsW x xa D E T U) (relQ (fun r Y => r = some (.int (s 11)) ∧ Y = modW (upd s 11 0) j a)) := by
  obtain ⟨MQ, hMQ⟩ : ∃ MQ : Option Value → List xE → Prop, MQ = (fun r Y => r = some (.int (s 11)) ∧ Y = modW (upd s 11 0) j a) := ⟨_, rfl⟩
  rw [← hMQ]
  obtain ⟨Q, hQ⟩ : ∃ Q, Q = relQ MQ := ⟨_, rfl⟩
  have fin : ∀ v x xa D E T U, (∀ rm Ym, MQ rm Ym → rm = some (.int v) ∧ ∃ s' j' a', Ym = modW s' j' a' ∧ CJ x xa D E T U s' a') → Q (some (.int v)) (clsW x xa D E T U) := fun v x xa D E T U h => by rw [hQ]; exact rel_y h
  rw [← hQ]
  clear hQ
  obtain ⟨⟨hW, hT, h2, hs1, hs2⟩, ⟨n1, n2, n3, n4⟩, ⟨c1, c2, c3, c4⟩, ⟨g, hI, hR⟩, hK, hF, hB⟩ := id hC
  obtain ⟨⟨t0, t1, t2, t3, t4, t5, t9, t12⟩, tt, tp, tm, tb⟩ := id hT
  obtain ⟨⟨l2, l12, s0⟩, ⟨m24, s9⟩, -⟩ := id hW
  have hCJ : CJ x xa D E T U s a := ⟨l, m, sp, n, c, hC⟩
  refine CT.of rfl (Nat.le_of_ble_eq_true rfl) (Nat.le_of_ble_eq_true rfl) ?_
  have f2 := fin (x 13) (upd (upd x 13 0) 14 0) xa D E T U (by
    rintro rm Ym h
    rw [hMQ] at h
    obtain ⟨rfl, rfl⟩ := h
    refine ⟨by rw [c2, c3], _, _, _, rfl, l, m, sp, n, 0, ?_⟩
    exact hC.cg (fun i hi => pk_un (by omega)) rfl rfl (fun _ _ => rfl) (fun _ _ => rfl) rfl rfl ⟨n1, n2, n3, n4⟩ ⟨by omega, rfl, rfl, fun i hi => by omega⟩ rfl (fun i h1 h2 => by rw [pk_un (by omega), pk_un (by omega)]) (Or.inl rfl))
  refine AJ.run kX7_forget [16] 30 ?_
  refine AJ.callX kX7_forget (cB_clear L (x 13) (x 14) (x 15) (x 16) (x 17) (xa 3) (xa 4) (xa 5) (D 1) (E 1) (T 0) (U 0)) bX3_clear rfl (by decide +kernel) [103, 104, 105, 106, 38, 39, 40, 41, 42, 43, 44, 45, 46, 47, 48, 49, 50, 3, 4, 5, 6, 7, 8, 9, 10, 11, 12] [] rfl rfl rfl rfl rfl rfl rfl (cls_wf rfl) rfl rfl ?_
  rintro r Y ⟨rfl, rfl⟩
  refine ⟨(clsW (upd (upd x 13 0) 14 0) xa D E T U), rfl, rfl, ?_⟩
  exact AJ.run kX7_forget [16] 30 (c7_ret kX7_forget rfl rfl f2)
set_option maxRecDepth 100000 in
set_option maxHeartbeats 4000000 in
theorem c7_seen (L : xLn) (l m sp n c : Nat) (x : xN) (xa : Nat → xN) (D : Nat → xN) (E : Nat → Nat → xN) (T : Nat → xN) (U : Nat → Nat → xN) (s : xN) (a : Nat → xN) (j : Int64) (hC : CI l m sp n c x xa D E T U s a) (p t : Int32) : CT L mX7_seen 1 0 0 [.ref 0, .int p, .int t] (clsW x xa D E T U) (relQ (fun r Y => (inP p 0 (s 0 - 1) = false ∧ r = some (.int (-2)) ∧ Y = modW s j a) ∨ (inP p 0 (s 0 - 1) = true ∧ inP t 0 59 = false ∧ r = some (.int (-3)) ∧ Y = modW s j a) ∨ (inP p 0 (s 0 - 1) = true ∧ inP t 0 59 = true ∧ c = 8 ∧ r = some (.int (-5)) ∧ Y = modW s j a) ∨ (inP p 0 (s 0 - 1) = true ∧ inP t 0 59 = true ∧ c < 8 ∧ r = some (.int (nI (c + 1))) ∧ Y = modW (upd s 11 (nI (c + 1))) j (va_up a 12 (upd (upd (a 12) (2 * c) p) (2 * c + 1) t))))) := by
  obtain ⟨MQ, hMQ⟩ : ∃ MQ : Option Value → List xE → Prop, MQ = (fun r Y => (inP p 0 (s 0 - 1) = false ∧ r = some (.int (-2)) ∧ Y = modW s j a) ∨ (inP p 0 (s 0 - 1) = true ∧ inP t 0 59 = false ∧ r = some (.int (-3)) ∧ Y = modW s j a) ∨ (inP p 0 (s 0 - 1) = true ∧ inP t 0 59 = true ∧ c = 8 ∧ r = some (.int (-5)) ∧ Y = modW s j a) ∨ (inP p 0 (s 0 - 1) = true ∧ inP t 0 59 = true ∧ c < 8 ∧ r = some (.int (nI (c + 1))) ∧ Y = modW (upd s 11 (nI (c + 1))) j (va_up a 12 (upd (upd (a 12) (2 * c) p) (2 * c + 1) t)))) := ⟨_, rfl⟩
  rw [← hMQ]
  obtain ⟨Q, hQ⟩ : ∃ Q, Q = relQ MQ := ⟨_, rfl⟩
  have fin : ∀ v x xa D E T U, (∀ rm Ym, MQ rm Ym → rm = some (.int v) ∧ ∃ s' j' a', Ym = modW s' j' a' ∧ CJ x xa D E T U s' a') → Q (some (.int v)) (clsW x xa D E T U) := fun v x xa D E T U h => by rw [hQ]; exact rel_y h
  rw [← hQ]
  clear hQ
  obtain ⟨⟨hW, hT, h2, hs1, hs2⟩, ⟨n1, n2, n3, n4⟩, ⟨c1, c2, c3, c4⟩, ⟨g, hI, hR⟩, hK, hF, hB⟩ := id hC
  obtain ⟨⟨t0, t1, t2, t3, t4, t5, t9, t12⟩, tt, tp, tm, tb⟩ := id hT
  obtain ⟨⟨l2, l12, s0⟩, ⟨m24, s9⟩, -⟩ := id hW
  have hCJ : CJ x xa D E T U s a := ⟨l, m, sp, n, c, hC⟩
  refine CT.of rfl (Nat.le_of_ble_eq_true rfl) (Nat.le_of_ble_eq_true rfl) ?_
  have epl : inP p 0 (s 0 - 1) = inP p 0 (nI (l - 1)) := by rw [s0, l_p1 l2]
  refine AJ.run kX7_seen [13, 26, 41, 58] 30 ?_
  refine AJ.callP kX7_seen (cT_isPlace L (T 0) (U 0) p l (t0.trans s0) (by omega) l12) bX6_isPlace rfl (by decide +kernel) [3, 4, 5, 6, 7, 8, 9, 10, 11, 12] [] rfl rfl rfl rfl rfl rfl rfl (cls_wf rfl) rfl rfl ?_
  rintro r rfl
  refine AJ.run kX7_seen [14, 13, 26, 41, 58] 60 ⟨fun z => ?_, fun z => c7_ret kX7_seen rfl rfl (fin (-2) x xa D E T U (by
    rintro rm Ym h
    rw [hMQ, epl, (bI_eq0 _).mp z] at h
    rcases h with ⟨-, rfl, rfl⟩ | ⟨h, -⟩ | ⟨h, -⟩ | ⟨h, -⟩
    · exact ⟨rfl, _, _, _, rfl, hCJ⟩
    · cases h
    · cases h
    · cases h))⟩
  have zp := (bI_ne0 _).mp z
  by_cases ct : inP t 0 59 = true
  · obtain ⟨u, hu, rfl⟩ := inP_nI (n := 59) (by omega) ct
    have go : ∀ Q0, AJ L mX7_seen 1 0 0 Q0 133 (0, 0) 27 [some (.ref 0), some (.int p), some (.int (nI u))] [] (clsW x xa D E T U) → AJ L mX7_seen 1 0 0 Q0 133 (0, 0) 14 [some (.ref 0), some (.int p), some (.int (nI u))] [] (clsW x xa D E T U) := fun Q0 hh => AJ.run kX7_seen [14, 27, 13, 26, 41, 58] 30 ⟨fun z => absurd z (nI_pos (by omega)), fun _ => ⟨fun _ => hh, fun z => absurd (nI_lt (b := 60) (by omega) (by omega)) z⟩⟩
    refine go Q ?_
    by_cases c8 : c = 8
    · refine AJ.run kX7_seen [27, 13, 26, 41, 58] 30 ⟨fun z => absurd z ?_, fun _ => c7_ret kX7_seen rfl rfl (fin (-5) x xa D E T U (by
        rintro rm Ym h
        rw [hMQ, epl, zp, ct] at h
        rcases h with ⟨h, -⟩ | ⟨-, h, -⟩ | ⟨-, -, -, rfl, rfl⟩ | ⟨-, -, h, -⟩
        · cases h
        · cases h
        · exact ⟨rfl, _, _, _, rfl, hCJ⟩
        · omega))⟩
      show ¬ x 13 < nI 8
      rw [c3, nI_ltI (by omega) (by omega)]; omega
    · have cc := cB_add L c (by omega) p (nI u) (x 14) (x 15) (x 16) (x 17) (xa 3) (xa 4) (xa 5) (D 1) (E 1) (T 0) (U 0)
      rw [← c3] at cc
      have f2 := fin (nI c + 1) (upd (upd x 13 (nI c + 1)) 14 0) (va_up (va_up xa 3 (upd (xa 3) c p)) 4 (upd (xa 4) c (nI u))) D E T U (by
        rintro rm Ym h
        rw [hMQ, epl, zp, ct] at h
        rcases h with ⟨h, -⟩ | ⟨-, h, -⟩ | ⟨-, -, h, -⟩ | ⟨-, -, -, rfl, rfl⟩
        · cases h
        · cases h
        · exact absurd h c8
        · refine ⟨by rw [nI_1], _, _, _, rfl, l, m, sp, n, c + 1, ?_⟩
          refine hC.cg (fun i hi => pk_un (by omega)) rfl rfl (fun _ _ => rfl) (fun _ _ => rfl) rfl rfl ⟨n1, n2, n3, n4⟩ ⟨by omega, rfl, nI_1 c, fun i hi => ?_⟩ rfl (fun i h1 h2 => by rw [pk_un (by omega), pk_un (by omega)]) (Or.inl rfl)
          show upd (xa 3) c p i = upd (upd (a 12) (2 * c) p) (2 * c + 1) (nI u) (2 * i) ∧ upd (xa 4) c (nI u) i = upd (upd (a 12) (2 * c) p) (2 * c + 1) (nI u) (2 * i + 1) ∧ ∃ t, t < 60 ∧ upd (upd (a 12) (2 * c) p) (2 * c + 1) (nI u) (2 * i + 1) = nI t
          by_cases e : i = c
          · subst e
            rw [pk_us, pk_us, pk_us, pk_un (by omega), pk_us]
            exact ⟨rfl, rfl, u, by omega, rfl⟩
          · rw [pk_un e, pk_un e, pk_un (by omega), pk_un (by omega), pk_un (by omega), pk_un (by omega)]
            exact c4 i (by omega))
      rw [← c3] at f2
      refine AJ.run kX7_seen [27, 13, 26, 41, 58] 30 ⟨fun _ => ?_, fun z => absurd ?_ z⟩
      · refine AJ.callX kX7_seen cc bX3_add rfl (by decide +kernel) [103, 104, 105, 106, 38, 39, 40, 41, 42, 43, 44, 45, 46, 47, 48, 49, 50, 3, 4, 5, 6, 7, 8, 9, 10, 11, 12] [] rfl rfl rfl rfl rfl rfl rfl (cls_wf rfl) rfl rfl ?_
        rintro r Y ⟨rfl, rfl⟩
        refine ⟨(clsW (upd (upd x 13 (x 13 + 1)) 14 0) (va_up (va_up xa 3 (upd (xa 3) c p)) 4 (upd (xa 4) c (nI u))) D E T U), rfl, rfl, ?_⟩
        exact AJ.run kX7_seen [13, 26, 41, 58] 30 (c7_ret kX7_seen rfl rfl f2)
      · show x 13 < nI 8
        rw [c3]; exact nI_lt (by omega) (by omega)
  · have ct : inP t 0 59 = false := by simpa using ct
    have f2 := fin (-3) x xa D E T U (by
      rintro rm Ym h
      rw [hMQ, epl, zp, ct] at h
      rcases h with ⟨h, -⟩ | ⟨-, -, rfl, rfl⟩ | ⟨-, h, -⟩ | ⟨-, h, -⟩
      · cases h
      · exact ⟨rfl, _, _, _, rfl, hCJ⟩
      · cases h
      · cases h)
    refine AJ.run kX7_seen [14, 13, 26, 41, 58] 30 ⟨fun _ => c7_ret kX7_seen rfl rfl f2, fun z1 => ⟨fun z2 => ?_, fun _ => c7_ret kX7_seen rfl rfl f2⟩⟩
    exfalso
    have z2 : t < 60 := z2
    rw [in_mid z1 (show ¬ (59 : Int32) < t from fun y => by
      simp only [i32_lt] at y z2
      have e1 : (59 : Int32).toInt = 59 := rfl
      have e2 : (60 : Int32).toInt = 60 := rfl
      omega)] at ct
    cases ct
theorem wrL_cg (w : Int64) (b : Nat) {f g : xN} (h : ∀ i, i < b → f i = g i) : ∀ q i, i < b + q → wrL w b f q i = wrL w b g q i
  | 0, i, hi => h i hi
  | q + 1, i, hi => by
    rw [wrL, wrL]
    by_cases e : i = b + q
    · subst e; rw [pk_us, pk_us]
    · rw [pk_un e, pk_un e]
      exact wrL_cg w b h q i (by omega)
theorem wrB_eq (w : Int64) (i : Nat) : (w >>> ((8 * nI i).toInt64 &&& 63)).toInt32 &&& 255 = wrB w i := by
  unfold wrB
  rw [Int64.toInt32_and]
  rfl
set_option maxRecDepth 100000 in
set_option maxHeartbeats 4000000 in
theorem c7_write (L : xLn) (l m sp n c : Nat) (x : xN) (xa : Nat → xN) (D : Nat → xN) (E : Nat → Nat → xN) (T : Nat → xN) (U : Nat → Nat → xN) (s : xN) (a : Nat → xN) (j : Int64) (hC : CI l m sp n c x xa D E T U s a) (w : Int64) (k : Int32) : CT L mX7_write 1 0 0 [.ref 0, .long w, .int k] (clsW x xa D E T U) (relQ (fun r Y => (inP k 1 8 = false ∧ r = some (.int (-3)) ∧ Y = modW s j a) ∨ (∃ q, 1 ≤ q ∧ q ≤ 8 ∧ k = nI q ∧ 200 < n + q ∧ r = some (.int (-5)) ∧ Y = modW s j a) ∨ (∃ q, 1 ≤ q ∧ q ≤ 8 ∧ k = nI q ∧ n + q ≤ 200 ∧ r = some (.int (nI (n + q))) ∧ Y = modW (upd s 13 (nI (n + q))) j (va_up a 14 (wrL w n (a 14) q))))) := by
  obtain ⟨MQ, hMQ⟩ : ∃ MQ : Option Value → List xE → Prop, MQ = (fun r Y => (inP k 1 8 = false ∧ r = some (.int (-3)) ∧ Y = modW s j a) ∨ (∃ q, 1 ≤ q ∧ q ≤ 8 ∧ k = nI q ∧ 200 < n + q ∧ r = some (.int (-5)) ∧ Y = modW s j a) ∨ (∃ q, 1 ≤ q ∧ q ≤ 8 ∧ k = nI q ∧ n + q ≤ 200 ∧ r = some (.int (nI (n + q))) ∧ Y = modW (upd s 13 (nI (n + q))) j (va_up a 14 (wrL w n (a 14) q)))) := ⟨_, rfl⟩
  rw [← hMQ]
  obtain ⟨Q, hQ⟩ : ∃ Q, Q = relQ MQ := ⟨_, rfl⟩
  have fin : ∀ v x xa D E T U, (∀ rm Ym, MQ rm Ym → rm = some (.int v) ∧ ∃ s' j' a', Ym = modW s' j' a' ∧ CJ x xa D E T U s' a') → Q (some (.int v)) (clsW x xa D E T U) := fun v x xa D E T U h => by rw [hQ]; exact rel_y h
  rw [← hQ]
  clear hQ
  obtain ⟨⟨hW, hT, h2, hs1, hs2⟩, ⟨n1, n2, n3, n4⟩, ⟨c1, c2, c3, c4⟩, ⟨g, hI, hR⟩, hK, hF, hB⟩ := id hC
  obtain ⟨⟨t0, t1, t2, t3, t4, t5, t9, t12⟩, tt, tp, tm, tb⟩ := id hT
  obtain ⟨⟨l2, l12, s0⟩, ⟨m24, s9⟩, -⟩ := id hW
  have hCJ : CJ x xa D E T U s a := ⟨l, m, sp, n, c, hC⟩
  refine CT.of rfl (Nat.le_of_ble_eq_true rfl) (Nat.le_of_ble_eq_true rfl) ?_
  by_cases ck : inP k 1 8 = true
  · obtain ⟨q, q1, q8, rfl⟩ := inP_1 (n := 8) (by omega) ck
    have inj : ∀ q', q' ≤ 8 → nI q = nI q' → q' = q := fun q' h z => ((nI_eq (by omega) (by omega)).mp z).symm
    have hsum : x 0 + nI q = nI (n + q) := by rw [n3, nI_add]
    have go : ∀ Q0, AJ L mX7_write 1 0 0 Q0 133 (0, 0) 14 [some (.ref 0), some (.long w), none, some (.int (nI q)), none] [] (clsW x xa D E T U) → AJ L mX7_write 1 0 0 Q0 133 (0, 0) 0 [some (.ref 0), some (.long w), none, some (.int (nI q)), none] [] (clsW x xa D E T U) := fun Q0 hh => AJ.run kX7_write [14, 13, 31, 73] 30 ⟨fun z => absurd z (fun y => by
      have y : nI q < nI 1 := y
      rw [nI_ltI (by omega) (by omega)] at y
      omega), fun _ => ⟨fun _ => hh, fun z => absurd (nI_le (b := 8) q8 (by omega)) z⟩⟩
    refine go Q ?_
    by_cases c200 : n + q ≤ 200
    · obtain ⟨G, hG⟩ : ∃ G : Nat → xN, G = fun i => wrL w n (xa 0) i := ⟨_, rfl⟩
      have G0 : G 0 = xa 0 := by rw [hG]; rfl
      have Gs : ∀ i, G (i + 1) = upd (G i) (n + i) (wrB w i) := by intro i; rw [hG]; rfl
      have f2 := fin (nI (n + q)) (upd x 0 (nI (n + q))) (va_up xa 0 (G q)) D E T U (by
        rintro rm Ym h
        rw [hMQ, ck] at h
        rcases h with ⟨h, -⟩ | ⟨q', r1, r2, r3, r4, -⟩ | ⟨q', r1, r2, r3, r4, rfl, rfl⟩
        · cases h
        · have := inj q' r2 r3
          omega
        · obtain rfl := inj q' r2 r3
          refine ⟨rfl, _, _, _, rfl, l, m, sp, n + q', c, ?_⟩
          refine hC.cg (fun i hi => pk_un (by omega)) rfl rfl (fun _ _ => rfl) (fun _ _ => rfl) rfl rfl ⟨c200, rfl, rfl, fun i hi => ?_⟩ ⟨c1, c2, c3, c4⟩ rfl (fun i h1 h2 => pk_un (by omega)) (Or.inr ⟨rfl, rfl, rfl, rfl, rfl, rfl, rfl⟩)
          show G q' i = wrL w n (a 14) q' i
          rw [hG]
          exact wrL_cg w n n4 q' i hi)
      clear hG
      have loop : ∀ (f i : Nat), i + f = q → AJ L mX7_write 1 0 0 Q 133 (0, 0) 35 [some (.ref 0), some (.long w), none, some (.int (nI q)), some (.int (nI i))] [] (clsW (upd x 0 (nI (n + i))) (va_up xa 0 (G i)) D E T U) := by
        intro f
        induction f with
        | zero =>
          intro i hi
          obtain rfl : i = q := by omega
          exact AJ.run kX7_write [35, 13, 31, 73] 30 ⟨fun _ => c7_ret kX7_write rfl rfl f2, fun z => absurd (nI_le (Nat.le_refl _) (by omega)) z⟩
        | succ f ih =>
          intro i hi
          have nxt := ih (i + 1) (by omega)
          rw [Gs i, ← wrB_eq, nI_succ, ← Nat.add_assoc, ← nI_1] at nxt
          refine AJ.run kX7_write [35, 13, 31, 73] 30 ⟨fun z => absurd z (nI_ge (by omega) (by omega)), fun _ => ?_⟩
          refine AJ.callX kX7_write (cX_append L (G i) (n + i) _ (by omega)) bX5_append rfl (by decide +kernel) [1, 2] [] rfl rfl rfl rfl rfl rfl rfl (cls_wf rfl) rfl rfl ?_
          rintro r Y ⟨rfl, rfl⟩
          refine ⟨(clsW (upd x 0 (nI (n + i) + 1)) (va_up xa 0 (upd (G i) (n + i) ((w >>> ((8 * nI i).toInt64 &&& 63)).toInt32 &&& 255))) D E T U), rfl, rfl, ?_⟩
          exact AJ.run kX7_write [35, 13, 31, 73] 30 nxt
      have lp := loop q 0 (by omega)
      rw [G0, Nat.add_zero, ← n3] at lp
      refine AJ.run kX7_write [35, 13, 31, 73] 30 ⟨fun _ => lp, fun z => absurd ?_ z⟩
      show x 0 + nI q ≤ nI 200
      rw [hsum]; exact nI_le c200 (by omega)
    · refine AJ.run kX7_write [35, 13, 31, 73] 30 ⟨fun z => absurd z ?_, fun _ => c7_ret kX7_write rfl rfl (fin (-5) x xa D E T U (by
        rintro rm Ym h
        rw [hMQ, ck] at h
        rcases h with ⟨h, -⟩ | ⟨q', r1, r2, r3, r4, rfl, rfl⟩ | ⟨q', r1, r2, r3, r4, -⟩
        · cases h
        · exact ⟨rfl, _, _, _, rfl, hCJ⟩
        · have := inj q' r2 r3
          omega))⟩
      show ¬ x 0 + nI q ≤ nI 200
      rw [hsum]; exact nI_ge (by omega) (by omega)
  · have ck : inP k 1 8 = false := by simpa using ck
    have f2 := fin (-3) x xa D E T U (by
      rintro rm Ym h
      rw [hMQ, ck] at h
      rcases h with ⟨-, rfl, rfl⟩ | ⟨q', r1, r2, r3, -⟩ | ⟨q', r1, r2, r3, -⟩
      · exact ⟨rfl, _, _, _, rfl, hCJ⟩
      · have : inP k 1 8 = true := by
          rw [r3]
          exact in_mid (fun y => by
            have y : nI q' < nI 1 := y
            rw [nI_ltI (by omega) (by omega)] at y; omega) (fun y => by
            have y : nI 8 < nI q' := y
            rw [nI_ltI (by omega) (by omega)] at y; omega)
        rw [this] at ck; cases ck
      · have : inP k 1 8 = true := by
          rw [r3]
          exact in_mid (fun y => by
            have y : nI q' < nI 1 := y
            rw [nI_ltI (by omega) (by omega)] at y; omega) (fun y => by
            have y : nI 8 < nI q' := y
            rw [nI_ltI (by omega) (by omega)] at y; omega)
        rw [this] at ck; cases ck)
    refine AJ.run kX7_write [14, 13, 31, 73] 30 ⟨fun _ => c7_ret kX7_write rfl rfl f2, fun z1 => ⟨fun z2 => ?_, fun _ => c7_ret kX7_write rfl rfl f2⟩⟩
    exfalso
    rw [in_mid z1 (le_nlt.mp z2)] at ck
    cases ck
