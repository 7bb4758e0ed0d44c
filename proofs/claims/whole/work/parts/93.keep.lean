/-! ===== the class: a day goes on, is kept, comes back ===== -/
theorem CI.cg2 {l m sp n c : Nat} {x : xN} {xa : Nat → xN} {D : Nat → xN} {E : Nat → Nat → xN} {T : Nat → xN} {U : Nat → Nat → xN} {s : xN} {a : Nat → xN} (h : CI l m sp n c x xa D E T U s a) {xa' : Nat → xN} {D' : Nat → xN} {E' : Nat → Nat → xN} {s' : xN} {a' : Nat → xN} (hs : ∀ i, i < 15 → s' i = s i) (h6 : a' 6 = a 6) (h8 : a' 8 = a 8) (h10 : ∀ i, i < 3 * m → a' 10 i = a 10 i) (h12 : a' 12 = a 12) (h14 : a' 14 = a 14) (x0 : xa' 0 = xa 0) (x3 : xa' 3 = xa 3) (x4 : xa' 4 = xa 4) (x5 : xa' 5 = xa 5) (hd : ∃ g, DAY l m sp g s' a' (D' 0) (E' 0) (a' 26)) (hk : ∀ k, k < 2 → xa' 2 k = a' 29 k ∧ (a' 29 k = 0 ∨ a' 29 k = 1) ∧ (a' 29 k = 1 → ∃ g, DAY l m sp g s' a' (D' (2 + k)) (E' (2 + k)) (fun i => a' 28 (573 * k + i)))) : CI l m sp n c x xa' D' E' T U s' a' := by
  obtain ⟨⟨hW, hT, h2, h3, h4⟩, ⟨n1, n2, n3, n4⟩, ⟨c1, c2, c3, c4⟩, -, -, ⟨f1, f2⟩, ⟨r1, r2⟩⟩ := h
  have hm := hW.2.1.1
  have hs10 : ∀ i, i < 10 → s' i = s i := fun i hi => hs i (by omega)
  refine ⟨⟨WT_congr hW hs10 h6 h8 h10, RT_s hT (fun i hi => hs i (by omega)) h6 h8 h10, by rw [hs 2 (by omega)]; exact h2, h3, h4⟩, ⟨n1, by rw [hs 13 (by omega)]; exact n2, n3, by rw [h14, x0]; exact n4⟩, ⟨c1, by rw [hs 11 (by omega)]; exact c2, c3, by rw [h12, x3, x4]; exact c4⟩, hd, hk, ⟨f1, fun z => ?_⟩, ⟨r1, fun z => ?_⟩⟩
  · obtain ⟨p, q, p1, p2, p3, p4, p5⟩ := f2 z
    refine ⟨p, q, p1, p2, p3, p4, fun w hw => ?_⟩
    rw [p5 w hw]
    exact (fei_cg (fun q y z hq => feV_cg hm hq hs10 h6 h8 h10) q w _).symm
  · have := r2 z
    unfold RK at this ⊢
    rw [fitP_cg hm hs10 h6 h8 h10 h12, x5]
    exact this
theorem CI.keep {l m sp n c : Nat} {x : xN} {xa : Nat → xN} {D : Nat → xN} {E : Nat → Nat → xN} {T : Nat → xN} {U : Nat → Nat → xN} {s : xN} {a : Nat → xN} (h : CI l m sp n c x xa D E T U s a) {p : Nat} (hp : p < 2) {C : xN} (hCC : ∀ i, C i = cpL (a 26) 0 (a 28) (573 * p) 573 i) : CI l m sp n c x (va_up xa 2 (upd (xa 2) p 1)) (va_up D (2 + p) (D 0)) (va_up E (2 + p) (E 0)) T U s (va_up (va_up a 28 C) 29 (upd (a 29) p 1)) := by
  obtain ⟨⟨hW, -⟩, -, -, ⟨g, hD⟩, hk, -, -⟩ := id h
  have hm := hW.2.1.1
  refine h.cg2 (fun _ _ => rfl) rfl rfl (fun _ _ => rfl) rfl rfl rfl rfl rfl rfl ⟨g, ?_⟩ (fun k hk2 => ?_)
  · rw [va_up_ne _ _ (by omega), va_up_ne _ _ (by omega)]
    exact DAY_cg (by omega) hD (fun _ _ => rfl) rfl (fun _ _ => rfl) (fun _ _ => rfl)
  · show upd (xa 2) p 1 k = upd (a 29) p 1 k ∧ (upd (a 29) p 1 k = 0 ∨ upd (a 29) p 1 k = 1) ∧ (upd (a 29) p 1 k = 1 → ∃ g, DAY l m sp g s _ (va_up D (2 + p) (D 0) (2 + k)) (va_up E (2 + p) (E 0) (2 + k)) (fun i => C (573 * k + i)))
    by_cases e : k = p
    · subst e
      rw [pk_us, pk_us]
      refine ⟨rfl, Or.inr rfl, fun _ => ⟨g, ?_⟩⟩
      rw [show va_up D (2 + k) (D 0) (2 + k) = D 0 from if_pos rfl, show va_up E (2 + k) (E 0) (2 + k) = E 0 from if_pos rfl]
      refine DAY_cg (by omega) hD (fun _ _ => rfl) rfl (fun _ _ => rfl) (fun i hi => ?_)
      rw [hCC, cpL_at, if_pos (by omega)]
      congr 1
      omega
    · rw [pk_un e, pk_un e, va_up_ne _ _ (by omega), va_up_ne _ _ (by omega)]
      obtain ⟨q1, q2, q3⟩ := hk k hk2
      refine ⟨q1, q2, fun z => ?_⟩
      obtain ⟨g', hg⟩ := q3 z
      refine ⟨g', DAY_cg (by omega) hg (fun _ _ => rfl) rfl (fun _ _ => rfl) (fun i hi => ?_)⟩
      rw [hCC, cpL_at, if_neg (by omega)]
set_option maxRecDepth 100000 in
set_option maxHeartbeats 4000000 in
theorem c7_keep (L : xLn) (l m sp n c : Nat) (x : xN) (xa : Nat → xN) (D : Nat → xN) (E : Nat → Nat → xN) (T : Nat → xN) (U : Nat → Nat → xN) (s : xN) (a : Nat → xN) (j : Int64) (hC : CI l m sp n c x xa D E T U s a) (k : Int32) : CT L mX7_keep 3 0 0 [.ref 0, .int k] (clsW x xa D E T U) (relQ (fun r Y => (inP k 0 1 = false ∧ r = some (.int (-2)) ∧ Y = modW s j a) ∨ (∃ p, p < 2 ∧ k = nI p ∧ r = some (.int (a 26 0)) ∧ Y = modW s j (va_up (va_up a 28 (cpL (a 26) 0 (a 28) (573 * p) 573)) 29 (upd (a 29) p 1))))) := by
  obtain ⟨MQ, hMQ⟩ : ∃ MQ : Option Value → List xE → Prop, MQ = (fun r Y => (inP k 0 1 = false ∧ r = some (.int (-2)) ∧ Y = modW s j a) ∨ (∃ p, p < 2 ∧ k = nI p ∧ r = some (.int (a 26 0)) ∧ Y = modW s j (va_up (va_up a 28 (cpL (a 26) 0 (a 28) (573 * p) 573)) 29 (upd (a 29) p 1)))) := ⟨_, rfl⟩
  rw [← hMQ]
  obtain ⟨Q, hQ⟩ : ∃ Q, Q = relQ MQ := ⟨_, rfl⟩
  have fin : ∀ v x xa D E T U, (∀ rm Ym, MQ rm Ym → rm = some (.int v) ∧ ∃ s' j' a', Ym = modW s' j' a' ∧ CJ x xa D E T U s' a') → Q (some (.int v)) (clsW x xa D E T U) := fun v x xa D E T U h => by rw [hQ]; exact rel_y h
  rw [← hQ]
  clear hQ
  obtain ⟨⟨hW, hT, h2, hs1, hs2⟩, ⟨n1, n2, n3, n4⟩, ⟨c1, c2, c3, c4⟩, ⟨g, hI, hR⟩, hK, hF, hB⟩ := id hC
  obtain ⟨⟨t0, t1, t2, t3, t4, t5, t9, t12⟩, tt, tp, tm, tb⟩ := id hT
  obtain ⟨⟨l2, l12, s0⟩, ⟨m24, s9⟩, -⟩ := id hW
  have hCJ : CJ x xa D E T U s a := ⟨l, m, sp, n, c, hC⟩
  refine CT.of rfl (Nat.le_of_ble_eq_true rfl) (Nat.le_of_ble_eq_true rfl) ?_
  by_cases ck : inP k 0 1 = true
  · obtain ⟨p, hp, rfl⟩ := inP_nI (n := 1) (by omega) ck
    have hp : p < 2 := by omega
    have inj : ∀ q, q < 2 → nI p = nI q → q = p := fun q h z => ((nI_eq (by omega) (by omega)).mp z).symm
    obtain ⟨C, hCC⟩ : ∃ C : Nat → xN, ∀ p, C p = cpL (a 26) 0 (a 28) (573 * p) 573 := ⟨fun p => cpL (a 26) 0 (a 28) (573 * p) 573, fun _ => rfl⟩
    simp only [← hCC] at hMQ
    have f2 := fin (D 0 3) x (va_up xa 2 (upd (xa 2) p 1)) (va_up D (2 + p) (D 0)) (va_up E (2 + p) (E 0)) T U (by
      rintro rm Ym h
      rw [hMQ, ck] at h
      rcases h with ⟨h, -⟩ | ⟨q, q1, q2, rfl, rfl⟩
      · cases h
      · obtain rfl := inj q q1 q2
        refine ⟨by rw [hR.2.1.1], _, _, _, rfl, l, m, sp, n, c, ?_⟩
        exact hC.keep q1 (fun i => congrFun (hCC q) i))
    clear hCC hMQ
    have go : ∀ Q0, AJ L mX7_keep 3 0 0 Q0 133 (0, 0) 12 [some (.ref 0), some (.int (nI p))] [] (clsW x xa D E T U) → AJ L mX7_keep 3 0 0 Q0 133 (0, 0) 0 [some (.ref 0), some (.int (nI p))] [] (clsW x xa D E T U) := fun Q0 hh => AJ.run kX7_keep [12, 11, 39] 30 ⟨fun z => absurd z (nI_pos (by omega)), fun _ => ⟨fun _ => hh, fun z => absurd (nI_lt (b := 2) hp (by omega)) z⟩⟩
    refine go Q ?_
    rcases (show p = 0 ∨ p = 1 by omega) with rfl | rfl
    · have g39 : AJ L mX7_keep 3 0 0 Q 133 (0, 0) 39 [some (.ref 0), some (.int (nI 0))] [.int (D 0 3)] (clsW x (va_up xa 2 (upd (xa 2) 0 1)) (va_up D 2 (D 0)) (va_up E 2 (E 0)) T U) := c7_ret kX7_keep rfl rfl f2
      have g25 : AJ L mX7_keep 3 0 0 Q 133 (0, 0) 25 [some (.ref 0), some (.int (nI 0))] [] (clsW x xa (va_up D 2 (D 0)) (va_up E 2 (E 0)) T U) := AJ.run kX7_keep [11, 39] 40 ⟨0, rfl, by omega, Or.inr rfl, g39⟩
      refine AJ.run kX7_keep [11, 39] 40 ⟨0, rfl, by decide, ?_⟩
      refine AJ.callX kX7_keep (cD_copyFrom L (D 2) (E 2) (D 0) (E 0) (T 0) (U 0)) bX0_copyFrom rfl (by decide +kernel) [107, 108, 109, 110, 111, 112, 113, 114, 115, 116, 117, 118, 119, 25, 26, 27, 28, 29, 30, 31, 32, 33, 34, 35, 36, 37, 3, 4, 5, 6, 7, 8, 9, 10, 11, 12] [] rfl rfl rfl rfl rfl rfl rfl (cls_wf rfl) rfl rfl ?_
      rintro r Y ⟨rfl, rfl⟩
      exact ⟨(clsW x xa (va_up D 2 (D 0)) (va_up E 2 (E 0)) T U), rfl, rfl, g25⟩
    · have g39 : AJ L mX7_keep 3 0 0 Q 133 (0, 0) 39 [some (.ref 0), some (.int (nI 1))] [.int (D 0 3)] (clsW x (va_up xa 2 (upd (xa 2) 1 1)) (va_up D 3 (D 0)) (va_up E 3 (E 0)) T U) := c7_ret kX7_keep rfl rfl f2
      have g25 : AJ L mX7_keep 3 0 0 Q 133 (0, 0) 25 [some (.ref 0), some (.int (nI 1))] [] (clsW x xa (va_up D 3 (D 0)) (va_up E 3 (E 0)) T U) := AJ.run kX7_keep [11, 39] 40 ⟨1, rfl, by omega, Or.inr rfl, g39⟩
      refine AJ.run kX7_keep [11, 39] 40 ⟨1, rfl, by decide, ?_⟩
      refine AJ.callX kX7_keep (cD_copyFrom L (D 3) (E 3) (D 0) (E 0) (T 0) (U 0)) bX0_copyFrom rfl (by decide +kernel) [120, 121, 122, 123, 124, 125, 126, 127, 128, 129, 130, 131, 132, 25, 26, 27, 28, 29, 30, 31, 32, 33, 34, 35, 36, 37, 3, 4, 5, 6, 7, 8, 9, 10, 11, 12] [] rfl rfl rfl rfl rfl rfl rfl (cls_wf rfl) rfl rfl ?_
      rintro r Y ⟨rfl, rfl⟩
      exact ⟨(clsW x xa (va_up D 3 (D 0)) (va_up E 3 (E 0)) T U), rfl, rfl, g25⟩
  · have hin : ∀ p', p' < 2 → k = nI p' → inP k 0 1 = true := fun p' h1 h2 => by rw [h2]; exact in_mid (nI_pos (by omega)) (fun y => by
        have y : nI 1 < nI p' := y
        rw [nI_ltI (by omega) (by omega)] at y; omega)
    have ck : inP k 0 1 = false := by simpa using ck
    have f2 := fin (-2) x xa D E T U (by
      rintro rm Ym h
      rw [hMQ, ck] at h
      rcases h with ⟨-, rfl, rfl⟩ | ⟨q, q1, q2, -⟩
      · exact ⟨rfl, _, _, _, rfl, hCJ⟩
      · rw [hin q q1 q2] at ck; cases ck)
    refine AJ.run kX7_keep [12, 11, 39] 30 ⟨fun _ => c7_ret kX7_keep rfl rfl f2, fun z1 => ⟨fun z2 => ?_, fun _ => c7_ret kX7_keep rfl rfl f2⟩⟩
    exfalso
    have z2 : k < 2 := z2
    rw [in_mid z1 (show ¬ (1 : Int32) < k from fun y => by
      simp only [i32_lt] at y z2
      have e1 : (1 : Int32).toInt = 1 := rfl
      have e2 : (2 : Int32).toInt = 2 := rfl
      omega)] at ck
    cases ck
theorem CI.back {l m sp n c : Nat} {x : xN} {xa : Nat → xN} {D : Nat → xN} {E : Nat → Nat → xN} {T : Nat → xN} {U : Nat → Nat → xN} {s : xN} {a : Nat → xN} (h : CI l m sp n c x xa D E T U s a) {p : Nat} (hp : p < 2) (h1 : a 29 p = 1) {C : xN} (hCC : ∀ i, C i = cpL (a 28) (573 * p) (a 26) 0 573 i) : CI l m sp n c x xa (va_up D 0 (D (2 + p))) (va_up E 0 (E (2 + p))) T U s (va_up a 26 C) ∧ D (2 + p) 3 = a 28 (573 * p) := by
  obtain ⟨⟨hW, -⟩, -, -, -, hk, -, -⟩ := id h
  have hm := hW.2.1.1
  obtain ⟨g, hg⟩ := (hk p hp).2.2 h1
  refine ⟨h.cg2 (fun _ _ => rfl) rfl rfl (fun _ _ => rfl) rfl rfl rfl rfl rfl rfl ⟨g, ?_⟩ (fun k hk2 => ?_), hg.2.2.1.1⟩
  · refine DAY_cg (by omega) hg (fun _ _ => rfl) rfl (fun _ _ => rfl) (fun i hi => ?_)
    show C i = a 28 (573 * p + i)
    rw [hCC, cpL_at, if_pos (by omega)]
    congr 1
  · have eD : va_up D 0 (D (2 + p)) (2 + k) = D (2 + k) := va_up_ne _ _ (by omega)
    have eE : va_up E 0 (E (2 + p)) (2 + k) = E (2 + k) := va_up_ne _ _ (by omega)
    rw [eD, eE]
    obtain ⟨q1, q2, q3⟩ := hk k hk2
    refine ⟨q1, q2, fun z => ?_⟩
    obtain ⟨g', hg⟩ := q3 z
    exact ⟨g', DAY_cg (by omega) hg (fun _ _ => rfl) rfl (fun _ _ => rfl) (fun _ _ => rfl)⟩
set_option maxRecDepth 100000 in
set_option maxHeartbeats 4000000 in
theorem c7_back (L : xLn) (l m sp n c : Nat) (x : xN) (xa : Nat → xN) (D : Nat → xN) (E : Nat → Nat → xN) (T : Nat → xN) (U : Nat → Nat → xN) (s : xN) (a : Nat → xN) (j : Int64) (hC : CI l m sp n c x xa D E T U s a) (k : Int32) : CT L mX7_back 3 0 0 [.ref 0, .int k] (clsW x xa D E T U) (relQ (fun r Y => (inP k 0 1 = false ∧ r = some (.int (-2)) ∧ Y = modW s j a) ∨ (∃ p, p < 2 ∧ k = nI p ∧ a 29 p = 0 ∧ r = some (.int (-4)) ∧ Y = modW s j a) ∨ (∃ p, p < 2 ∧ k = nI p ∧ ¬ a 29 p = 0 ∧ r = some (.int (a 28 (573 * p))) ∧ Y = modW s j (va_up a 26 (cpL (a 28) (573 * p) (a 26) 0 573))))) := by
  obtain ⟨MQ, hMQ⟩ : ∃ MQ : Option Value → List xE → Prop, MQ = (fun r Y => (inP k 0 1 = false ∧ r = some (.int (-2)) ∧ Y = modW s j a) ∨ (∃ p, p < 2 ∧ k = nI p ∧ a 29 p = 0 ∧ r = some (.int (-4)) ∧ Y = modW s j a) ∨ (∃ p, p < 2 ∧ k = nI p ∧ ¬ a 29 p = 0 ∧ r = some (.int (a 28 (573 * p))) ∧ Y = modW s j (va_up a 26 (cpL (a 28) (573 * p) (a 26) 0 573)))) := ⟨_, rfl⟩
  rw [← hMQ]
  obtain ⟨Q, hQ⟩ : ∃ Q, Q = relQ MQ := ⟨_, rfl⟩
  have fin : ∀ v x xa D E T U, (∀ rm Ym, MQ rm Ym → rm = some (.int v) ∧ ∃ s' j' a', Ym = modW s' j' a' ∧ CJ x xa D E T U s' a') → Q (some (.int v)) (clsW x xa D E T U) := fun v x xa D E T U h => by rw [hQ]; exact rel_y h
  rw [← hQ]
  clear hQ
  obtain ⟨⟨hW, hT, h2, hs1, hs2⟩, ⟨n1, n2, n3, n4⟩, ⟨c1, c2, c3, c4⟩, ⟨g, hI, hR⟩, hK, hF, hB⟩ := id hC
  obtain ⟨⟨t0, t1, t2, t3, t4, t5, t9, t12⟩, tt, tp, tm, tb⟩ := id hT
  obtain ⟨⟨l2, l12, s0⟩, ⟨m24, s9⟩, -⟩ := id hW
  have hCJ : CJ x xa D E T U s a := ⟨l, m, sp, n, c, hC⟩
  refine CT.of rfl (Nat.le_of_ble_eq_true rfl) (Nat.le_of_ble_eq_true rfl) ?_
  by_cases ck : inP k 0 1 = true
  · obtain ⟨p, hp, rfl⟩ := inP_nI (n := 1) (by omega) ck
    have hp : p < 2 := by omega
    have inj : ∀ q, q < 2 → nI p = nI q → q = p := fun q h z => ((nI_eq (by omega) (by omega)).mp z).symm
    obtain ⟨k1, k2, -⟩ := hK p hp
    obtain ⟨C, hCC⟩ : ∃ C : Nat → xN, ∀ p, C p = cpL (a 28) (573 * p) (a 26) 0 573 := ⟨fun p => cpL (a 28) (573 * p) (a 26) 0 573, fun _ => rfl⟩
    simp only [← hCC] at hMQ
    have f0 : a 29 p = 0 → Q (some (.int (-4))) (clsW x xa D E T U) := fun z => fin (-4) x xa D E T U (by
      rintro rm Ym h
      rw [hMQ, ck] at h
      rcases h with ⟨h, -⟩ | ⟨q, q1, q2, q3, rfl, rfl⟩ | ⟨q, q1, q2, q3, -⟩
      · cases h
      · exact ⟨rfl, _, _, _, rfl, hCJ⟩
      · obtain rfl := inj q q1 q2
        exact absurd z q3)
    have f2 : a 29 p = 1 → Q (some (.int (D (2 + p) 3))) (clsW x xa (va_up D 0 (D (2 + p))) (va_up E 0 (E (2 + p))) T U) := fun z => fin (D (2 + p) 3) x xa (va_up D 0 (D (2 + p))) (va_up E 0 (E (2 + p))) T U (by
      rintro rm Ym h
      rw [hMQ, ck] at h
      rcases h with ⟨h, -⟩ | ⟨q, q1, q2, q3, -⟩ | ⟨q, q1, q2, q3, rfl, rfl⟩
      · cases h
      · obtain rfl := inj q q1 q2
        rw [z] at q3
        exact absurd q3 (by decide)
      · obtain rfl := inj q q1 q2
        have hb := hC.back q1 z (fun i => congrFun (hCC q) i)
        exact ⟨by rw [hb.2], _, _, _, rfl, l, m, sp, n, c, hb.1⟩)
    clear hCC hMQ
    have go : ∀ Q0, AJ L mX7_back 3 0 0 Q0 133 (0, 0) 12 [some (.ref 0), some (.int (nI p))] [] (clsW x xa D E T U) → AJ L mX7_back 3 0 0 Q0 133 (0, 0) 0 [some (.ref 0), some (.int (nI p))] [] (clsW x xa D E T U) := fun Q0 hh => AJ.run kX7_back [12, 11, 23, 44] 30 ⟨fun z => absurd z (nI_pos (by omega)), fun _ => ⟨fun _ => hh, fun z => absurd (nI_lt (b := 2) hp (by omega)) z⟩⟩
    refine go Q ?_
    have hkp : xa 2 p = 0 ∨ xa 2 p = 1 := by rw [k1]; exact k2
    have one : ¬ xa 2 p = 0 → a 29 p = 1 := fun z => by
      rcases hkp with y | y
      · exact absurd y z
      · rw [← k1]; exact y
    have zero : xa 2 p = 0 → a 29 p = 0 := fun z => by rw [← k1]; exact z
    rcases (show p = 0 ∨ p = 1 by omega) with rfl | rfl
    · refine AJ.run kX7_back [24, 11, 23, 44] 40 ⟨0, rfl, by omega, fun z => ?_, fun z => c7_ret kX7_back rfl rfl (f0 (zero z))⟩
      have g44 : AJ L mX7_back 3 0 0 Q 133 (0, 0) 44 [some (.ref 0), some (.int (nI 0))] [.int (D 2 3)] (clsW x xa (va_up D 0 (D 2)) (va_up E 0 (E 2)) T U) := c7_ret kX7_back rfl rfl (f2 (one z))
      have g37 : AJ L mX7_back 3 0 0 Q 133 (0, 0) 37 [some (.ref 0), some (.int (nI 0))] [] (clsW x xa (va_up D 0 (D 2)) (va_up E 0 (E 2)) T U) := AJ.run kX7_back [11, 23, 44] 40 g44
      refine AJ.run kX7_back [11, 23, 44] 40 ⟨0, rfl, by decide, ?_⟩
      refine AJ.callX kX7_back (cD_copyFrom L (D 0) (E 0) (D 2) (E 2) (T 0) (U 0)) bX0_copyFrom rfl (by decide +kernel) [25, 26, 27, 28, 29, 30, 31, 32, 33, 34, 35, 36, 37, 107, 108, 109, 110, 111, 112, 113, 114, 115, 116, 117, 118, 119, 3, 4, 5, 6, 7, 8, 9, 10, 11, 12] [] rfl rfl rfl rfl rfl rfl rfl (cls_wf rfl) rfl rfl ?_
      rintro r Y ⟨rfl, rfl⟩
      exact ⟨(clsW x xa (va_up D 0 (D 2)) (va_up E 0 (E 2)) T U), rfl, rfl, g37⟩
    · refine AJ.run kX7_back [24, 11, 23, 44] 40 ⟨1, rfl, by omega, fun z => ?_, fun z => c7_ret kX7_back rfl rfl (f0 (zero z))⟩
      have g44 : AJ L mX7_back 3 0 0 Q 133 (0, 0) 44 [some (.ref 0), some (.int (nI 1))] [.int (D 3 3)] (clsW x xa (va_up D 0 (D 3)) (va_up E 0 (E 3)) T U) := c7_ret kX7_back rfl rfl (f2 (one z))
      have g37 : AJ L mX7_back 3 0 0 Q 133 (0, 0) 37 [some (.ref 0), some (.int (nI 1))] [] (clsW x xa (va_up D 0 (D 3)) (va_up E 0 (E 3)) T U) := AJ.run kX7_back [11, 23, 44] 40 g44
      refine AJ.run kX7_back [11, 23, 44] 40 ⟨1, rfl, by decide, ?_⟩
      refine AJ.callX kX7_back (cD_copyFrom L (D 0) (E 0) (D 3) (E 3) (T 0) (U 0)) bX0_copyFrom rfl (by decide +kernel) [25, 26, 27, 28, 29, 30, 31, 32, 33, 34, 35, 36, 37, 120, 121, 122, 123, 124, 125, 126, 127, 128, 129, 130, 131, 132, 3, 4, 5, 6, 7, 8, 9, 10, 11, 12] [] rfl rfl rfl rfl rfl rfl rfl (cls_wf rfl) rfl rfl ?_
      rintro r Y ⟨rfl, rfl⟩
      exact ⟨(clsW x xa (va_up D 0 (D 3)) (va_up E 0 (E 3)) T U), rfl, rfl, g37⟩
  · have hin : ∀ p', p' < 2 → k = nI p' → inP k 0 1 = true := fun p' h1 h2 => by rw [h2]; exact in_mid (nI_pos (by omega)) (fun y => by
        have y : nI 1 < nI p' := y
        rw [nI_ltI (by omega) (by omega)] at y; omega)
    have ck : inP k 0 1 = false := by simpa using ck
    have f2 := fin (-2) x xa D E T U (by
      rintro rm Ym h
      rw [hMQ, ck] at h
      rcases h with ⟨-, rfl, rfl⟩ | ⟨q, q1, q2, -⟩ | ⟨q, q1, q2, -⟩
      · exact ⟨rfl, _, _, _, rfl, hCJ⟩
      · rw [hin q q1 q2] at ck; cases ck
      · rw [hin q q1 q2] at ck; cases ck)
    refine AJ.run kX7_back [12, 11, 23, 44] 30 ⟨fun _ => c7_ret kX7_back rfl rfl f2, fun z1 => ⟨fun z2 => ?_, fun _ => c7_ret kX7_back rfl rfl f2⟩⟩
    exfalso
    have z2 : k < 2 := z2
    rw [in_mid z1 (show ¬ (1 : Int32) < k from fun y => by
      simp only [i32_lt] at y z2
      have e1 : (1 : Int32).toInt = 1 := rfl
      have e2 : (2 : Int32).toInt = 2 := rfl
      omega)] at ck
    cases ck
set_option maxRecDepth 100000 in
set_option maxHeartbeats 4000000 in
theorem c7_go (L : xLn) (l m sp n c : Nat) (x : xN) (xa : Nat → xN) (D : Nat → xN) (E : Nat → Nat → xN) (T : Nat → xN) (U : Nat → Nat → xN) (s : xN) (a : Nat → xN) (j : Int64) (hC : CI l m sp n c x xa D E T U s a) (k : Int32) : CT L mX7_go 5 0 0 [.ref 0, .int k] (clsW x xa D E T U) (relQ (fun r Y => (inP k 1 60 = false ∧ r = some (.int (-3)) ∧ Y = modW s j a) ∨ (∃ q, 1 ≤ q ∧ q ≤ 60 ∧ k = nI q ∧ r = some (.int (goL (toldP s) a m (a 26) q 0)) ∧ Y = modN (toldP s) j a (goL (toldP s) a m (a 26) q)))) := by
  obtain ⟨MQ, hMQ⟩ : ∃ MQ : Option Value → List xE → Prop, MQ = (fun r Y => (inP k 1 60 = false ∧ r = some (.int (-3)) ∧ Y = modW s j a) ∨ (∃ q, 1 ≤ q ∧ q ≤ 60 ∧ k = nI q ∧ r = some (.int (goL (toldP s) a m (a 26) q 0)) ∧ Y = modN (toldP s) j a (goL (toldP s) a m (a 26) q))) := ⟨_, rfl⟩
  rw [← hMQ]
  obtain ⟨Q, hQ⟩ : ∃ Q, Q = relQ MQ := ⟨_, rfl⟩
  have fin : ∀ v x xa D E T U, (∀ rm Ym, MQ rm Ym → rm = some (.int v) ∧ ∃ s' j' a', Ym = modW s' j' a' ∧ CJ x xa D E T U s' a') → Q (some (.int v)) (clsW x xa D E T U) := fun v x xa D E T U h => by rw [hQ]; exact rel_y h
  rw [← hQ]
  clear hQ
  obtain ⟨⟨hW, hT, h2, hs1, hs2⟩, ⟨n1, n2, n3, n4⟩, ⟨c1, c2, c3, c4⟩, ⟨g, hI, hR⟩, hK, hF, hB⟩ := id hC
  obtain ⟨⟨t0, t1, t2, t3, t4, t5, t9, t12⟩, tt, tp, tm, tb⟩ := id hT
  obtain ⟨⟨l2, l12, s0⟩, ⟨m24, s9⟩, -⟩ := id hW
  have hCJ : CJ x xa D E T U s a := ⟨l, m, sp, n, c, hC⟩
  refine CT.of rfl (Nat.le_of_ble_eq_true rfl) (Nat.le_of_ble_eq_true rfl) ?_
  have hWd : WD l m sp (toldP s) a := by
    obtain ⟨⟨u, hu, eu⟩, -⟩ := hW.2.2.1
    exact hW.w (fun i hi => toldP_lo s (by omega)) eu hu h2 hs1 hs2
  have hTt : RT m (T 0) (U 0) (toldP s) a := RT_s hT (fun i hi => toldP_lo s (by omega)) rfl rfl (fun _ _ => rfl)
  have g60 := hI.1.1.2
  have d3 : D 0 3 = nI g := hR.2.1.1.trans hI.1.1.1
  by_cases ck : inP k 1 60 = true
  · obtain ⟨q, q1, q8, rfl⟩ := inP_1 (n := 60) (by omega) ck
    have inj : ∀ q', q' ≤ 60 → nI q = nI q' → q' = q := fun q' h z => ((nI_eq (by omega) (by omega)).mp z).symm
    obtain ⟨e, he⟩ : ∃ e, e = if g + q < 60 then g + q else 60 := ⟨_, rfl⟩
    have he1 : g ≤ e ∧ e ≤ 60 := by rw [he]; split <;> omega
    have hIe := ID_goL hWd hI (e - g) (by omega)
    rw [show g + (e - g) = e by omega] at hIe
    have egl : goL (toldP s) a m (a 26) q = goL (toldP s) a m (a 26) (e - g) := by
      by_cases c0 : g + q < 60
      · rw [if_pos c0] at he
        rw [show e - g = q by omega]
      · rw [if_neg c0] at he
        have := goL_stop (toldP s) a m (a 26) (n := e - g) (by rw [hIe.1.1.1, he]; decide) (q - (e - g))
        rw [show e - g + (q - (e - g)) = q by omega] at this
        exact this
    obtain ⟨N, hN⟩ : ∃ N, N = goL (toldP s) a m (a 26) (e - g) := ⟨_, rfl⟩
    have cr := cD_runTo L (D 0) (E 0) (T 0) (U 0) l m sp g e (toldP s) a (a 26) hWd hTt he1.1 he1.2 hI hR
    rw [← hN] at cr hIe
    have f2 : ∀ d ee, RD m e sp (toldP s) a d ee N → Q (some (.int (d 3))) (clsW x xa (va_up D 0 d) (va_up E 0 ee) T U) := fun d ee hRd => fin (d 3) x xa (va_up D 0 d) (va_up E 0 ee) T U (by
      rintro rm Ym h
      rw [hMQ, ck] at h
      rcases h with ⟨h, -⟩ | ⟨q', r1, r2, r3, rfl, rfl⟩
      · cases h
      · obtain rfl := inj q' r2 r3
        rw [egl, ← hN]
        refine ⟨by rw [hRd.2.1.1], _, _, _, rfl, l, m, sp, n, c, ?_⟩
        refine hC.cg2 (a' := va_up a 26 N) (fun i hi => toldP_lo s hi) rfl rfl (fun _ _ => rfl) rfl rfl rfl rfl rfl rfl ⟨e, DAY_cg (s := s) (a := a) (by omega) ⟨hIe, hRd⟩ (fun i hi => toldP_lo s (by omega)) rfl (fun _ _ => rfl) (fun _ _ => rfl)⟩ (fun k hk2 => ?_)
        have eD : va_up D 0 d (2 + k) = D (2 + k) := va_up_ne _ _ (by omega)
        have eE : va_up E 0 ee (2 + k) = E (2 + k) := va_up_ne _ _ (by omega)
        rw [eD, eE]
        obtain ⟨w1, w2, w3⟩ := hK k hk2
        refine ⟨w1, w2, fun z => ?_⟩
        obtain ⟨g', hg⟩ := w3 z
        exact ⟨g', DAY_cg (by omega) hg (fun i hi => toldP_lo s (by omega)) rfl (fun _ _ => rfl) (fun _ _ => rfl)⟩)
    clear hN egl hMQ hIe
    have emin : (if D 0 3 + nI q < 60 then D 0 3 + nI q else 60) = nI e := by
      rw [d3, nI_add, he]
      have ec : (nI (g + q) < 60) ↔ g + q < 60 := nI_ltI (b := 60) (by omega) (by omega)
      by_cases c0 : g + q < 60
      · rw [if_pos (ec.mpr c0), if_pos c0]
      · rw [if_neg (fun z => c0 (ec.mp z)), if_neg c0]; rfl
    rw [← emin] at cr
    have go : ∀ Q0, AJ L mX7_go 5 0 0 Q0 133 (0, 0) 14 [some (.ref 0), some (.int (nI q))] [] (clsW x xa D E T U) → AJ L mX7_go 5 0 0 Q0 133 (0, 0) 0 [some (.ref 0), some (.int (nI q))] [] (clsW x xa D E T U) := fun Q0 hh => AJ.run kX7_go [14, 13, 42] 30 ⟨fun z => absurd z (fun y => by
      have y : nI q < nI 1 := y
      rw [nI_ltI (by omega) (by omega)] at y
      omega), fun _ => ⟨fun _ => hh, fun z => absurd (nI_le (b := 60) q8 (by omega)) z⟩⟩
    refine go Q ?_
    refine AJ.run kX7_go [13, 42] 40 ?_
    refine AJ.callX kX7_go cr bX0_runTo rfl (by decide +kernel) [25, 26, 27, 28, 29, 30, 31, 32, 33, 34, 35, 36, 37, 3, 4, 5, 6, 7, 8, 9, 10, 11, 12] [] rfl rfl rfl rfl rfl rfl rfl (cls_wf rfl) rfl rfl ?_
    rintro r Y ⟨rfl, d, ee, hRd, rfl⟩
    refine ⟨(clsW x xa (va_up D 0 d) (va_up E 0 ee) T U), rfl, rfl, ?_⟩
    exact AJ.run kX7_go [13, 42] 40 (c7_ret kX7_go rfl rfl (f2 d ee hRd))
  · have ck : inP k 1 60 = false := by simpa using ck
    have f2 := fin (-3) x xa D E T U (by
      rintro rm Ym h
      rw [hMQ, ck] at h
      rcases h with ⟨-, rfl, rfl⟩ | ⟨q', r1, r2, r3, -⟩
      · exact ⟨rfl, _, _, _, rfl, hCJ⟩
      · have : inP k 1 60 = true := by
          rw [r3]
          exact in_mid (fun y => by
            have y : nI q' < nI 1 := y
            rw [nI_ltI (by omega) (by omega)] at y; omega) (fun y => by
            have y : nI 60 < nI q' := y
            rw [nI_ltI (by omega) (by omega)] at y; omega)
        rw [this] at ck; cases ck)
    refine AJ.run kX7_go [14, 13, 42] 30 ⟨fun _ => c7_ret kX7_go rfl rfl f2, fun z1 => ⟨fun z2 => ?_, fun _ => c7_ret kX7_go rfl rfl f2⟩⟩
    exfalso
    rw [in_mid z1 (le_nlt.mp z2)] at ck
    cases ck
set_option maxRecDepth 100000 in
set_option maxHeartbeats 4000000 in
theorem c7_drop (L : xLn) (x : xN) (xa : Nat → xN) (D : Nat → xN) (E : Nat → Nat → xN) (T : Nat → xN) (U : Nat → Nat → xN) : CT L mX7_dropWhatDependsOnMoods 0 0 0 [.ref 0] (clsW x xa D E T U) (eqQ none (clsW (upd (upd x 5 0) 14 0) (va_up xa 2 (upd (upd (xa 2) 0 0) 1 0)) D E T U)) := by
  obtain ⟨Q, hQ⟩ : ∃ Q, Q = eqQ none (clsW (upd (upd x 5 0) 14 0) (va_up xa 2 (upd (upd (xa 2) 0 0) 1 0)) D E T U) := ⟨_, rfl⟩
  have fin : Q none (clsW (upd (upd x 5 0) 14 0) (va_up xa 2 (upd (upd (xa 2) 0 0) 1 0)) D E T U) := by rw [hQ]; exact ⟨rfl, rfl⟩
  rw [← hQ]
  clear hQ
  refine CT.of rfl (Nat.le_of_ble_eq_true rfl) (Nat.le_of_ble_eq_true rfl) ?_
  have g36 : AJ L mX7_dropWhatDependsOnMoods 0 0 0 Q 133 (0, 0) 36 [some (.ref 0), some (.int (nI 2))] [] (clsW (upd (upd x 5 0) 14 0) (va_up xa 2 (upd (upd (xa 2) 0 0) 1 0)) D E T U) := c7_rv kX7_dropWhatDependsOnMoods rfl rfl fin
  have g2 : AJ L mX7_dropWhatDependsOnMoods 0 0 0 Q 133 (0, 0) 2 [some (.ref 0), some (.int (nI 2))] [] (clsW x (va_up xa 2 (upd (upd (xa 2) 0 0) 1 0)) D E T U) := AJ.run kX7_dropWhatDependsOnMoods [36] 40 ⟨fun _ => ⟨Or.inl rfl, Or.inl rfl, g36⟩, fun z => absurd (by decide) z⟩
  have g1 : AJ L mX7_dropWhatDependsOnMoods 0 0 0 Q 133 (0, 0) 2 [some (.ref 0), some (.int (nI 1))] [] (clsW x (va_up xa 2 (upd (xa 2) 0 0)) D E T U) := AJ.run kX7_dropWhatDependsOnMoods [2] 40 ⟨fun z => absurd z (by decide), fun _ => ⟨1, rfl, by omega, Or.inl rfl, g2⟩⟩
  have g0 : AJ L mX7_dropWhatDependsOnMoods 0 0 0 Q 133 (0, 0) 2 [some (.ref 0), some (.int (nI 0))] [] (clsW x xa D E T U) := AJ.run kX7_dropWhatDependsOnMoods [2] 40 ⟨fun z => absurd z (by decide), fun _ => ⟨0, rfl, by omega, Or.inl rfl, g1⟩⟩
  exact AJ.run kX7_dropWhatDependsOnMoods [2] 40 g0
