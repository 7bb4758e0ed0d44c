/-! ===== the class and the reference, method by method ===== -/
theorem c8_go2 (L : xLn) (s : xN) (j : Int64) (a : Nat → xN) (m : Nat) (hok : okT s a m) (hN : ∀ n, goL (toldP s) a m (a 26) n 0 < 60 → abO (goL (toldP s) a m (a 26) n) ∧ ∃ h, goL (toldP s) a m (a 26) n 7 + goL (toldP s) a m (a 26) n 8 = nI h ∧ h + 2 ≤ 120) (k : Int32) : CT L mX8_go 3 0 0 [.ref 0, .int k] (modW s j a) (fun r Y => (inP k 1 60 = false ∧ r = some (.int (-3)) ∧ Y = modW s j a) ∨ (∃ n, 1 ≤ n ∧ n ≤ 60 ∧ k = nI n ∧ r = some (.int (goL (toldP s) a m (a 26) n 0)) ∧ Y = modN (toldP s) j a (goL (toldP s) a m (a 26) n))) := by
  obtain ⟨F, hF⟩ : ∃ F : Nat → xN, F = goL (toldP s) a m (a 26) := ⟨_, rfl⟩
  have hF0 : F 0 = a 26 := by rw [hF]; rfl
  have hF1 : ∀ n, F (n + 1) = if F n 0 < 60 then minP (toldP s) a m (F n) else F n := fun n => by rw [hF]; rfl
  have hFk : ∀ n, F n 0 < 60 → abO (F n) ∧ ∃ h, F n 7 + F n 8 = nI h ∧ h + 2 ≤ 120 := by rw [hF]; exact hN
  have hFs : ∀ n k, ¬ F n 0 < 60 → F (n + k) = F n := fun n k h => by rw [hF] at h ⊢; exact goL_stop _ _ _ _ h k
  rw [← hF]
  clear hF
  refine CT.of rfl (Nat.le_of_ble_eq_true rfl) (Nat.le_of_ble_eq_true rfl) ?_
  refine AJ.run kX8_go [] 60 ?_
  refine AJ.callZ kX8_go (c8_in L k 1 60) bX8_in rfl (by decide +kernel) [] rfl rfl rfl rfl rfl ?_
  rintro r rfl
  refine AJ.run kX8_go [13] 60 ⟨fun h => ?_, fun h => Or.inl ⟨(bI_eq0 _).mp h, rfl, rfl⟩⟩
  have h := of_decide_eq_true ((bI_ne0 _).mp h)
  obtain ⟨n, hn, rfl⟩ : ∃ n, n ≤ 60 ∧ k = nI n := nI_of2 (M := 60) (n := 60) rfl (by have := h.1; have e1 : (1 : Int32).toInt = 1 := rfl; have e0 : (0 : Int32).toInt = 0 := rfl; simp only [i32_lt, i32_le] at this ⊢; omega) h.2
  have hn1 : 1 ≤ n := (nI_leI (a := 1) (by omega) (by omega)).mp h.1
  refine AJ.run kX8_go [] 60 ?_
  refine AJ.callF kX8_go (c8_asTold L s j a) bX8_asTold rfl (by decide +kernel) [] rfl rfl rfl rfl rfl rfl rfl rfl ?_
  rintro r Y ⟨rfl, rfl⟩
  refine ⟨rfl, rfl, ?_⟩
  have loop : ∀ (f i : Nat), i + f = n → AJ L mX8_go 3 0 0 (fun r Y => (inP (nI n) 1 60 = false ∧ r = some (.int (-3)) ∧ Y = modW s j a) ∨ (∃ q, 1 ≤ q ∧ q ≤ 60 ∧ nI n = nI q ∧ r = some (.int (F q 0)) ∧ Y = modN (toldP s) j a (F q))) (modW s j a).length (0, 0) 19 [some (.ref 0), some (.int (nI n)), some (.int (nI i))] [] (modN (toldP s) j a (F i)) := by
    intro f
    induction f with
    | zero =>
      intro i hi
      obtain rfl : i = n := by omega
      refine AJ.run kX8_go [19] 60 ⟨fun _ => ⟨0, rfl, by omega, Or.inr ⟨i, hn1, hn, rfl, rfl, rfl⟩⟩, fun hz => absurd (nI_le (Nat.le_refl _) (by omega)) hz⟩
    | succ f ih =>
      intro i hi
      refine AJ.run kX8_go [19] 60 ⟨fun hz => absurd hz (nI_ge (by omega) (by omega)), fun _ => ⟨0, rfl, by omega, fun h2 => ⟨0, rfl, by omega, Or.inr ⟨n, hn1, hn, rfl, ?_, ?_⟩⟩, fun h2 => ?_⟩⟩
      · have h2 : (60 : Int32) ≤ F i 0 := h2
        have h3 : ¬ F i 0 < 60 := by simp only [i32_lt, i32_le] at h2 ⊢; omega
        rw [show n = i + (f + 1) by omega, hFs i (f + 1) h3]; (try rfl)
      · have h2 : (60 : Int32) ≤ F i 0 := h2
        have h3 : ¬ F i 0 < 60 := by simp only [i32_lt, i32_le] at h2 ⊢; omega
        rw [show n = i + (f + 1) by omega, hFs i (f + 1) h3]; (try rfl)
      · have h2 : ¬ (60 : Int32) ≤ F i 0 := h2
        have h3 : F i 0 < 60 := by simp only [i32_lt, i32_le] at h2 ⊢; omega
        obtain ⟨ab, h', e3, e4⟩ := hFk i h3
        have n2 := ih (i + 1) (by omega)
        rw [hF1 i, if_pos h3, nI_succ] at n2
        refine AJ.callF kX8_go (c8_goMinute L (toldP s) j a (F i) m h' hok.d ab e3 e4) bX8_goMinute rfl (by decide +kernel) [] rfl rfl rfl rfl rfl rfl rfl rfl ?_
        rintro r Y ⟨rfl, rfl⟩
        exact ⟨rfl, rfl, AJ.run kX8_go [19] 60 n2⟩
  have := loop n 0 (by omega)
  rw [hF0] at this
  exact AJ.run kX8_go [19] 60 this
def PR (L : xLn) (Mx Mm : xM) (av : List Value) (x : xN) (xa : Nat → xN) (D : Nat → xN) (E : Nat → Nat → xN) (T : Nat → xN) (U : Nat → Nat → xN) (s : xN) (j : Int64) (a : Nat → xN) : Prop :=
  ∃ dx dm MQ, Nat.blt dx 10 = true ∧ Nat.blt dm 10 = true ∧ CT L Mx dx 0 0 (.ref 0 :: av) (clsW x xa D E T U) (relQ MQ) ∧ CT L Mm dm 0 0 (.ref 0 :: av) (modW s j a) MQ
theorem kp_same {m : Nat} {s : xN} {j : Int64} {a : Nat → xN} {v : Int32} : ∀ (r : Option Value) (Y : List xE), (r = some (.int v) ∧ Y = modW s j a) → r = some (.int v) ∧ ∃ s' j' a', Y = modW s' j' a' ∧ keptM m s a s' a' := fun _ _ h => ⟨h.1, s, j, a, h.2, keptM.rf m s a⟩
theorem kp_id {m : Nat} {s : xN} {a : Nat → xN} {v : Int32} : ∀ (r : Option Value) (Y : List xE), (r = some (.int v) ∧ ∃ s' j' a', Y = modW s' j' a' ∧ keptM m s a s' a') → r = some (.int v) ∧ ∃ s' j' a', Y = modW s' j' a' ∧ keptM m s a s' a' := fun _ _ h => h
theorem CI.go {l m sp n c : Nat} {x : xN} {xa : Nat → xN} {D : Nat → xN} {E : Nat → Nat → xN} {T : Nat → xN} {U : Nat → Nat → xN} {s : xN} {a : Nat → xN} (h : CI l m sp n c x xa D E T U s a) (q : Nat) (hq : goL (toldP s) a m (a 26) q 0 < 60) : abO (goL (toldP s) a m (a 26) q) ∧ ∃ h, goL (toldP s) a m (a 26) q 7 + goL (toldP s) a m (a 26) q 8 = nI h ∧ h + 2 ≤ 120 := by
  obtain ⟨⟨hW, hT, h2, hs1, hs2⟩, -, -, ⟨g, hI, hR⟩, -⟩ := h
  obtain ⟨v, hv, e1⟩ := hW.2.2.1.1
  have hD : WD l m sp (toldP s) a := hW.w (fun i hi => toldP_lo s (by omega)) (v := v) ((toldP_30 s).1.trans e1) hv ((toldP_30 s).2.1.trans h2) hs1 hs2
  have hm : m ≤ 26 := by have := hW.2.1.1; omega
  have hg : g ≤ 60 := hI.1.1.2
  by_cases c : g + q ≤ 60
  · have h3 := ID_goL hD hI q c
    obtain ⟨h, h4, h5⟩ := h3.2.2.2.b hm
    exact ⟨h3.2.1.ab, h, h4, by omega⟩
  · exfalso
    have h3 := ID_goL hD hI (60 - g) (by omega)
    have e0 : goL (toldP s) a m (a 26) (60 - g) 0 = nI (g + (60 - g)) := h3.1.1.1
    have hz : ¬ goL (toldP s) a m (a 26) (60 - g) 0 < 60 := by
      rw [e0, show g + (60 - g) = 60 by omega]
      exact nI_nlt (b := 60) (Nat.le_refl _) (by omega)
    have e2 := goL_stop (toldP s) a m (a 26) hz (q - (60 - g))
    rw [show 60 - g + (q - (60 - g)) = q by omega] at e2
    rw [e2] at hq
    exact hz hq
theorem p_write (L : xLn) (x : xN) (xa : Nat → xN) (D : Nat → xN) (E : Nat → Nat → xN) (T : Nat → xN) (U : Nat → Nat → xN) (s : xN) (j : Int64) (a : Nat → xN) (hJ : CJ x xa D E T U s a) (w : Int64) (k : Int32) : PR L mX7_write mX8_write [.long w, .int k] x xa D E T U s j a := by
  obtain ⟨l, m, sp, n, c, hC⟩ := hJ
  obtain ⟨⟨hW, hT, h2, hs1, hs2⟩, ⟨n1, n2, n3, n4⟩, ⟨c1, c2, c3, c4⟩, ⟨g, hI, hR⟩, hK, hF, hB⟩ := id hC
  have hl := hW.1.2.2
  have hl2 := hW.1.2.1
  exact ⟨1, 1, _, rfl, rfl, c7_write L l m sp n c x xa D E T U s a j hC w k, c8_write L s j a n n2 n1 w k⟩
theorem p_erase (L : xLn) (x : xN) (xa : Nat → xN) (D : Nat → xN) (E : Nat → Nat → xN) (T : Nat → xN) (U : Nat → Nat → xN) (s : xN) (j : Int64) (a : Nat → xN) (hJ : CJ x xa D E T U s a)  : PR L mX7_erase mX8_erase [] x xa D E T U s j a := by
  obtain ⟨l, m, sp, n, c, hC⟩ := hJ
  obtain ⟨⟨hW, hT, h2, hs1, hs2⟩, ⟨n1, n2, n3, n4⟩, ⟨c1, c2, c3, c4⟩, ⟨g, hI, hR⟩, hK, hF, hB⟩ := id hC
  have hl := hW.1.2.2
  have hl2 := hW.1.2.1
  exact ⟨0, 0, _, rfl, rfl, c7_erase L l m sp n c x xa D E T U s a j hC , c8_erase L s j a⟩
theorem p_fault (L : xLn) (x : xN) (xa : Nat → xN) (D : Nat → xN) (E : Nat → Nat → xN) (T : Nat → xN) (U : Nat → Nat → xN) (s : xN) (j : Int64) (a : Nat → xN) (hJ : CJ x xa D E T U s a)  : PR L mX7_fault mX8_fault [] x xa D E T U s j a := by
  obtain ⟨l, m, sp, n, c, hC⟩ := hJ
  obtain ⟨⟨hW, hT, h2, hs1, hs2⟩, ⟨n1, n2, n3, n4⟩, ⟨c1, c2, c3, c4⟩, ⟨g, hI, hR⟩, hK, hF, hB⟩ := id hC
  have hl := hW.1.2.2
  have hl2 := hW.1.2.1
  exact ⟨9, 6, _, rfl, rfl, rel_ci (c7_fault L l m sp n c x xa D E T U s a hC ) kp_id, c8_fault L s j a n m n2 n1 ⟩
theorem p_rail (L : xLn) (x : xN) (xa : Nat → xN) (D : Nat → xN) (E : Nat → Nat → xN) (T : Nat → xN) (U : Nat → Nat → xN) (s : xN) (j : Int64) (a : Nat → xN) (hJ : CJ x xa D E T U s a)  : PR L mX7_rail mX8_rail [] x xa D E T U s j a := by
  obtain ⟨l, m, sp, n, c, hC⟩ := hJ
  obtain ⟨⟨hW, hT, h2, hs1, hs2⟩, ⟨n1, n2, n3, n4⟩, ⟨c1, c2, c3, c4⟩, ⟨g, hI, hR⟩, hK, hF, hB⟩ := id hC
  have hl := hW.1.2.2
  have hl2 := hW.1.2.1
  exact ⟨9, 6, _, rfl, rfl, c7_rail L l m sp n c x xa D E T U s a j hC , c8_rail L s j a n l m n2 n1 hW⟩
theorem p_mood (L : xLn) (x : xN) (xa : Nat → xN) (D : Nat → xN) (E : Nat → Nat → xN) (T : Nat → xN) (U : Nat → Nat → xN) (s : xN) (j : Int64) (a : Nat → xN) (hJ : CJ x xa D E T U s a) (k w : Int32) : PR L mX7_mood mX8_mood [.int k, .int w] x xa D E T U s j a := by
  obtain ⟨l, m, sp, n, c, hC⟩ := hJ
  obtain ⟨⟨hW, hT, h2, hs1, hs2⟩, ⟨n1, n2, n3, n4⟩, ⟨c1, c2, c3, c4⟩, ⟨g, hI, hR⟩, hK, hF, hB⟩ := id hC
  have hl := hW.1.2.2
  have hl2 := hW.1.2.1
  exact ⟨0, 1, _, rfl, rfl, rel_ci (c7_mood L l m sp n c x xa D E T U s a hC k w) kp_same, c8_mood L s j a m hW.t k w⟩
theorem p_drawn (L : xLn) (x : xN) (xa : Nat → xN) (D : Nat → xN) (E : Nat → Nat → xN) (T : Nat → xN) (U : Nat → Nat → xN) (s : xN) (j : Int64) (a : Nat → xN) (hJ : CJ x xa D E T U s a) (k w : Int32) : PR L mX7_drawn mX8_drawn [.int k, .int w] x xa D E T U s j a := by
  obtain ⟨l, m, sp, n, c, hC⟩ := hJ
  obtain ⟨⟨hW, hT, h2, hs1, hs2⟩, ⟨n1, n2, n3, n4⟩, ⟨c1, c2, c3, c4⟩, ⟨g, hI, hR⟩, hK, hF, hB⟩ := id hC
  have hl := hW.1.2.2
  have hl2 := hW.1.2.1
  exact ⟨2, 2, _, rfl, rfl, c7_drawn L l m sp n c x xa D E T U s a j hC k w, c8_drawn L s j a m (cntB (fun i => hasP (s 7) (nI i)) 8) hW.2.1.2 hW.2.1.1 (fun h7 => ⟨bitsP_cnt (s 7) 8 (Nat.le_refl _), bits_pos hW.2.2.2.2.2.1 h7, cntB_le _ _⟩) k w⟩
theorem p_go (L : xLn) (x : xN) (xa : Nat → xN) (D : Nat → xN) (E : Nat → Nat → xN) (T : Nat → xN) (U : Nat → Nat → xN) (s : xN) (j : Int64) (a : Nat → xN) (hJ : CJ x xa D E T U s a) (k : Int32) : PR L mX7_go mX8_go [.int k] x xa D E T U s j a := by
  obtain ⟨l, m, sp, n, c, hC⟩ := hJ
  obtain ⟨⟨hW, hT, h2, hs1, hs2⟩, ⟨n1, n2, n3, n4⟩, ⟨c1, c2, c3, c4⟩, ⟨g, hI, hR⟩, hK, hF, hB⟩ := id hC
  have hl := hW.1.2.2
  have hl2 := hW.1.2.1
  exact ⟨5, 3, _, rfl, rfl, c7_go L l m sp n c x xa D E T U s a j hC k, c8_go2 L s j a m hW.t hC.go k⟩
theorem p_tram (L : xLn) (x : xN) (xa : Nat → xN) (D : Nat → xN) (E : Nat → Nat → xN) (T : Nat → xN) (U : Nat → Nat → xN) (s : xN) (j : Int64) (a : Nat → xN) (hJ : CJ x xa D E T U s a) (k w : Int32) : PR L mX7_tram mX8_tram [.int k, .int w] x xa D E T U s j a := by
  obtain ⟨l, m, sp, n, c, hC⟩ := hJ
  obtain ⟨⟨hW, hT, h2, hs1, hs2⟩, ⟨n1, n2, n3, n4⟩, ⟨c1, c2, c3, c4⟩, ⟨g, hI, hR⟩, hK, hF, hB⟩ := id hC
  have hl := hW.1.2.2
  have hl2 := hW.1.2.1
  exact ⟨1, 2, _, rfl, rfl, rel_ci (c7_tram L l m sp n c x xa D E T U s a hC k w) kp_same, c8_tram L s j a  k w⟩
theorem p_person (L : xLn) (x : xN) (xa : Nat → xN) (D : Nat → xN) (E : Nat → Nat → xN) (T : Nat → xN) (U : Nat → Nat → xN) (s : xN) (j : Int64) (a : Nat → xN) (hJ : CJ x xa D E T U s a) (k w : Int32) : PR L mX7_person mX8_person [.int k, .int w] x xa D E T U s j a := by
  obtain ⟨l, m, sp, n, c, hC⟩ := hJ
  obtain ⟨⟨hW, hT, h2, hs1, hs2⟩, ⟨n1, n2, n3, n4⟩, ⟨c1, c2, c3, c4⟩, ⟨g, hI, hR⟩, hK, hF, hB⟩ := id hC
  have hl := hW.1.2.2
  have hl2 := hW.1.2.1
  exact ⟨2, 2, _, rfl, rfl, rel_ci (c7_person L l m sp n c x xa D E T U s a hC k w) kp_same, c8_person L s j a hI.2.1.ab k w⟩
theorem p_halt (L : xLn) (x : xN) (xa : Nat → xN) (D : Nat → xN) (E : Nat → Nat → xN) (T : Nat → xN) (U : Nat → Nat → xN) (s : xN) (j : Int64) (a : Nat → xN) (hJ : CJ x xa D E T U s a) (k w : Int32) : PR L mX7_halt mX8_halt [.int k, .int w] x xa D E T U s j a := by
  obtain ⟨l, m, sp, n, c, hC⟩ := hJ
  obtain ⟨⟨hW, hT, h2, hs1, hs2⟩, ⟨n1, n2, n3, n4⟩, ⟨c1, c2, c3, c4⟩, ⟨g, hI, hR⟩, hK, hF, hB⟩ := id hC
  have hl := hW.1.2.2
  have hl2 := hW.1.2.1
  have hm : m ≤ 24 := hW.2.1.1
  obtain ⟨h, e1, h26, e2⟩ : ∃ h, a 26 7 + a 26 8 = nI h ∧ h ≤ 26 ∧ ∀ i, i < h → ∃ c, c < 26 ∧ a 26 (93 + 4 * i + 3) = nI c := by
    obtain ⟨h, e1, e2, e3, e4⟩ := hI.2.2.2
    refine ⟨h, e1, ?_, fun i hi => ?_⟩
    · rw [e2]
      exact Nat.le_trans (cntB_le _ _) (by omega)
    · obtain ⟨⟨c, hc, e5⟩, -⟩ := e4 i hi
      exact ⟨c, by omega, e5⟩
  exact ⟨1, 1, _, rfl, rfl, rel_ci (c7_halt L l m sp n c x xa D E T U s a hC k w) kp_same, c8_halt L s j a h e1 (by omega) (fun i hi => e2 i hi) k w⟩
theorem p_keep (L : xLn) (x : xN) (xa : Nat → xN) (D : Nat → xN) (E : Nat → Nat → xN) (T : Nat → xN) (U : Nat → Nat → xN) (s : xN) (j : Int64) (a : Nat → xN) (hJ : CJ x xa D E T U s a) (k : Int32) : PR L mX7_keep mX8_keep [.int k] x xa D E T U s j a := by
  obtain ⟨l, m, sp, n, c, hC⟩ := hJ
  obtain ⟨⟨hW, hT, h2, hs1, hs2⟩, ⟨n1, n2, n3, n4⟩, ⟨c1, c2, c3, c4⟩, ⟨g, hI, hR⟩, hK, hF, hB⟩ := id hC
  have hl := hW.1.2.2
  have hl2 := hW.1.2.1
  exact ⟨3, 1, _, rfl, rfl, c7_keep L l m sp n c x xa D E T U s a j hC k, c8_keep L s j a k⟩
theorem p_back (L : xLn) (x : xN) (xa : Nat → xN) (D : Nat → xN) (E : Nat → Nat → xN) (T : Nat → xN) (U : Nat → Nat → xN) (s : xN) (j : Int64) (a : Nat → xN) (hJ : CJ x xa D E T U s a) (k : Int32) : PR L mX7_back mX8_back [.int k] x xa D E T U s j a := by
  obtain ⟨l, m, sp, n, c, hC⟩ := hJ
  obtain ⟨⟨hW, hT, h2, hs1, hs2⟩, ⟨n1, n2, n3, n4⟩, ⟨c1, c2, c3, c4⟩, ⟨g, hI, hR⟩, hK, hF, hB⟩ := id hC
  have hl := hW.1.2.2
  have hl2 := hW.1.2.1
  exact ⟨3, 1, _, rfl, rfl, c7_back L l m sp n c x xa D E T U s a j hC k, c8_back L s j a k⟩
theorem p_home (L : xLn) (x : xN) (xa : Nat → xN) (D : Nat → xN) (E : Nat → Nat → xN) (T : Nat → xN) (U : Nat → Nat → xN) (s : xN) (j : Int64) (a : Nat → xN) (hJ : CJ x xa D E T U s a) (k : Int32) : PR L mX7_home mX8_home [.int k] x xa D E T U s j a := by
  obtain ⟨l, m, sp, n, c, hC⟩ := hJ
  obtain ⟨⟨hW, hT, h2, hs1, hs2⟩, ⟨n1, n2, n3, n4⟩, ⟨c1, c2, c3, c4⟩, ⟨g, hI, hR⟩, hK, hF, hB⟩ := id hC
  have hl := hW.1.2.2
  have hl2 := hW.1.2.1
  exact ⟨6, 4, _, rfl, rfl, rel_ci (c7_home L l m sp n c x xa D E T U s a hC k) kp_id, c8_home L s j a m hW.t k⟩
theorem p_feigned (L : xLn) (x : xN) (xa : Nat → xN) (D : Nat → xN) (E : Nat → Nat → xN) (T : Nat → xN) (U : Nat → Nat → xN) (s : xN) (j : Int64) (a : Nat → xN) (hJ : CJ x xa D E T U s a) (k nn w : Int32) : PR L mX7_feigned mX8_feigned [.int k, .int nn, .int w] x xa D E T U s j a := by
  obtain ⟨l, m, sp, n, c, hC⟩ := hJ
  obtain ⟨⟨hW, hT, h2, hs1, hs2⟩, ⟨n1, n2, n3, n4⟩, ⟨c1, c2, c3, c4⟩, ⟨g, hI, hR⟩, hK, hF, hB⟩ := id hC
  have hl := hW.1.2.2
  have hl2 := hW.1.2.1
  exact ⟨7, 5, _, rfl, rfl, rel_ci (c7_feigned L l m sp n c x xa D E T U s a hC k nn w) kp_id, c8_feigned L s j a m hW.t k nn w⟩
theorem p_law (L : xLn) (x : xN) (xa : Nat → xN) (D : Nat → xN) (E : Nat → Nat → xN) (T : Nat → xN) (U : Nat → Nat → xN) (s : xN) (j : Int64) (a : Nat → xN) (hJ : CJ x xa D E T U s a) (k : Int32) : PR L mX7_law mX8_law [.int k] x xa D E T U s j a := by
  obtain ⟨l, m, sp, n, c, hC⟩ := hJ
  obtain ⟨⟨hW, hT, h2, hs1, hs2⟩, ⟨n1, n2, n3, n4⟩, ⟨c1, c2, c3, c4⟩, ⟨g, hI, hR⟩, hK, hF, hB⟩ := id hC
  have hl := hW.1.2.2
  have hl2 := hW.1.2.1
  exact ⟨6, 4, _, rfl, rfl, rel_ci (c7_law L l m sp n c x xa D E T U s a hC k) kp_id, c8_law L s j a m hW.t k⟩
theorem p_worn (L : xLn) (x : xN) (xa : Nat → xN) (D : Nat → xN) (E : Nat → Nat → xN) (T : Nat → xN) (U : Nat → Nat → xN) (s : xN) (j : Int64) (a : Nat → xN) (hJ : CJ x xa D E T U s a) (k : Int32) : PR L mX7_worn mX8_worn [.int k] x xa D E T U s j a := by
  obtain ⟨l, m, sp, n, c, hC⟩ := hJ
  obtain ⟨⟨hW, hT, h2, hs1, hs2⟩, ⟨n1, n2, n3, n4⟩, ⟨c1, c2, c3, c4⟩, ⟨g, hI, hR⟩, hK, hF, hB⟩ := id hC
  have hl := hW.1.2.2
  have hl2 := hW.1.2.1
  exact ⟨6, 4, _, rfl, rfl, rel_ci (c7_worn L l m sp n c x xa D E T U s a hC k) kp_id, c8_worn L s j a m hW.t k⟩
theorem p_dry (L : xLn) (x : xN) (xa : Nat → xN) (D : Nat → xN) (E : Nat → Nat → xN) (T : Nat → xN) (U : Nat → Nat → xN) (s : xN) (j : Int64) (a : Nat → xN) (hJ : CJ x xa D E T U s a)  : PR L mX7_dry mX8_dry [] x xa D E T U s j a := by
  obtain ⟨l, m, sp, n, c, hC⟩ := hJ
  obtain ⟨⟨hW, hT, h2, hs1, hs2⟩, ⟨n1, n2, n3, n4⟩, ⟨c1, c2, c3, c4⟩, ⟨g, hI, hR⟩, hK, hF, hB⟩ := id hC
  have hl := hW.1.2.2
  have hl2 := hW.1.2.1
  exact ⟨6, 4, _, rfl, rfl, rel_ci (c7_dry L l m sp n c x xa D E T U s a hC ) kp_id, c8_dry L s j a m l hW.t hl hl2 ⟩
theorem p_last (L : xLn) (x : xN) (xa : Nat → xN) (D : Nat → xN) (E : Nat → Nat → xN) (T : Nat → xN) (U : Nat → Nat → xN) (s : xN) (j : Int64) (a : Nat → xN) (hJ : CJ x xa D E T U s a) (k : Int32) : PR L mX7_last mX8_last [.int k] x xa D E T U s j a := by
  obtain ⟨l, m, sp, n, c, hC⟩ := hJ
  obtain ⟨⟨hW, hT, h2, hs1, hs2⟩, ⟨n1, n2, n3, n4⟩, ⟨c1, c2, c3, c4⟩, ⟨g, hI, hR⟩, hK, hF, hB⟩ := id hC
  have hl := hW.1.2.2
  have hl2 := hW.1.2.1
  exact ⟨6, 4, _, rfl, rfl, rel_ci (c7_last L l m sp n c x xa D E T U s a hC k) kp_id, c8_last L s j a m l hW.t hl hl2 k⟩
theorem p_fares (L : xLn) (x : xN) (xa : Nat → xN) (D : Nat → xN) (E : Nat → Nat → xN) (T : Nat → xN) (U : Nat → Nat → xN) (s : xN) (j : Int64) (a : Nat → xN) (hJ : CJ x xa D E T U s a)  : PR L mX7_fares mX8_fares [] x xa D E T U s j a := by
  obtain ⟨l, m, sp, n, c, hC⟩ := hJ
  obtain ⟨⟨hW, hT, h2, hs1, hs2⟩, ⟨n1, n2, n3, n4⟩, ⟨c1, c2, c3, c4⟩, ⟨g, hI, hR⟩, hK, hF, hB⟩ := id hC
  have hl := hW.1.2.2
  have hl2 := hW.1.2.1
  exact ⟨6, 4, _, rfl, rfl, rel_ci (c7_fares L l m sp n c x xa D E T U s a hC ) kp_id, c8_fares L s j a m hW.t ⟩
theorem p_seen (L : xLn) (x : xN) (xa : Nat → xN) (D : Nat → xN) (E : Nat → Nat → xN) (T : Nat → xN) (U : Nat → Nat → xN) (s : xN) (j : Int64) (a : Nat → xN) (hJ : CJ x xa D E T U s a) (k w : Int32) : PR L mX7_seen mX8_seen [.int k, .int w] x xa D E T U s j a := by
  obtain ⟨l, m, sp, n, c, hC⟩ := hJ
  obtain ⟨⟨hW, hT, h2, hs1, hs2⟩, ⟨n1, n2, n3, n4⟩, ⟨c1, c2, c3, c4⟩, ⟨g, hI, hR⟩, hK, hF, hB⟩ := id hC
  have hl := hW.1.2.2
  have hl2 := hW.1.2.1
  exact ⟨1, 2, _, rfl, rfl, c7_seen L l m sp n c x xa D E T U s a j hC k w, c8_seen L s j a c c2 c1 k w⟩
theorem p_forget (L : xLn) (x : xN) (xa : Nat → xN) (D : Nat → xN) (E : Nat → Nat → xN) (T : Nat → xN) (U : Nat → Nat → xN) (s : xN) (j : Int64) (a : Nat → xN) (hJ : CJ x xa D E T U s a)  : PR L mX7_forget mX8_forget [] x xa D E T U s j a := by
  obtain ⟨l, m, sp, n, c, hC⟩ := hJ
  obtain ⟨⟨hW, hT, h2, hs1, hs2⟩, ⟨n1, n2, n3, n4⟩, ⟨c1, c2, c3, c4⟩, ⟨g, hI, hR⟩, hK, hF, hB⟩ := id hC
  have hl := hW.1.2.2
  have hl2 := hW.1.2.1
  exact ⟨1, 0, _, rfl, rfl, c7_forget L l m sp n c x xa D E T U s a j hC , c8_forget L s j a⟩
theorem p_read (L : xLn) (x : xN) (xa : Nat → xN) (D : Nat → xN) (E : Nat → Nat → xN) (T : Nat → xN) (U : Nat → Nat → xN) (s : xN) (j : Int64) (a : Nat → xN) (hJ : CJ x xa D E T U s a) (k : Int32) : PR L mX7_read mX8_read [.int k] x xa D E T U s j a := by
  obtain ⟨l, m, sp, n, c, hC⟩ := hJ
  obtain ⟨⟨hW, hT, h2, hs1, hs2⟩, ⟨n1, n2, n3, n4⟩, ⟨c1, c2, c3, c4⟩, ⟨g, hI, hR⟩, hK, hF, hB⟩ := id hC
  have hl := hW.1.2.2
  have hl2 := hW.1.2.1
  exact ⟨7, 5, _, rfl, rfl, rel_ci (c7_read L l m sp n c x xa D E T U s a hC k) kp_id, c8_read L s j a m c hW.t c2 c1 k⟩
theorem p_odds (L : xLn) (x : xN) (xa : Nat → xN) (D : Nat → xN) (E : Nat → Nat → xN) (T : Nat → xN) (U : Nat → Nat → xN) (s : xN) (j : Int64) (a : Nat → xN) (hJ : CJ x xa D E T U s a) (k w : Int32) : PR L mX7_odds mX8_odds [.int k, .int w] x xa D E T U s j a := by
  obtain ⟨l, m, sp, n, c, hC⟩ := hJ
  obtain ⟨⟨hW, hT, h2, hs1, hs2⟩, ⟨n1, n2, n3, n4⟩, ⟨c1, c2, c3, c4⟩, ⟨g, hI, hR⟩, hK, hF, hB⟩ := id hC
  have hl := hW.1.2.2
  have hl2 := hW.1.2.1
  exact ⟨7, 5, _, rfl, rfl, rel_ci (c7_odds L l m sp n c x xa D E T U s a hC k w) kp_id, c8_odds L s j a m c hW.t c2 c1 k w⟩
theorem p_count (L : xLn) (x : xN) (xa : Nat → xN) (D : Nat → xN) (E : Nat → Nat → xN) (T : Nat → xN) (U : Nat → Nat → xN) (s : xN) (j : Int64) (a : Nat → xN) (hJ : CJ x xa D E T U s a) (k : Int32) : PR L mX7_count mX8_count [.int k] x xa D E T U s j a := by
  obtain ⟨l, m, sp, n, c, hC⟩ := hJ
  obtain ⟨⟨hW, hT, h2, hs1, hs2⟩, ⟨n1, n2, n3, n4⟩, ⟨c1, c2, c3, c4⟩, ⟨g, hI, hR⟩, hK, hF, hB⟩ := id hC
  have hl := hW.1.2.2
  have hl2 := hW.1.2.1
  exact ⟨0, 1, _, rfl, rfl, rel_ci (c7_count L l m sp n c x xa D E T U s a hC k) kp_same, c8_count L s j a  k⟩
