/-! ===== the reference: minutes that go; kept days; seen halts; the text; moods drawn ===== -/
theorem c8_seen (L : xLn) (s : xN) (j : Int64) (a : Nat → xN) (n : Nat) (hs : s 11 = nI n) (hn : n ≤ 8) (p t : Int32) : CT L mX8_seen 2 0 0 [.ref 0, .int p, .int t] (modW s j a) (fun r Y => (inP p 0 (s 0 - 1) = false ∧ r = some (.int (-2)) ∧ Y = modW s j a) ∨ (inP p 0 (s 0 - 1) = true ∧ inP t 0 59 = false ∧ r = some (.int (-3)) ∧ Y = modW s j a) ∨ (inP p 0 (s 0 - 1) = true ∧ inP t 0 59 = true ∧ n = 8 ∧ r = some (.int (-5)) ∧ Y = modW s j a) ∨ (inP p 0 (s 0 - 1) = true ∧ inP t 0 59 = true ∧ n < 8 ∧ r = some (.int (nI (n + 1))) ∧ Y = modW (upd s 11 (nI (n + 1))) j (va_up a 12 (upd (upd (a 12) (2 * n) p) (2 * n + 1) t)))) := by
  refine CT.of rfl (Nat.le_of_ble_eq_true rfl) (Nat.le_of_ble_eq_true rfl) ?_
  refine AJ.run kX8_seen [] 60 ?_
  refine AJ.callF kX8_seen (c8_isPlace L s j a p) bX8_isPlace rfl (by decide +kernel) [] rfl rfl rfl rfl rfl rfl rfl rfl ?_
  rintro r Y ⟨rfl, rfl⟩
  refine ⟨rfl, rfl, AJ.run kX8_seen [] 60 ⟨fun h => ?_, fun h => Or.inl ⟨(bI_eq0 _).mp h, rfl, rfl⟩⟩⟩
  have h := (bI_ne0 _).mp h
  refine AJ.callZ kX8_seen (c8_in L t 0 59) bX8_in rfl (by decide +kernel) [] rfl rfl rfl rfl rfl ?_
  rintro r rfl
  refine AJ.run kX8_seen [] 60 ⟨fun h2 => ⟨fun h3 => ?_, fun h3 => Or.inr (Or.inr (Or.inl ⟨h, (bI_ne0 _).mp h2, ?_, rfl, rfl⟩))⟩, fun h2 => Or.inr (Or.inl ⟨h, (bI_eq0 _).mp h2, rfl, rfl⟩)⟩
  · have h3 : ¬ s 11 = 8 := h3
    have hn8 : n < 8 := by
      rcases Nat.lt_or_ge n 8 with q | q
      · exact q
      · exact absurd (by rw [hs, show n = 8 by omega]; rfl) h3
    refine ⟨2 * n, by show 2 * s 11 = _; rw [hs]; simp only [fa_lit, pk_mul], by omega, 2 * n + 1, by show 2 * s 11 + 1 = _; rw [hs]; simp only [fa_lit, nI_add, pk_mul], by omega, Or.inr (Or.inr (Or.inr ⟨h, (bI_ne0 _).mp h2, hn8, ?_, ?_⟩))⟩
    · show some (Value.int (s 11 + 1)) = _
      rw [hs, nI_1]
    · rw [← nI_1, ← hs]; rfl
  · have h3 : s 11 = 8 := h3
    rw [hs] at h3
    exact (nI_eq (b := 8) (by omega) (by omega)).mp h3
theorem c8_keep (L : xLn) (s : xN) (j : Int64) (a : Nat → xN) (k : Int32) : CT L mX8_keep 1 0 0 [.ref 0, .int k] (modW s j a) (fun r Y => (inP k 0 1 = false ∧ r = some (.int (-2)) ∧ Y = modW s j a) ∨ (∃ p, p < 2 ∧ k = nI p ∧ r = some (.int (a 26 0)) ∧ Y = modW s j (va_up (va_up a 28 (cpL (a 26) 0 (a 28) (573 * p) 573)) 29 (upd (a 29) p 1)))) := by
  refine CT.of rfl (Nat.le_of_ble_eq_true rfl) (Nat.le_of_ble_eq_true rfl) ?_
  refine AJ.run kX8_keep [] 60 ?_
  refine AJ.callZ kX8_keep (c8_in L k 0 1) bX8_in rfl (by decide +kernel) [] rfl rfl rfl rfl rfl ?_
  rintro r rfl
  refine AJ.run kX8_keep [] 60 ⟨fun h => ?_, fun h => Or.inl ⟨(bI_eq0 _).mp h, rfl, rfl⟩⟩
  obtain ⟨p, hp, rfl⟩ := inP_nI (n := 1) (by omega) ((bI_ne0 _).mp h)
  have hC := c8_copy_573_1146 L (a 26) (a 28) 0 (573 * p) (by omega) (by omega)
  rw [show nI (573 * p) = 573 * nI p by simp only [fa_lit, pk_mul]] at hC
  refine AJ.callS kX8_keep hC bX8_copy rfl (by decide +kernel) [7, 9] [] rfl rfl rfl rfl rfl rfl rfl ?_
  rintro r Y ⟨rfl, rfl⟩
  refine ⟨rfl, ?_⟩
  show AJ L mX8_keep 1 0 0 _ _ (0, 0) 29 _ [] (modW s j (va_up a 28 (cpL (a 26) 0 (a 28) (573 * p) 573)))
  exact AJ.run kX8_keep [] 60 ⟨p, rfl, by omega, Or.inr rfl, 0, rfl, by omega, Or.inr ⟨p, by omega, rfl, rfl, rfl⟩⟩
theorem c8_back_aux (L : xLn) (s : xN) (j : Int64) (a : Nat → xN) (k : Int32) (C : Nat → xN) (hCC : ∀ p, C p = cpL (a 28) (573 * p) (a 26) 0 573) : CT L mX8_back 1 0 0 [.ref 0, .int k] (modW s j a) (fun r Y => (inP k 0 1 = false ∧ r = some (.int (-2)) ∧ Y = modW s j a) ∨ (∃ p, p < 2 ∧ k = nI p ∧ a 29 p = 0 ∧ r = some (.int (-4)) ∧ Y = modW s j a) ∨ (∃ p, p < 2 ∧ k = nI p ∧ ¬ a 29 p = 0 ∧ r = some (.int (a 28 (573 * p))) ∧ Y = modW s j (va_up a 26 (C p)))) := by
  refine CT.of rfl (Nat.le_of_ble_eq_true rfl) (Nat.le_of_ble_eq_true rfl) ?_
  refine AJ.run kX8_back [] 60 ?_
  refine AJ.callZ kX8_back (c8_in L k 0 1) bX8_in rfl (by decide +kernel) [] rfl rfl rfl rfl rfl ?_
  rintro r rfl
  refine AJ.run kX8_back [12] 60 ⟨fun h => ?_, fun h => Or.inl ⟨(bI_eq0 _).mp h, rfl, rfl⟩⟩
  obtain ⟨p, hp, rfl⟩ := inP_nI (n := 1) (by omega) ((bI_ne0 _).mp h)
  refine AJ.run kX8_back [] 60 ⟨p, rfl, by omega, fun h2 => ?_, fun h2 => Or.inr (Or.inl ⟨p, by omega, rfl, h2, rfl, rfl⟩)⟩
  have hC := c8_copy_1146_573 L (a 28) (a 26) (573 * p) 0 (by omega) (by omega)
  rw [show nI (573 * p) = 573 * nI p by simp only [fa_lit, pk_mul]] at hC
  have e0 : cpL (a 28) (573 * p) (a 26) 0 573 0 = a 28 (573 * p) := by
    rw [cpL_at, if_pos (by omega)]
    rfl
  rw [← hCC p] at hC e0
  refine AJ.callS kX8_back hC bX8_copy rfl (by decide +kernel) [9, 7] [] rfl rfl rfl rfl rfl rfl rfl ?_
  rintro r Y ⟨rfl, rfl⟩
  refine ⟨rfl, ?_⟩
  show AJ L mX8_back 1 0 0 _ _ (0, 0) 41 _ [] (modW s j (va_up a 26 (C p)))
  refine AJ.run kX8_back [] 60 ⟨0, rfl, by omega, Or.inr (Or.inr ⟨p, by omega, rfl, h2, ?_, rfl⟩)⟩
  show some (Value.int (C p 0)) = _
  rw [e0]
theorem c8_back (L : xLn) (s : xN) (j : Int64) (a : Nat → xN) (k : Int32) : CT L mX8_back 1 0 0 [.ref 0, .int k] (modW s j a) (fun r Y => (inP k 0 1 = false ∧ r = some (.int (-2)) ∧ Y = modW s j a) ∨ (∃ p, p < 2 ∧ k = nI p ∧ a 29 p = 0 ∧ r = some (.int (-4)) ∧ Y = modW s j a) ∨ (∃ p, p < 2 ∧ k = nI p ∧ ¬ a 29 p = 0 ∧ r = some (.int (a 28 (573 * p))) ∧ Y = modW s j (va_up a 26 (cpL (a 28) (573 * p) (a 26) 0 573)))) :=
  c8_back_aux L s j a k (fun p => cpL (a 28) (573 * p) (a 26) 0 573) (fun _ => rfl)
theorem goL_add (s : xN) (a : Nat → xN) (m : Nat) (N : xN) (n : Nat) : goL s a m N (n + 1) = if goL s a m N n 0 < 60 then minP s a m (goL s a m N n) else goL s a m N n := rfl
theorem c8_go (L : xLn) (s : xN) (j : Int64) (a : Nat → xN) (m : Nat) (hok : okT s a m) (hN : okN (a 26)) (k : Int32) : CT L mX8_go 3 0 0 [.ref 0, .int k] (modW s j a) (fun r Y => (inP k 1 60 = false ∧ r = some (.int (-3)) ∧ Y = modW s j a) ∨ (∃ n, 1 ≤ n ∧ n ≤ 60 ∧ k = nI n ∧ r = some (.int (goL (toldP s) a m (a 26) n 0)) ∧ Y = modN (toldP s) j a (goL (toldP s) a m (a 26) n))) := by
  obtain ⟨F, hF⟩ : ∃ F : Nat → xN, F = goL (toldP s) a m (a 26) := ⟨_, rfl⟩
  have hF0 : F 0 = a 26 := by rw [hF]; rfl
  have hF1 : ∀ n, F (n + 1) = if F n 0 < 60 then minP (toldP s) a m (F n) else F n := fun n => by rw [hF]; rfl
  have hFk : ∀ n, okN (F n) := fun n => by rw [hF]; exact goL_ok _ _ _ _ (by have := hok.2.1; omega) hN n
  have hFs : ∀ n k, ¬ F n 0 < 60 → F (n + k) = F n := fun n k h => by rw [hF] at h ⊢; exact goL_stop _ _ _ _ h k
  rw [← hF]
  clear hF
  refine CT.of rfl (Nat.le_of_ble_eq_true rfl) (Nat.le_of_ble_eq_true rfl) ?_
  refine AJ.run kX8_go [] 60 ?_
  refine AJ.callZ kX8_go (c8_in L k 1 60) bX8_in rfl (by decide +kernel) [] rfl rfl rfl rfl rfl ?_
  rintro r rfl
  refine AJ.run kX8_go [13] 60 ⟨fun h => ?_, fun h => Or.inl ⟨(bI_eq0 _).mp h, rfl, rfl⟩⟩
  have h := of_decide_eq_true ((bI_ne0 _).mp h)
  obtain ⟨n, hn, rfl⟩ : ∃ n, n ≤ 60 ∧ k = nI n := nI_of2 (M := 60) (n := 60) rfl (by have := h.1; have e1 : (1 : Int32).toInt = 1 := rfl; have e0 : (0 : Int32).toInt = 0 := rfl; simp only [i32_lt, i32_le] at this ⊢; omega) h.2
  have hn1 : 1 ≤ n := (nI_leI (a := 1) (by omega) (by omega)).mp h.1
  refine AJ.run kX8_go [] 60 ?_
  refine AJ.callF kX8_go (c8_asTold L s j a) bX8_asTold rfl (by decide +kernel) [] rfl rfl rfl rfl rfl rfl rfl rfl ?_
  rintro r Y ⟨rfl, rfl⟩
  refine ⟨rfl, rfl, ?_⟩
  have loop : ∀ (f i : Nat), i + f = n → AJ L mX8_go 3 0 0 (fun r Y => (inP (nI n) 1 60 = false ∧ r = some (.int (-3)) ∧ Y = modW s j a) ∨ (∃ q, 1 ≤ q ∧ q ≤ 60 ∧ nI n = nI q ∧ r = some (.int (F q 0)) ∧ Y = modN (toldP s) j a (F q))) (modW s j a).length (0, 0) 19 [some (.ref 0), some (.int (nI n)), some (.int (nI i))] [] (modN (toldP s) j a (F i)) := by
    intro f
    induction f with
    | zero =>
      intro i hi
      obtain rfl : i = n := by omega
      refine AJ.run kX8_go [19] 60 ⟨fun _ => ⟨0, rfl, by omega, Or.inr ⟨i, hn1, hn, rfl, rfl, rfl⟩⟩, fun hz => absurd (nI_le (Nat.le_refl _) (by omega)) hz⟩
    | succ f ih =>
      intro i hi
      refine AJ.run kX8_go [19] 60 ⟨fun hz => absurd hz (nI_ge (by omega) (by omega)), fun _ => ⟨0, rfl, by omega, fun h2 => ⟨0, rfl, by omega, Or.inr ⟨n, hn1, hn, rfl, ?_, ?_⟩⟩, fun h2 => ?_⟩⟩
      · have h2 : (60 : Int32) ≤ F i 0 := h2
        have h3 : ¬ F i 0 < 60 := by simp only [i32_lt, i32_le] at h2 ⊢; omega
        rw [show n = i + (f + 1) by omega, hFs i (f + 1) h3]; (try rfl)
      · have h2 : (60 : Int32) ≤ F i 0 := h2
        have h3 : ¬ F i 0 < 60 := by simp only [i32_lt, i32_le] at h2 ⊢; omega
        rw [show n = i + (f + 1) by omega, hFs i (f + 1) h3]; (try rfl)
      · have h2 : ¬ (60 : Int32) ≤ F i 0 := h2
        have h3 : F i 0 < 60 := by simp only [i32_lt, i32_le] at h2 ⊢; omega
        obtain ⟨ab, g, h', e1, e2, e3, e4⟩ := hFk i
        have hg : g < 60 := by
          rw [e1, i32_lt, nI_toInt (by omega)] at h3
          have : (60 : Int32).toInt = 60 := rfl
          omega
        have n2 := ih (i + 1) (by omega)
        rw [hF1 i, if_pos h3, nI_succ] at n2
        refine AJ.callF kX8_go (c8_goMinute L (toldP s) j a (F i) m h' hok.d ab e3 (by omega)) bX8_goMinute rfl (by decide +kernel) [] rfl rfl rfl rfl rfl rfl rfl rfl ?_
        rintro r Y ⟨rfl, rfl⟩
        exact ⟨rfl, rfl, AJ.run kX8_go [19] 60 n2⟩
  have := loop n 0 (by omega)
  rw [hF0] at this
  exact AJ.run kX8_go [19] 60 this
def wrB (w : Int64) (i : Nat) : Int32 := (w >>> ((8 * nI i).toInt64 &&& 63) &&& 255).toInt32
def wrL (w : Int64) (b : Nat) (f : xN) : Nat → xN
  | 0 => f
  | i + 1 => upd (wrL w b f i) (b + i) (wrB w i)
theorem c8_write (L : xLn) (s : xN) (j : Int64) (a : Nat → xN) (b : Nat) (hs : s 13 = nI b) (hb : b ≤ 200) (w : Int64) (k : Int32) : CT L mX8_write 1 0 0 [.ref 0, .long w, .int k] (modW s j a) (fun r Y => (inP k 1 8 = false ∧ r = some (.int (-3)) ∧ Y = modW s j a) ∨ (∃ n, 1 ≤ n ∧ n ≤ 8 ∧ k = nI n ∧ 200 < b + n ∧ r = some (.int (-5)) ∧ Y = modW s j a) ∨ (∃ n, 1 ≤ n ∧ n ≤ 8 ∧ k = nI n ∧ b + n ≤ 200 ∧ r = some (.int (nI (b + n))) ∧ Y = modW (upd s 13 (nI (b + n))) j (va_up a 14 (wrL w b (a 14) n)))) := by
  refine CT.of rfl (Nat.le_of_ble_eq_true rfl) (Nat.le_of_ble_eq_true rfl) ?_
  refine AJ.run kX8_write [] 60 ?_
  refine AJ.callZ kX8_write (c8_in L k 1 8) bX8_in rfl (by decide +kernel) [] rfl rfl rfl rfl rfl ?_
  rintro r rfl
  refine AJ.run kX8_write [13] 60 ⟨fun h => ?_, fun h => Or.inl ⟨(bI_eq0 _).mp h, rfl, rfl⟩⟩
  have h := of_decide_eq_true ((bI_ne0 _).mp h)
  obtain ⟨n, hn, rfl⟩ : ∃ n, n ≤ 8 ∧ k = nI n := nI_of2 (M := 8) (n := 8) rfl (by have := h.1; have e1 : (1 : Int32).toInt = 1 := rfl; have e0 : (0 : Int32).toInt = 0 := rfl; simp only [i32_lt, i32_le] at this ⊢; omega) h.2
  have hn1 : 1 ≤ n := (nI_leI (a := 1) (by omega) (by omega)).mp h.1
  have e2 : s 13 + nI n = nI (b + n) := by rw [hs, nI_add]
  have loop : ∀ (f i : Nat), i + f = n → b + n ≤ 200 → AJ L mX8_write 1 0 0 (fun r Y => (inP (nI n) 1 8 = false ∧ r = some (.int (-3)) ∧ Y = modW s j a) ∨ (∃ q, 1 ≤ q ∧ q ≤ 8 ∧ nI n = nI q ∧ 200 < b + q ∧ r = some (.int (-5)) ∧ Y = modW s j a) ∨ (∃ q, 1 ≤ q ∧ q ≤ 8 ∧ nI n = nI q ∧ b + q ≤ 200 ∧ r = some (.int (nI (b + q))) ∧ Y = modW (upd s 13 (nI (b + q))) j (va_up a 14 (wrL w b (a 14) q)))) (modW s j a).length (0, 0) 31 [some (.ref 0), some (.long w), none, some (.int (nI n)), some (.int (nI i))] [] (modW s j (va_up a 14 (wrL w b (a 14) i))) := by
    intro f
    induction f with
    | zero =>
      intro i hi hbn
      obtain rfl : i = n := by omega
      refine AJ.run kX8_write [31] 60 ⟨fun _ => Or.inr (Or.inr ⟨i, hn1, hn, rfl, hbn, ?_, ?_⟩), fun hz => absurd (nI_le (Nat.le_refl _) (by omega)) hz⟩
      · show some (Value.int (s 13 + nI i)) = _
        rw [e2]
      · rw [← e2]; rfl
    | succ f ih =>
      intro i hi hbn
      have n2 := ih (i + 1) (by omega) hbn
      rw [nI_succ] at n2
      refine AJ.run kX8_write [31] 60 ⟨fun hz => absurd hz (nI_ge (by omega) (by omega)), fun _ => ⟨b + i, ?_, by omega, n2⟩⟩
      show s 13 + nI i = nI (b + i)
      rw [hs, nI_add]
  refine AJ.run kX8_write [28] 60 ⟨fun h3 => ?_, fun h3 => Or.inr (Or.inl ⟨n, hn1, hn, rfl, ?_, rfl, rfl⟩)⟩
  · have h3 : s 13 + nI n ≤ nI 200 := h3
    rw [e2, nI_leI (by omega) (by omega)] at h3
    exact AJ.run kX8_write [31] 60 (loop n 0 (by omega) h3)
  · have h3 : ¬ s 13 + nI n ≤ nI 200 := h3
    rw [e2, nI_leI (by omega) (by omega)] at h3
    omega

