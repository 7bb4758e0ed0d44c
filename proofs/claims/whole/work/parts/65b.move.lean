theorem l_m1 {l : Nat} (h : 1 ≤ l) : nI l - 1 = nI (l - 1) := by
  have := pk_sub (a := l) (b := 1) h
  rw [← this]; rfl
theorem goOn_owe {s N : xN} {k : Nat} (hk : k < 2) (hf : ∀ q, q < 8 → N (17 + q) = nI k → hasP (s 7) (nI q) = true) {q : Nat} (hq : q < 8) : (N (17 + q) = nI k → goOnP (s 0) (s 7) (s 4) N k (33 + q) = N (33 + q) + s 4) ∧ (¬ N (17 + q) = nI k → goOnP (s 0) (s 7) (s 4) N k (33 + q) = N (33 + q)) := by
  unfold goOnP
  rw [oweL_at _ _ _ _ hq 8 (by omega), if_pos hq, onA_out _ _ (by omega), onA_out _ _ (by omega)]
  constructor
  · intro e
    rw [if_pos ⟨hf q hq e, e⟩]
  · intro e
    rw [if_neg (by rintro ⟨-, z⟩; exact e z)]
    simp
theorem cD_moveOn (L : xLn) (d : xN) (da : Nat → xN) (t : xN) (ta : Nat → xN) (l m sp k v : Nat) (s : xN) (a : Nat → xN) (N : xN) (hk : k < 2) (hW : WD l m sp s a) (hT : RT m t ta s a) (hv : v < l) (h1 : N (1 + k) = nI v) (h3 : N (3 + k) = 0 ∨ N (3 + k) = 1) (hA : RA d da N) (hP : RP da N) (hf : ∀ q, q < 8 → N (17 + q) = nI k → hasP (s 7) (nI q) = true) : CT L mX0_moveOn 0 0 0 [.ref 0, .int (nI k)] (dtW d da t ta) (dtQ t ta (fun d' da' => smA d d' da da' ∧ RA d' da' (goOnP (s 0) (s 7) (s 4) N k) ∧ RP da' (goOnP (s 0) (s 7) (s 4) N k))) := by
  refine dt_gen fun Q fin => ?_
  refine CT.of rfl (Nat.le_of_ble_eq_true rfl) (Nat.le_of_ble_eq_true rfl) ?_
  obtain ⟨l2, l12, hs0⟩ := hW.1
  have t0 : t 0 = nI l := hT.1.1.trans hs0
  have t4 : t 4 = s 4 := hT.1.2.2.2.2.1
  have a4 : da 4 k = nI v := (hA.2 k hk).1.trans h1
  have bit : ∀ q, q < 8 → (hasP (da 6 k) (nI q) = true ↔ N (17 + q) = nI k) := by
    intro q hq
    rw [hP.1 k hk q (by omega)]
    simp [hq]
  -- what holds at the end
  have mk : ∀ (w : Int32) (d' : xN) (da' : Nat → xN), ((v = 0 ∧ w = 0) ∨ (0 < v ∧ v + 1 = l ∧ w = 1) ∨ (0 < v ∧ v + 1 < l ∧ w = N (3 + k))) → smA d d' da da' → d' 7 = d 7 &&& (1 <<< (nI k &&& 31) ^^^ -1) → (∀ i, i < 2 → da' 5 i = upd (da 5) k w i) → da' 4 = upd (da 4) k (nI v + (if w = 0 then 1 else -1)) → (∀ q, q < 8 → (N (17 + q) = nI k → da' 9 q = N (33 + q) + t 4) ∧ (¬ N (17 + q) = nI k → da' 9 q = N (33 + q))) → Q none (dtW d' da' t ta) := by
    intro w d' da' hw hs h7 h5 h4 h9
    refine fin _ _ ⟨hs, ?_, ?_, fun q hq => ?_⟩
    · have := RA_move (pl := l) hk l2 l12 hv rfl h1 h3 hA (hs.2 3 (by omega)) h7 hw h5 h4
      rw [← hs0] at this
      exact this.same (fun i hi => oweL_out _ _ _ _ 8 (by omega) (Or.inl (by omega)))
    · intro j hj q hq
      rw [hs.1 6 (by omega) (by omega) (by omega), hP.1 j hj q hq]
      by_cases h8 : q < 8
      · rw [goOnP_out _ _ _ _ hk (Or.inl (by omega))]
      · simp [h8]
    · refine ⟨?_, ?_⟩
      · rw [hs.1 8 (by omega) (by omega) (by omega), (hP.2 q hq).1, goOnP_out _ _ _ _ hk (Or.inl (by omega))]
      · by_cases e : N (17 + q) = nI k
        · rw [(goOn_owe hk hf hq).1 e, (h9 q hq).1 e, t4]
        · rw [(goOn_owe hk hf hq).2 e, (h9 q hq).2 e]
  -- from the way on
  have go44 : ∀ (w : Int32) (da1 : Nat → xN), ((v = 0 ∧ w = 0) ∨ (0 < v ∧ v + 1 = l ∧ w = 1) ∨ (0 < v ∧ v + 1 < l ∧ w = N (3 + k))) → (∀ i, i ≠ 5 → da1 i = da i) → da1 5 k = w → (∀ i, i < 2 → da1 5 i = upd (da 5) k w i) → AJ L mX0_moveOn 0 0 0 Q (dtW d da t ta).length (0, 0) 44 [some (.ref 0), some (.int (nI k)), none] [] (dtW d da1 t ta) := by
    intro w da1 hw hs hk5 h5
    refine cD_mv_step L Q d da1 t ta k _ hk (fun x hx => ?_)
    have ex : da1 4 k + x = nI v + (if w = 0 then 1 else -1) := by
      rw [hs 4 (by omega), a4]
      rw [hk5] at hx
      rcases hx with ⟨x1, rfl⟩ | ⟨x1, rfl⟩
      · rw [if_pos x1]
      · rw [if_neg x1]
    rw [ex, hs 4 (by omega)]
    have h6 : da1 6 k = da 6 k := by rw [hs 6 (by omega)]
    have h9 : ∀ q, q < 8 → da1 9 q = N (33 + q) := fun q hq => by rw [hs 9 (by omega)]; exact (hP.2 q hq).2
    have sm : ∀ f9, smA d (upd d 7 (d 7 &&& (1 <<< (nI k &&& 31) ^^^ -1))) da (va_up (va_up da1 4 (upd (da 4) k (nI v + (if w = 0 then 1 else -1)))) 9 f9) := fun f9 => ⟨fun i x1 x2 x3 => by rw [va_up_ne _ _ x3, va_up_ne _ _ x1, hs i x2], fun i hi => pk_un hi⟩
    have e9 : va_up (va_up da1 4 (upd (da 4) k (nI v + (if w = 0 then 1 else -1)))) 9 (da1 9) = va_up da1 4 (upd (da 4) k (nI v + (if w = 0 then 1 else -1))) := by
      funext j
      by_cases e : j = 9
      · subst e; rfl
      · rw [va_up_ne _ _ e]
    refine ⟨fun hz => ?_, ?_⟩
    · rw [← e9]
      refine mk w _ _ hw (sm _) rfl h5 rfl (fun q hq => ⟨fun z => ?_, fun _ => h9 q hq⟩)
      rw [← bit q hq, ← h6, hz, zero_bit (by omega)] at z
      cases z
    · rw [← e9]
      refine cD_mv_loop L Q _ _ t ta k _ hk (fun q => N (33 + q)) (fun q => N (17 + q) = nI k) (fun q hq => ?_) (fun f9 hf9 => ?_) 8 0 (da1 9) (by omega) (fun i hi => ⟨fun z => by omega, fun _ => h9 i hi⟩)
      · rw [va_up_ne _ _ (by omega), h6]; exact bit q hq
      · have e : va_up (va_up da1 4 (upd (da 4) k (nI v + (if w = 0 then 1 else -1)))) 9 f9 = va_up (va_up da1 4 (upd (da 4) k (nI v + (if w = 0 then 1 else -1)))) 9 f9 := rfl
        exact mk w _ _ hw (sm f9) rfl h5 rfl hf9
  have hz0 : (0 < nI v) ↔ 0 < v := nI_ltI (a := 0) (b := v) (by omega) (by omega)
  refine AJ.run kX0_moveOn [44] 60 ⟨k, rfl, by omega, fun h => ⟨k, rfl, by omega, fun h5 => ?_, fun h5 => ⟨k, rfl, by omega, ?_⟩⟩, fun h => ⟨k, rfl, by omega, ?_⟩⟩
  · have h : 0 < da 4 k := h
    have h5 : da 4 k < t 0 - 1 := h5
    rw [a4] at h h5
    rw [t0, l_m1 (by omega), nI_ltI (by omega) (by omega)] at h5
    exact go44 (N (3 + k)) da (Or.inr (Or.inr ⟨hz0.mp h, by omega, rfl⟩)) (fun _ _ => rfl) (hA.2 k hk).2.1 (fun i hi => by
      by_cases e : i = k
      · subst e; rw [pk_us, (hA.2 i hk).2.1]
      · rw [pk_un e])
  · have h : 0 < da 4 k := h
    have h5 : ¬ da 4 k < t 0 - 1 := h5
    rw [a4] at h h5
    rw [t0, l_m1 (by omega), nI_ltI (by omega) (by omega)] at h5
    exact go44 1 (va_up da 5 (upd (da 5) k 1)) (Or.inr (Or.inl ⟨hz0.mp h, by omega, rfl⟩)) (fun i hi => va_up_ne _ _ hi) pk_us (fun i hi => rfl)
  · have h : ¬ 0 < da 4 k := h
    rw [a4, hz0] at h
    exact go44 0 (va_up da 5 (upd (da 5) k 0)) (Or.inl ⟨by omega, rfl⟩) (fun i hi => va_up_ne _ _ hi) pk_us (fun i hi => rfl)
