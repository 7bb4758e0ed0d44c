/-! ===== the class: what is told changes ===== -/
def t2W (t : xN) (ta : Nat → xN) (u : xN) (ua : Nat → xN) : List xE := tolW 0 t ta ++ tolW 10 u ua
theorem cT_cp_a (L : xLn) (Q : Option Value → List xE → Prop) (n0 : Nat) (t : xN) (ta : Nat → xN) (u : xN) (ua : Nat → xN) (h : AJ L mX6_copyFrom 1 0 0 Q n0 (0, 0) 48 [some (.ref 0), some (.ref 10)] [] (t2W (upd (upd (upd (upd (upd (upd t 0 (u 0)) 1 (u 1)) 2 (u 2)) 3 (u 3)) 4 (u 4)) 5 (u 5)) ta u ua)) : AJ L mX6_copyFrom 1 0 0 Q n0 (0, 0) 0 [some (.ref 0), some (.ref 10)] [] (t2W t ta u ua) := AJ.run kX6_copyFrom [48] 60 h
theorem cT_cp_b (L : xLn) (Q : Option Value → List xE → Prop) (n0 : Nat) (t : xN) (ta : Nat → xN) (u : xN) (ua : Nat → xN) (h : AJ L mX6_copyFrom 1 0 0 Q n0 (0, 0) 90 [some (.ref 0), some (.ref 10)] [] (t2W t (va_up (va_up (va_up ta 6 (ua 6)) 7 (ua 7)) 8 (ua 8)) u ua)) : AJ L mX6_copyFrom 1 0 0 Q n0 (0, 0) 48 [some (.ref 0), some (.ref 10)] [] (t2W t ta u ua) := AJ.run kX6_copyFrom [90] 60 h
theorem cT_cp_c (L : xLn) (Q : Option Value → List xE → Prop) (n0 : Nat) (t : xN) (ta : Nat → xN) (u : xN) (ua : Nat → xN) (h : AJ L mX6_copyFrom 1 0 0 Q n0 (0, 0) 128 [some (.ref 0), some (.ref 10)] [] (t2W (upd t 9 (u 9)) (va_up (va_up ta 10 (ua 10)) 11 (ua 11)) u ua)) : AJ L mX6_copyFrom 1 0 0 Q n0 (0, 0) 90 [some (.ref 0), some (.ref 10)] [] (t2W t ta u ua) := AJ.run kX6_copyFrom [128] 60 h
theorem cT_cp_d (L : xLn) (Q : Option Value → List xE → Prop) (n0 : Nat) (t : xN) (ta : Nat → xN) (u : xN) (ua : Nat → xN) (h : AJ L mX6_copyFrom 1 0 0 Q n0 (0, 0) 166 [some (.ref 0), some (.ref 10)] [] (t2W (upd t 12 (u 12)) (va_up (va_up ta 13 (ua 13)) 14 (ua 14)) u ua)) : AJ L mX6_copyFrom 1 0 0 Q n0 (0, 0) 128 [some (.ref 0), some (.ref 10)] [] (t2W t ta u ua) := AJ.run kX6_copyFrom [166] 60 h
theorem cT_cp_e (L : xLn) (Q : Option Value → List xE → Prop) (n0 : Nat) (t : xN) (ta : Nat → xN) (u : xN) (ua : Nat → xN) (h : Q none (t2W t (va_up (va_up ta 15 (ua 15)) 16 (ua 16)) u ua)) : AJ L mX6_copyFrom 1 0 0 Q n0 (0, 0) 166 [some (.ref 0), some (.ref 10)] [] (t2W t ta u ua) := AJ.run kX6_copyFrom [] 60 h
theorem cT_copyFrom (L : xLn) (t : xN) (ta : Nat → xN) (u : xN) (ua : Nat → xN) : CT L mX6_copyFrom 1 0 0 [.ref 0, .ref 10] (t2W t ta u ua) (eqQ none (t2W u ua u ua)) := by
  refine CT.of rfl (Nat.le_of_ble_eq_true rfl) (Nat.le_of_ble_eq_true rfl) ?_
  obtain ⟨Q, hQ⟩ : ∃ Q, Q = eqQ none (t2W u ua u ua) := ⟨_, rfl⟩
  have fin : Q none (t2W u ua u ua) := by rw [hQ]; exact ⟨rfl, rfl⟩
  rw [← hQ]
  clear hQ
  refine cT_cp_a L Q _ t ta u ua (cT_cp_b L Q _ _ _ u ua (cT_cp_c L Q _ _ _ u ua (cT_cp_d L Q _ _ _ u ua (cT_cp_e L Q _ _ _ u ua ?_))))
  exact fin
def clQ (t : xN) (ta : Nat → xN) : Option Value → List xE → Prop := fun r Y => r = none ∧ ∃ g : xN, (∀ i, i < 60 → g i = 0) ∧ Y = tolW 0 t (va_up ta 16 g)
theorem cT_clearMoods (L : xLn) (t : xN) (ta : Nat → xN) : CT L mX6_clearMoods 1 0 0 [.ref 0] (tolW 0 t ta) (clQ (upd t 12 0) ta) := by
  refine CT.of rfl (Nat.le_of_ble_eq_true rfl) (Nat.le_of_ble_eq_true rfl) ?_
  refine AJ.run kX6_clearMoods [] 30 ?_
  refine AJ.callT kX6_clearMoods (cJ_fill60 L (ta 16) 0) bJ7_fill_53178 rfl (by decide +kernel) [9] [] rfl rfl rfl rfl rfl rfl rfl ?_
  rintro r Y ⟨rfl, g, hg, rfl⟩
  exact ⟨tolW 0 (upd t 12 0) (va_up ta 16 g), rfl, rfl, AJ.run kX6_clearMoods [] 30 ⟨rfl, g, hg, rfl⟩⟩
theorem cT_layRail (L : xLn) (t : xN) (ta : Nat → xN) (v : Int32) : CT L mX6_layRail 2 0 0 [.ref 0, .int v] (tolW 0 t ta) (clQ (upd (upd (upd (upd t 0 v) 5 0) 9 0) 12 0) ta) := by
  refine CT.of rfl (Nat.le_of_ble_eq_true rfl) (Nat.le_of_ble_eq_true rfl) ?_
  refine AJ.run kX6_layRail [] 30 ?_
  refine AJ.callF kX6_layRail (cT_clearMoods L (upd (upd (upd t 0 v) 5 0) 9 0) ta) bX6_clearMoods rfl (by decide +kernel) [] rfl rfl rfl rfl rfl rfl rfl rfl ?_
  rintro r Y ⟨rfl, g, hg, rfl⟩
  exact ⟨rfl, rfl, AJ.run kX6_layRail [] 30 ⟨rfl, g, hg, rfl⟩⟩
theorem cT_putTram (L : xLn) (t : xN) (ta : Nat → xN) (k : Nat) (hk : k < 2) (p q w : Int32) : CT L mX6_putTram 0 0 0 [.ref 0, .int (nI k), .int p, .int q, .int w] (tolW 0 t ta) (eqQ none (tolW 0 (upd t 5 (t 5 ||| 1 <<< (nI k &&& 31))) (va_up (va_up (va_up ta 6 (upd (ta 6) k p)) 7 (upd (ta 7) k q)) 8 (upd (ta 8) k w)))) := by
  refine CT.of rfl (Nat.le_of_ble_eq_true rfl) (Nat.le_of_ble_eq_true rfl) ?_
  exact AJ.run kX6_putTram [] 60 ⟨fun h => absurd h (nI_pos (by omega)), fun _ => ⟨fun h => absurd h (nI_ge (b := 2) (by omega) (by omega)), fun _ => ⟨k, rfl, by omega, k, rfl, by omega, k, rfl, by omega, rfl, rfl⟩⟩⟩
theorem cT_putPerson (L : xLn) (t : xN) (ta : Nat → xN) (k : Nat) (hk : k < 8) (p q : Int32) : CT L mX6_putPerson 0 0 0 [.ref 0, .int (nI k), .int p, .int q] (tolW 0 t ta) (eqQ none (tolW 0 (upd t 9 (t 9 ||| 1 <<< (nI k &&& 31))) (va_up (va_up ta 10 (upd (ta 10) k p)) 11 (upd (ta 11) k q)))) := by
  refine CT.of rfl (Nat.le_of_ble_eq_true rfl) (Nat.le_of_ble_eq_true rfl) ?_
  exact AJ.run kX6_putPerson [] 60 ⟨fun h => absurd h (nI_pos (by omega)), fun _ => ⟨fun h => absurd h (nI_ge (b := 8) (by omega) (by omega)), fun _ => ⟨k, rfl, by omega, k, rfl, by omega, rfl, rfl⟩⟩⟩
def tAdd (ta : Nat → xN) (m : Nat) (w kd : Int32) (g : Nat) : Nat → xN := va_up (va_up (va_up (va_up ta 13 (upd (ta 13) m w)) 14 (upd (ta 14) m kd)) 15 (upd (ta 15) m (nI g))) 16 (upd (ta 16) g (ta 16 g ||| 1 <<< (nI m &&& 31)))
theorem cT_addMood (L : xLn) (t : xN) (ta : Nat → xN) (m g : Nat) (hm : m < 26) (hg : g < 60) (w kd : Int32) : CT L mX6_addMood 0 0 0 [.ref 0, .int w, .int kd, .int (nI g)] (tolW 0 (upd t 12 (nI m)) ta) (eqQ none (tolW 0 (upd t 12 (nI m + 1)) (tAdd ta m w kd g))) := by
  refine CT.of rfl (Nat.le_of_ble_eq_true rfl) (Nat.le_of_ble_eq_true rfl) ?_
  exact AJ.run kX6_addMood [] 90 ⟨fun h => absurd h (nI_ge (b := 26) (by omega) (by omega)), fun _ => ⟨fun h => absurd h (nI_pos (by omega)), fun _ => ⟨fun h => absurd h (nI_ge (b := 60) (by omega) (by omega)), fun _ => ⟨m, rfl, by omega, m, rfl, by omega, m, rfl, by omega, g, rfl, by omega, g, rfl, by omega, rfl, rfl⟩⟩⟩⟩
def tDrop (ta : Nat → xN) (m g : Nat) : Nat → xN := va_up ta 16 (upd (ta 16) g (ta 16 g &&& (1 <<< (nI m &&& 31) ^^^ -1)))
theorem cT_dropLastMood (L : xLn) (t : xN) (ta : Nat → xN) (m g : Nat) (hm : m < 26) (hg : g < 60) (h15 : ta 15 m = nI g) : CT L mX6_dropLastMood 0 0 0 [.ref 0] (tolW 0 (upd t 12 (nI (m + 1))) ta) (eqQ none (tolW 0 (upd t 12 (nI m)) (tDrop ta m g))) := by
  refine CT.of rfl (Nat.le_of_ble_eq_true rfl) (Nat.le_of_ble_eq_true rfl) ?_
  have e : nI (m + 1) - 1 = nI m := by
    have := pk_sub (a := m + 1) (b := 1) (by omega)
    rw [show m + 1 - 1 = m by omega] at this
    exact this
  obtain ⟨Q, hQ⟩ : ∃ Q, Q = eqQ none (tolW 0 (upd t 12 (nI m)) (tDrop ta m g)) := ⟨_, rfl⟩
  have fin : Q none (tolW 0 (upd t 12 (nI m)) (tDrop ta m g)) := by rw [hQ]; exact ⟨rfl, rfl⟩
  rw [← hQ]
  clear hQ
  have key : ∀ v : Int32, v = nI m → AJ L mX6_dropLastMood 0 0 0 Q (tolW 0 (upd t 12 (nI (m + 1))) ta).length (0, 0) 17 [some (.ref 0)] [] (tolW 0 (upd t 12 v) ta) := by
    rintro v rfl
    exact AJ.run kX6_dropLastMood [] 60 ⟨m, rfl, by omega, g, h15, by omega, g, h15, by omega, fin⟩
  have k2 := key (nI (m + 1) - 1) e
  exact AJ.run kX6_dropLastMood [17] 60 ⟨fun h => absurd h (nI_ge (a := 0) (b := m + 1) (by omega) (by omega)), fun _ => k2⟩
/-! ===== what is told, in both ===== -/
theorem RT_s {m : Nat} {t : xN} {ta : Nat → xN} {s s' : xN} {a a' : Nat → xN} (h : RT m t ta s a) (hs : ∀ i, i < 8 → s' i = s i) (h6 : a' 6 = a 6) (h8 : a' 8 = a 8) (h10 : ∀ i, i < 3 * m → a' 10 i = a 10 i) : RT m t ta s' a' := by
  obtain ⟨⟨e0, e1, e2, e3, e4, e5, e7, e12⟩, h1, h2, h3, h4⟩ := h
  refine ⟨⟨?_, ?_, ?_, ?_, ?_, ?_, ?_, e12⟩, ?_, ?_, fun k hk => ?_, fun g hg k hk => ?_⟩
  · rw [hs 0 (by omega)]; exact e0
  · rw [hs 1 (by omega)]; exact e1
  · rw [hs 2 (by omega)]; exact e2
  · rw [hs 3 (by omega)]; exact e3
  · rw [hs 4 (by omega)]; exact e4
  · rw [hs 5 (by omega)]; exact e5
  · rw [hs 7 (by omega)]; exact e7
  · rw [h6]; exact h1
  · rw [h8]; exact h2
  · rw [h10 _ (by omega), h10 _ (by omega), h10 _ (by omega)]; exact h3 k hk
  · rw [h4 g hg k hk]
    by_cases hkm : k < m
    · rw [h10 _ (by omega)]
    · simp [hkm]
theorem RT_add {m g : Nat} {t : xN} {ta : Nat → xN} {s : xN} {a : Nat → xN} {w kd : Int32} (hm : m < 26) (hg : g < 60) (h : RT m t ta s a) : RT (m + 1) (upd t 12 (nI m + 1)) (tAdd ta m w kd g) s (addP a m w kd (nI g)) := by
  obtain ⟨⟨e0, e1, e2, e3, e4, e5, e7, e12⟩, h1, h2, h3, h4⟩ := h
  refine ⟨⟨e0, e1, e2, e3, e4, e5, e7, nI_1 m⟩, h1, h2, fun k hk => ?_, fun g' hg' k hk => ?_⟩
  · show upd (ta 13) m w k = upd (upd (upd (a 10) (3 * m) w) (3 * m + 1) kd) (3 * m + 2) (nI g) (3 * k) ∧ upd (ta 14) m kd k = upd (upd (upd (a 10) (3 * m) w) (3 * m + 1) kd) (3 * m + 2) (nI g) (3 * k + 1) ∧ upd (ta 15) m (nI g) k = upd (upd (upd (a 10) (3 * m) w) (3 * m + 1) kd) (3 * m + 2) (nI g) (3 * k + 2)
    by_cases e : k = m
    · subst e
      refine ⟨?_, ?_, ?_⟩
      · rw [pk_us, pk_un (by omega), pk_un (by omega), pk_us]
      · rw [pk_us, pk_un (by omega), pk_us]
      · rw [pk_us, pk_us]
    · rw [pk_un e, pk_un e, pk_un e, pk_un (by omega), pk_un (by omega), pk_un (by omega), pk_un (by omega), pk_un (by omega), pk_un (by omega), pk_un (by omega), pk_un (by omega), pk_un (by omega)]
      exact h3 k (by omega)
  · show hasP (upd (ta 16) g (ta 16 g ||| 1 <<< (nI m &&& 31)) g') (nI k) = decide (k < m + 1 ∧ upd (upd (upd (a 10) (3 * m) w) (3 * m + 1) kd) (3 * m + 2) (nI g) (3 * k + 2) = nI g')
    by_cases e : k = m
    · subst e
      rw [pk_us]
      by_cases eg : g' = g
      · subst eg
        rw [pk_us, set_bit _ (by omega) (by omega)]
        simp
      · rw [pk_un eg, h4 g' hg' k hk]
        have : ¬ nI g = nI g' := by rw [nI_eq (by omega) (by omega)]; omega
        simp [this]
    · have e3 : upd (upd (upd (a 10) (3 * m) w) (3 * m + 1) kd) (3 * m + 2) (nI g) (3 * k + 2) = a 10 (3 * k + 2) := by
        rw [pk_un (by omega), pk_un (by omega), pk_un (by omega)]
      have e2 : (k < m + 1) ↔ k < m := by omega
      rw [e3]
      simp only [e2]
      by_cases eg : g' = g
      · subst eg
        rw [pk_us, set_bit _ (by omega) (by omega), h4 g' hg' k hk]
        simp [e]
      · rw [pk_un eg, h4 g' hg' k hk]
theorem RT_drop {m g : Nat} {t : xN} {ta : Nat → xN} {s : xN} {a a' : Nat → xN} (hm : m < 26) (hg : g < 60) (h : RT (m + 1) t ta s a) (hag : a 10 (3 * m + 2) = nI g) (h6 : a' 6 = a 6) (h8 : a' 8 = a 8) (h10 : ∀ i, i < 3 * m → a' 10 i = a 10 i) : RT m (upd t 12 (nI m)) (tDrop ta m g) s a' := by
  obtain ⟨⟨e0, e1, e2, e3, e4, e5, e7, e12⟩, h1, h2, h3, h4⟩ := h
  refine ⟨⟨e0, e1, e2, e3, e4, e5, e7, rfl⟩, by rw [h6]; exact h1, by rw [h8]; exact h2, fun k hk => ?_, fun g' hg' k hk => ?_⟩
  · rw [h10 _ (by omega), h10 _ (by omega), h10 _ (by omega)]
    exact h3 k (by omega)
  · show hasP (upd (ta 16) g (ta 16 g &&& (1 <<< (nI m &&& 31) ^^^ -1)) g') (nI k) = decide (k < m ∧ a' 10 (3 * k + 2) = nI g')
    by_cases e : k = m
    · subst e
      rw [show decide (k < k ∧ a' 10 (3 * k + 2) = nI g') = false by simp]
      by_cases eg : g' = g
      · subst eg
        rw [pk_us, clr_bit _ (by omega) (by omega)]
        simp
      · rw [pk_un eg, h4 g' hg' k hk, hag]
        have : ¬ nI g = nI g' := by rw [nI_eq (by omega) (by omega)]; omega
        simp [this]
    · have e2 : decide (k < m ∧ a' 10 (3 * k + 2) = nI g') = decide (k < m + 1 ∧ a 10 (3 * k + 2) = nI g') := by
        by_cases hk2 : k < m
        · rw [h10 _ (by omega)]
          have : k < m + 1 := by omega
          simp [hk2, this]
        · have : ¬ k < m + 1 := by omega
          simp [hk2, this]
      rw [e2, ← h4 g' hg' k hk]
      by_cases eg : g' = g
      · subst eg
        rw [pk_us, clr_bit _ (by omega) (by omega)]
        simp [e]
      · rw [pk_un eg]
theorem RT_clear {t : xN} {ta : Nat → xN} {s : xN} {a : Nat → xN} {z : xN} (hz : ∀ i, i < 60 → z i = 0) (he : t 0 = s 0 ∧ t 1 = s 1 ∧ t 2 = s 2 ∧ t 3 = s 3 ∧ t 4 = s 4 ∧ t 5 = s 5 ∧ t 9 = s 7 ∧ t 12 = 0) (h1 : ∀ k, k < 2 → ta 6 k = a 6 (3 * k) ∧ ta 7 k = a 6 (3 * k + 1) ∧ ta 8 k = a 6 (3 * k + 2)) (h2 : ∀ q, q < 8 → ta 10 q = a 8 (2 * q) ∧ ta 11 q = a 8 (2 * q + 1)) : RT 0 t (va_up ta 16 z) s a := by
  refine ⟨he, h1, h2, fun k hk => by omega, fun g hg k hk => ?_⟩
  show hasP (z g) (nI k) = _
  rw [hz g hg, zero_bit hk]
  simp
