/-! ===== the class: a day begins ===== -/
abbrev bgL (kd sv : Int32) (k : Nat) : List (Option Value) := [some (.ref 0), some (.int kd), some (.int sv), some (.int (nI k))]
theorem cD_bg_a (L : xLn) (Q : Option Value → List xE → Prop) (n0 : Nat) (d : xN) (da : Nat → xN) (t : xN) (ta : Nat → xN) (kd sv : Int32) (h : AJ L mX0_begin 1 0 0 Q n0 (0, 0) 17 (bgL kd sv 0) [] (dtW (upd (upd (upd d 1 kd) 2 sv) 3 0) da t ta)) : AJ L mX0_begin 1 0 0 Q n0 (0, 0) 0 [some (.ref 0), some (.int kd), some (.int sv), none] [] (dtW d da t ta) := AJ.run kX0_begin [17] 60 h
theorem cD_bg_b (L : xLn) (Q : Option Value → List xE → Prop) (n0 : Nat) (d : xN) (da : Nat → xN) (t : xN) (ta : Nat → xN) (kd sv : Int32) (k : Nat) (hk : k < 2) (h : AJ L mX0_begin 1 0 0 Q n0 (0, 0) 17 (bgL kd sv (k + 1)) [] (dtW d (va_up (va_up (va_up da 4 (upd (da 4) k (ta 6 k))) 5 (upd (da 5) k (ta 8 k))) 6 (upd (da 6) k 0)) t ta)) : AJ L mX0_begin 1 0 0 Q n0 (0, 0) 17 (bgL kd sv k) [] (dtW d da t ta) := by
  unfold bgL at h ⊢
  rw [nI_succ] at h
  exact AJ.run kX0_begin [17] 60 ⟨fun hz => absurd hz (nI_ge (b := 2) (by omega) (by omega)), fun _ => ⟨k, rfl, by omega, k, rfl, by omega, k, rfl, by omega, k, rfl, by omega, k, rfl, by omega, h⟩⟩
theorem cD_bg_c (L : xLn) (Q : Option Value → List xE → Prop) (n0 : Nat) (d : xN) (da : Nat → xN) (t : xN) (ta : Nat → xN) (kd sv : Int32) (h : AJ L mX0_begin 1 0 0 Q n0 (0, 0) 70 (bgL kd sv 2) [] (dtW (upd d 7 0) da t ta)) : AJ L mX0_begin 1 0 0 Q n0 (0, 0) 17 (bgL kd sv 2) [] (dtW d da t ta) := AJ.run kX0_begin [17, 70] 60 ⟨fun _ => h, fun hz => absurd (by decide) hz⟩
theorem cD_bg_8 (L : xLn) (Q : Option Value → List xE → Prop) (n0 : Nat) (d : xN) (da : Nat → xN) (t : xN) (ta : Nat → xN) (kd sv : Int32) (h : ∀ f : xN, (∀ i, i < 8 → f i = -1) → AJ L mX0_begin 1 0 0 Q n0 (0, 0) 78 (bgL kd sv 2) [] (dtW d (va_up da 8 f) t ta)) : AJ L mX0_begin 1 0 0 Q n0 (0, 0) 70 (bgL kd sv 2) [] (dtW d da t ta) := by
  refine AJ.run kX0_begin [] 60 ?_
  refine AJ.callT kX0_begin (cJ_fill8 L (da 8) (-1)) bJ7_fill_53178 rfl (by decide +kernel) [4] [] rfl rfl rfl rfl rfl rfl rfl ?_
  rintro r Y ⟨rfl, f, hf, rfl⟩
  exact ⟨dtW d (va_up da 8 f) t ta, rfl, rfl, h f hf⟩
theorem cD_bg_9 (L : xLn) (Q : Option Value → List xE → Prop) (n0 : Nat) (d : xN) (da : Nat → xN) (t : xN) (ta : Nat → xN) (kd sv : Int32) (h : ∀ f : xN, (∀ i, i < 8 → f i = 0) → AJ L mX0_begin 1 0 0 Q n0 (0, 0) 86 (bgL kd sv 2) [] (dtW d (va_up da 9 f) t ta)) : AJ L mX0_begin 1 0 0 Q n0 (0, 0) 78 (bgL kd sv 2) [] (dtW d da t ta) := by
  refine AJ.run kX0_begin [] 60 ?_
  refine AJ.callT kX0_begin (cJ_fill8 L (da 9) 0) bJ7_fill_53178 rfl (by decide +kernel) [5] [] rfl rfl rfl rfl rfl rfl rfl ?_
  rintro r Y ⟨rfl, f, hf, rfl⟩
  exact ⟨dtW d (va_up da 9 f) t ta, rfl, rfl, h f hf⟩
theorem cD_bg_10 (L : xLn) (Q : Option Value → List xE → Prop) (n0 : Nat) (d : xN) (da : Nat → xN) (t : xN) (ta : Nat → xN) (kd sv : Int32) (h : ∀ f : xN, (∀ i, i < 26 → f i = -1) → AJ L mX0_begin 1 0 0 Q n0 (0, 0) 94 (bgL kd sv 2) [] (dtW d (va_up da 10 f) t ta)) : AJ L mX0_begin 1 0 0 Q n0 (0, 0) 86 (bgL kd sv 2) [] (dtW d da t ta) := by
  refine AJ.run kX0_begin [] 60 ?_
  refine AJ.callT kX0_begin (cJ_fill26 L (da 10) (-1)) bJ7_fill_53178 rfl (by decide +kernel) [6] [] rfl rfl rfl rfl rfl rfl rfl ?_
  rintro r Y ⟨rfl, f, hf, rfl⟩
  exact ⟨dtW d (va_up da 10 f) t ta, rfl, rfl, h f hf⟩
theorem cD_bg_11 (L : xLn) (Q : Option Value → List xE → Prop) (n0 : Nat) (d : xN) (da : Nat → xN) (t : xN) (ta : Nat → xN) (kd sv : Int32) (h : ∀ f : xN, (∀ i, i < 12 → f i = 0) → AJ L mX0_begin 1 0 0 Q n0 (0, 0) 102 (bgL kd sv 2) [] (dtW d (va_up da 11 f) t ta)) : AJ L mX0_begin 1 0 0 Q n0 (0, 0) 94 (bgL kd sv 2) [] (dtW d da t ta) := by
  refine AJ.run kX0_begin [] 60 ?_
  refine AJ.callT kX0_begin (cJ_fill12 L (da 11) 0) bJ7_fill_53178 rfl (by decide +kernel) [7] [] rfl rfl rfl rfl rfl rfl rfl ?_
  rintro r Y ⟨rfl, f, hf, rfl⟩
  exact ⟨dtW d (va_up da 11 f) t ta, rfl, rfl, h f hf⟩
theorem cD_bg_z (L : xLn) (Q : Option Value → List xE → Prop) (n0 : Nat) (d : xN) (da : Nat → xN) (t : xN) (ta : Nat → xN) (kd sv : Int32) (h : Q none (dtW (upd (upd (upd d 12 0) 13 0) 20 0) da t ta)) : AJ L mX0_begin 1 0 0 Q n0 (0, 0) 102 (bgL kd sv 2) [] (dtW d da t ta) := AJ.run kX0_begin [] 60 h
/-- a day that has just begun -/
theorem RD_begin {m sp : Nat} {t : xN} {ta : Nat → xN} {s : xN} {a : Nat → xN} {d : xN} {da : Nat → xN} (hT : RT m t ta s a) (hL : RLw s d) (h3 : d 3 = 0) (h7 : d 7 = 0) (h12 : d 12 = 0) (h13 : d 13 = 0) (h20 : d 20 = 0) (h4 : ∀ k, k < 2 → da 4 k = ta 6 k) (h5 : ∀ k, k < 2 → da 5 k = ta 8 k) (h6 : ∀ k, k < 2 → da 6 k = 0) (h8 : ∀ q, q < 8 → da 8 q = -1) (h9 : ∀ q, q < 8 → da 9 q = 0) (h10 : ∀ k, k < 26 → da 10 k = -1) (h11 : ∀ p, p < 12 → da 11 p = 0) (hm : m ≤ 26) (N : xN) : RD m 0 sp s a d da (beginP (a 6) (a 8) N) := by
  obtain ⟨b0, b7, b8⟩ := begin_0 (a 6) (a 8) N
  refine ⟨hL, ⟨by rw [h3, b0], fun k hk => ?_⟩, ⟨fun k hk q hq => ?_, fun q hq => ?_⟩, ⟨fun k hk => ?_, fun p hp k hk => ?_, fun k hk => ?_⟩, ⟨by rw [h20, b7, b8]; rfl, fun i hi => ?_⟩⟩
  · obtain ⟨t1, t2, t3⟩ := begin_tr (a 6) (a 8) N hk
    rw [t1, t2, t3, h4 k hk, h5 k hk, h7, zero_bit (by omega)]
    exact ⟨(hT.2.1 k hk).1, (hT.2.1 k hk).2.2, rfl⟩
  · rw [h6 k hk, zero_bit hq]
    by_cases h : q < 8
    · rw [(begin_9 (a 6) (a 8) N h).2.1]
      have : ¬ (-1 : Int32) = nI k := fun z => nI_m1 (by omega) z.symm
      simp [this]
    · simp [h]
  · obtain ⟨t1, t2, t3, t4⟩ := begin_9 (a 6) (a 8) N hq
    rw [t3, t4]
    exact ⟨h8 q hq, h9 q hq⟩
  · obtain ⟨t1, t2⟩ := begin_41 (a 6) (a 8) N hk
    rw [t1, t2, h13, zero_bit (by omega)]
    exact ⟨h10 k hk, rfl⟩
  · rw [h11 p hp, zero_bit hk]
    by_cases h : k < m
    · rw [(begin_41 (a 6) (a 8) N (p := k) (by omega)).1]
      have : ¬ (-1 : Int32) = nI p := fun z => nI_m1 (by omega) z.symm
      simp [this]
    · simp [h]
  · rw [h12, zero_bit hk]
    by_cases h : k < m
    · rw [(begin_41 (a 6) (a 8) N (p := k) (by omega)).1]
      simp
    · simp [h]
  · have : hmP (beginP (a 6) (a 8) N) = 0 := hm_nI (by rw [b7, b8]; rfl) (by omega)
    omega
theorem up2 (f g : xN) : ∀ i : Nat, i < 2 → upd (upd f 0 (g 0)) 1 (g 1) i = g i := by
  intro i hi
  rcases (show i = 0 ∨ i = 1 by omega) with rfl | rfl
  · rw [pk_un (by omega), pk_us]
  · rw [pk_us]
theorem cD_begin (L : xLn) (d : xN) (da : Nat → xN) (t : xN) (ta : Nat → xN) (m sp : Nat) (s : xN) (a : Nat → xN) (kd sv : Int32) (hm : m ≤ 26) (hT : RT m t ta s a) (hk : s 30 = kd) (hs : s 31 = sv) : CT L mX0_begin 1 0 0 [.ref 0, .int kd, .int sv] (dtW d da t ta) (dtQ t ta (fun d' da' => ∀ N, RD m 0 sp s a d' da' (beginP (a 6) (a 8) N))) := by
  refine dt_gen fun Q fin => ?_
  refine CT.of rfl (Nat.le_of_ble_eq_true rfl) (Nat.le_of_ble_eq_true rfl) ?_
  refine cD_bg_a L Q _ d da t ta kd sv (cD_bg_b L Q _ _ _ t ta kd sv 0 (by omega) (cD_bg_b L Q _ _ _ t ta kd sv 1 (by omega) (cD_bg_c L Q _ _ _ t ta kd sv (cD_bg_8 L Q _ _ _ t ta kd sv ?_))))
  intro f8 h8
  refine cD_bg_9 L Q _ _ _ t ta kd sv ?_
  intro f9 h9
  refine cD_bg_10 L Q _ _ _ t ta kd sv ?_
  intro f10 h10
  refine cD_bg_11 L Q _ _ _ t ta kd sv ?_
  intro f11 h11
  refine cD_bg_z L Q _ _ _ t ta kd sv ?_
  refine fin _ _ ?_
  intro N
  exact RD_begin hT ⟨hk.symm, hs.symm⟩ rfl rfl rfl rfl rfl (up2 (da 4) (ta 6)) (up2 (da 5) (ta 8)) (up2 (da 6) (fun _ => 0)) h8 h9 h10 h11 hm N
