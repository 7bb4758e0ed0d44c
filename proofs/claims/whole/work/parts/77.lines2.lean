/-! ===== the class: lines ===== -/
theorem wdI_lt {w : Nat} (h : w < 10) : wdI w = nI w := if_neg (by omega)
set_option maxHeartbeats 1000000 in
theorem cR_canBegin (L : xLn) (fa li fr to : Int32) (n : Nat) (f t : xN) (ta : Nat → xN) (nu u : xN) (ua : Nat → xN) (w m : Nat) (hw : w ≤ 10) (hm : t 12 = nI m) (hm2 : m ≤ 26) : CT L mX4_canBegin 0 0 0 [.ref 0, .int (wdI w)] (rdW fa li fr to n f t ta nu u ua) (boQ (decide (w < 10 ∧ (m < 24 ∨ w < 6 ∨ w = 9))) (rdW fa li fr to n f t ta nu u ua)) := by
  obtain ⟨b, hb⟩ : ∃ b, b = decide (w < 10 ∧ (m < 24 ∨ w < 6 ∨ w = 9)) := ⟨_, rfl⟩
  rw [← hb]
  obtain ⟨Q, hQ⟩ : ∃ Q, Q = boQ b (rdW fa li fr to n f t ta nu u ua) := ⟨_, rfl⟩
  have f0 : ¬ (w < 10 ∧ (m < 24 ∨ w < 6 ∨ w = 9)) → Q (some (.int 0)) (rdW fa li fr to n f t ta nu u ua) := fun z => by rw [hQ, hb, decide_eq_false z]; exact ⟨rfl, rfl⟩
  have f1 : (w < 10 ∧ (m < 24 ∨ w < 6 ∨ w = 9)) → Q (some (.int 1)) (rdW fa li fr to n f t ta nu u ua) := fun z => by rw [hQ, hb, decide_eq_true z]; exact ⟨rfl, rfl⟩
  rw [← hQ]
  clear hQ hb
  have h24 : t 12 = nI m → ((24 : Int32) ≤ t 12 ↔ 24 ≤ m) := fun z => by
    rw [z]
    constructor
    · intro y
      rcases Nat.lt_or_ge m 24 with x | x
      · exact absurd y (nI_ge (b := 24) x (by omega))
      · exact x
    · intro y
      exact nI_le (a := 24) y (by omega)
  refine CT.of rfl (Nat.le_of_ble_eq_true rfl) (Nat.le_of_ble_eq_true rfl) ?_
  rcases (show w = 0 ∨ w = 1 ∨ w = 2 ∨ w = 3 ∨ w = 4 ∨ w = 5 ∨ w = 9 ∨ w = 6 ∨ w = 7 ∨ w = 8 ∨ w = 10 by omega) with rfl | rfl | rfl | rfl | rfl | rfl | rfl | rfl | rfl | rfl | rfl
  · exact AJ.run kX4_canBegin [] 60 ⟨fun z => absurd z (by decide), fun _ => ⟨fun z => absurd z (by decide), fun _ => ⟨fun _ => ⟨fun z => absurd z (by decide), fun _ => ⟨fun z => absurd z (by decide), fun _ => ⟨fun _ => ⟨Or.inr rfl, f1 (by omega)⟩, fun z => absurd rfl z⟩⟩⟩, fun z => absurd z (by decide)⟩⟩⟩
  · exact AJ.run kX4_canBegin [] 60 ⟨fun z => absurd z (by decide), fun _ => ⟨fun z => absurd z (by decide), fun _ => ⟨fun _ => ⟨fun z => absurd z (by decide), fun _ => ⟨fun z => absurd z (by decide), fun _ => ⟨fun _ => ⟨Or.inr rfl, f1 (by omega)⟩, fun z => absurd rfl z⟩⟩⟩, fun z => absurd z (by decide)⟩⟩⟩
  · exact AJ.run kX4_canBegin [] 60 ⟨fun z => absurd z (by decide), fun _ => ⟨fun z => absurd z (by decide), fun _ => ⟨fun _ => ⟨fun z => absurd z (by decide), fun _ => ⟨fun z => absurd z (by decide), fun _ => ⟨fun _ => ⟨Or.inr rfl, f1 (by omega)⟩, fun z => absurd rfl z⟩⟩⟩, fun z => absurd z (by decide)⟩⟩⟩
  · exact AJ.run kX4_canBegin [] 60 ⟨fun z => absurd z (by decide), fun _ => ⟨fun z => absurd z (by decide), fun _ => ⟨fun _ => ⟨fun z => absurd z (by decide), fun _ => ⟨fun z => absurd z (by decide), fun _ => ⟨fun _ => ⟨Or.inr rfl, f1 (by omega)⟩, fun z => absurd rfl z⟩⟩⟩, fun z => absurd z (by decide)⟩⟩⟩
  · exact AJ.run kX4_canBegin [] 60 ⟨fun z => absurd z (by decide), fun _ => ⟨fun z => absurd z (by decide), fun _ => ⟨fun _ => ⟨fun z => absurd z (by decide), fun _ => ⟨fun z => absurd z (by decide), fun _ => ⟨fun _ => ⟨Or.inr rfl, f1 (by omega)⟩, fun z => absurd rfl z⟩⟩⟩, fun z => absurd z (by decide)⟩⟩⟩
  · exact AJ.run kX4_canBegin [] 60 ⟨fun z => absurd z (by decide), fun _ => ⟨fun z => absurd z (by decide), fun _ => ⟨fun _ => ⟨fun z => absurd z (by decide), fun _ => ⟨fun z => absurd z (by decide), fun _ => ⟨fun _ => ⟨Or.inr rfl, f1 (by omega)⟩, fun z => absurd rfl z⟩⟩⟩, fun z => absurd z (by decide)⟩⟩⟩
  · exact AJ.run kX4_canBegin [] 60 ⟨fun z => absurd z (by decide), fun _ => ⟨fun z => absurd z (by decide), fun _ => ⟨fun _ => ⟨fun z => absurd z (by decide), fun _ => ⟨fun z => absurd z (by decide), fun _ => ⟨fun _ => ⟨Or.inr rfl, f1 (by omega)⟩, fun z => absurd rfl z⟩⟩⟩, fun z => absurd z (by decide)⟩⟩⟩
  · exact AJ.run kX4_canBegin [] 60 ⟨fun _ => ⟨fun z => absurd z (by decide), fun _ => ⟨fun z => absurd z (by decide), fun _ => ⟨fun z => absurd z (by decide), fun _ => ⟨fun y => ⟨Or.inl rfl, f0 (by have := (h24 hm).mp y; omega)⟩, fun y => ⟨Or.inr rfl, f1 (by have z : ¬ 24 ≤ m := fun z => y ((h24 hm).mpr z); omega)⟩⟩⟩⟩⟩, fun z => absurd rfl z⟩
  · exact AJ.run kX4_canBegin [] 60 ⟨fun z => absurd z (by decide), fun _ => ⟨fun _ => ⟨fun z => absurd z (by decide), fun _ => ⟨fun z => absurd z (by decide), fun _ => ⟨fun z => absurd z (by decide), fun _ => ⟨fun y => ⟨Or.inl rfl, f0 (by have := (h24 hm).mp y; omega)⟩, fun y => ⟨Or.inr rfl, f1 (by have z : ¬ 24 ≤ m := fun z => y ((h24 hm).mpr z); omega)⟩⟩⟩⟩⟩, fun z => absurd rfl z⟩⟩
  · exact AJ.run kX4_canBegin [] 60 ⟨fun z => absurd z (by decide), fun _ => ⟨fun z => absurd z (by decide), fun _ => ⟨fun z => absurd rfl z, fun _ => ⟨fun z => absurd z (by decide), fun _ => ⟨fun z => absurd z (by decide), fun _ => ⟨fun z => absurd z (by decide), fun _ => ⟨fun y => ⟨Or.inl rfl, f0 (by have := (h24 hm).mp y; omega)⟩, fun y => ⟨Or.inr rfl, f1 (by have z : ¬ 24 ≤ m := fun z => y ((h24 hm).mpr z); omega)⟩⟩⟩⟩⟩⟩⟩⟩
  · exact AJ.run kX4_canBegin [] 60 ⟨fun z => absurd z (by decide), fun _ => ⟨fun z => absurd z (by decide), fun _ => ⟨fun _ => ⟨fun _ => ⟨Or.inl rfl, f0 (by omega)⟩, fun z => absurd (by decide) z⟩, fun z => absurd z (by decide)⟩⟩⟩
theorem l_p1 {l : Nat} (h : 2 ≤ l) : nI l - 1 = nI (l - 1) := pk_sub (a := l) (b := 1) (by omega)
theorem cR_canStandInTram (L : xLn) (fa li fr to : Int32) (n : Nat) (f t : xN) (ta : Nat → xN) (nu u : xN) (ua : Nat → xN) (v : Int32) (i l : Nat) (hi : i < 4) (hl : t 0 = nI l) (h2 : 2 ≤ l) (h12 : l ≤ 12) : CT L mX4_canStandInTram 1 0 0 [.ref 0, .int v, .int (nI i)] (rdW fa li fr to n f t ta nu u ua) (boQ (cstP 4 i (t 0) (t 9) nu v) (rdW fa li fr to n f t ta nu u ua)) := by
  refine CT.of rfl (Nat.le_of_ble_eq_true rfl) (Nat.le_of_ble_eq_true rfl) ?_
  rcases (show i = 0 ∨ i = 1 ∨ i = 2 ∨ i = 3 by omega) with rfl | rfl | rfl | rfl
  · show AJ L mX4_canStandInTram 1 0 0 (boQ (inP v 0 1) (rdW fa li fr to n f t ta nu u ua)) _ _ _ _ _ _
    refine AJ.run kX4_canStandInTram [] 30 ⟨fun _ => ?_, fun z => absurd rfl z⟩
    refine AJ.callZ kX4_canStandInTram (cR_isWithin L v 0 1) bX4_isWithin rfl (by decide +kernel) [] rfl rfl rfl rfl rfl ?_
    rintro r rfl
    exact AJ.run kX4_canStandInTram [] 30 ⟨bI_or _, rfl, rfl⟩
  · show AJ L mX4_canStandInTram 1 0 0 (boQ (inP v 0 (t 0 - 1)) (rdW fa li fr to n f t ta nu u ua)) _ _ _ _ _ _
    rw [hl, l_p1 h2]
    refine AJ.run kX4_canStandInTram [] 30 ⟨fun z => absurd z (by decide), fun _ => ⟨fun _ => ?_, fun z => absurd rfl z⟩⟩
    refine AJ.callP kX4_canStandInTram (cT_isPlace L t ta v l hl (by omega) h12) bX6_isPlace rfl (by decide +kernel) [3, 4, 5, 6, 7, 8, 9, 10, 11, 12] [] rfl rfl rfl rfl rfl rfl rfl rfl rfl rfl ?_
    rintro r rfl
    exact AJ.run kX4_canStandInTram [] 30 ⟨bI_or _, rfl, rfl⟩
  · show AJ L mX4_canStandInTram 1 0 0 (boQ (inP v 0 59) (rdW fa li fr to n f t ta nu u ua)) _ _ _ _ _ _
    refine AJ.run kX4_canStandInTram [] 30 ⟨fun z => absurd z (by decide), fun _ => ⟨fun z => absurd z (by decide), fun _ => ⟨fun _ => ?_, fun z => absurd rfl z⟩⟩⟩
    refine AJ.callZ kX4_canStandInTram (cR_isWithin L v 0 59) bX4_isWithin rfl (by decide +kernel) [] rfl rfl rfl rfl rfl ?_
    rintro r rfl
    exact AJ.run kX4_canStandInTram [] 30 ⟨bI_or _, rfl, rfl⟩
  · show AJ L mX4_canStandInTram 1 0 0 (boQ (inP v 0 1) (rdW fa li fr to n f t ta nu u ua)) _ _ _ _ _ _
    refine AJ.run kX4_canStandInTram [] 30 ⟨fun z => absurd z (by decide), fun _ => ⟨fun z => absurd z (by decide), fun _ => ⟨fun z => absurd z (by decide), fun _ => ?_⟩⟩⟩
    refine AJ.callZ kX4_canStandInTram (cR_isWithin L v 0 1) bX4_isWithin rfl (by decide +kernel) [] rfl rfl rfl rfl rfl ?_
    rintro r rfl
    exact AJ.run kX4_canStandInTram [] 30 ⟨bI_or _, rfl, rfl⟩
theorem cR_canStandInFolk (L : xLn) (fa li fr to : Int32) (n : Nat) (f t : xN) (ta : Nat → xN) (nu u : xN) (ua : Nat → xN) (v : Int32) (i l : Nat) (hi : i < 4) (hl : t 0 = nI l) (h2 : 2 ≤ l) (h12 : l ≤ 12) : CT L mX4_canStandInFolk 1 0 0 [.ref 0, .int v, .int (nI i)] (rdW fa li fr to n f t ta nu u ua) (boQ (cstP 5 i (t 0) (t 9) nu v) (rdW fa li fr to n f t ta nu u ua)) := by
  refine CT.of rfl (Nat.le_of_ble_eq_true rfl) (Nat.le_of_ble_eq_true rfl) ?_
  rcases (show i = 0 ∨ i = 1 ∨ i = 2 ∨ i = 3 by omega) with rfl | rfl | rfl | rfl
  · show AJ L mX4_canStandInFolk 1 0 0 (boQ (inP v 0 7) (rdW fa li fr to n f t ta nu u ua)) _ _ _ _ _ _
    refine AJ.run kX4_canStandInFolk [] 30 ⟨fun _ => ?_, fun z => absurd rfl z⟩
    refine AJ.callZ kX4_canStandInFolk (cR_isWithin L v 0 7) bX4_isWithin rfl (by decide +kernel) [] rfl rfl rfl rfl rfl ?_
    rintro r rfl
    exact AJ.run kX4_canStandInFolk [] 30 ⟨bI_or _, rfl, rfl⟩
  · show AJ L mX4_canStandInFolk 1 0 0 (boQ (inP v 0 (t 0 - 1)) (rdW fa li fr to n f t ta nu u ua)) _ _ _ _ _ _
    rw [hl, l_p1 h2]
    refine AJ.run kX4_canStandInFolk [] 30 ⟨fun z => absurd z (by decide), fun _ => ⟨fun _ => ?_, fun z => absurd rfl z⟩⟩
    refine AJ.callP kX4_canStandInFolk (cT_isPlace L t ta v l hl (by omega) h12) bX6_isPlace rfl (by decide +kernel) [3, 4, 5, 6, 7, 8, 9, 10, 11, 12] [] rfl rfl rfl rfl rfl rfl rfl rfl rfl rfl ?_
    rintro r rfl
    exact AJ.run kX4_canStandInFolk [] 30 ⟨bI_or _, rfl, rfl⟩
  · show AJ L mX4_canStandInFolk 1 0 0 (boQ (inP v 0 (t 0 - 1) && decide (¬ nu 1 = v)) (rdW fa li fr to n f t ta nu u ua)) _ _ _ _ _ _
    rw [hl, l_p1 h2]
    refine AJ.run kX4_canStandInFolk [] 30 ⟨fun z => absurd z (by decide), fun _ => ⟨fun z => absurd z (by decide), fun _ => ?_⟩⟩
    refine AJ.callP kX4_canStandInFolk (cT_isPlace L t ta v l hl (by omega) h12) bX6_isPlace rfl (by decide +kernel) [3, 4, 5, 6, 7, 8, 9, 10, 11, 12] [] rfl rfl rfl rfl rfl rfl rfl rfl rfl rfl ?_
    rintro r rfl
    refine AJ.run kX4_canStandInFolk [] 30 ⟨fun z => ⟨Or.inl rfl, ?_, rfl⟩, fun z => ⟨1, rfl, by omega, fun z2 => ⟨Or.inl rfl, ?_, rfl⟩, fun z2 => ⟨Or.inr rfl, ?_, rfl⟩⟩⟩
    · rw [(bI_eq0 _).mp z]; rfl
    · have z2 : v = nu 1 := z2
      rw [(bI_ne0 _).mp z, decide_eq_false (fun y => y z2.symm)]; rfl
    · have z2 : ¬ v = nu 1 := z2
      rw [(bI_ne0 _).mp z, decide_eq_true (show ¬ nu 1 = v from fun y => z2 y.symm)]; rfl
  · show AJ L mX4_canStandInFolk 1 0 0 (boQ (inP v 0 (t 0 - 1) && decide (¬ nu 1 = v)) (rdW fa li fr to n f t ta nu u ua)) _ _ _ _ _ _
    rw [hl, l_p1 h2]
    refine AJ.run kX4_canStandInFolk [] 30 ⟨fun z => absurd z (by decide), fun _ => ⟨fun z => absurd z (by decide), fun _ => ?_⟩⟩
    refine AJ.callP kX4_canStandInFolk (cT_isPlace L t ta v l hl (by omega) h12) bX6_isPlace rfl (by decide +kernel) [3, 4, 5, 6, 7, 8, 9, 10, 11, 12] [] rfl rfl rfl rfl rfl rfl rfl rfl rfl rfl ?_
    rintro r rfl
    refine AJ.run kX4_canStandInFolk [] 30 ⟨fun z => ⟨Or.inl rfl, ?_, rfl⟩, fun z => ⟨1, rfl, by omega, fun z2 => ⟨Or.inl rfl, ?_, rfl⟩, fun z2 => ⟨Or.inr rfl, ?_, rfl⟩⟩⟩
    · rw [(bI_eq0 _).mp z]; rfl
    · have z2 : v = nu 1 := z2
      rw [(bI_ne0 _).mp z, decide_eq_false (fun y => y z2.symm)]; rfl
    · have z2 : ¬ v = nu 1 := z2
      rw [(bI_ne0 _).mp z, decide_eq_true (show ¬ nu 1 = v from fun y => z2 y.symm)]; rfl
set_option maxHeartbeats 2000000 in
theorem cR_canStand (L : xLn) (fa li fr to : Int32) (n : Nat) (f t : xN) (ta : Nat → xN) (nu u : xN) (ua : Nat → xN) (w i l : Nat) (hw : w < 10) (hi : i < 4) (hl : t 0 = nI l) (h2 : 2 ≤ l) (h12 : l ≤ 12) : CT L mX4_canStand 2 0 0 [.ref 0, .int (nI w), .int (nI i)] (rdW fa li fr to n f t ta nu u ua) (boQ (cstP w i (t 0) (t 9) nu (nu i)) (rdW fa li fr to n f t ta nu u ua)) := by
  obtain ⟨v, hv⟩ : ∃ v, v = nu i := ⟨_, rfl⟩
  have c4 := cR_canStandInTram L fa li fr to n f t ta nu u ua v i l hi hl h2 h12
  have c5 := cR_canStandInFolk L fa li fr to n f t ta nu u ua v i l hi hl h2 h12
  rw [← hv]
  refine CT.of rfl (Nat.le_of_ble_eq_true rfl) (Nat.le_of_ble_eq_true rfl) ?_
  have go : ∀ Q, AJ L mX4_canStand 2 0 0 Q (rdW fa li fr to n f t ta nu u ua).length (0, 0) 7 [some (.ref 0), some (.int (nI w)), some (.int (nI i)), some (.int v)] [] (rdW fa li fr to n f t ta nu u ua) → AJ L mX4_canStand 2 0 0 Q (rdW fa li fr to n f t ta nu u ua).length (0, 0) 0 [some (.ref 0), some (.int (nI w)), some (.int (nI i)), none] [] (rdW fa li fr to n f t ta nu u ua) := by
    intro Q h
    rw [hv] at h
    exact AJ.run kX4_canStand [7] 30 ⟨i, rfl, by omega, h⟩
  refine go _ ?_
  clear go hv
  rcases w10 hw with rfl | rfl | rfl | rfl | rfl | rfl | rfl | rfl | rfl | rfl
  · show AJ L mX4_canStand 2 0 0 (boQ (inP v 2 12) (rdW fa li fr to n f t ta nu u ua)) _ _ _ _ _ _
    refine AJ.run kX4_canStand [] 30 ⟨fun _ => ?_, fun z => absurd rfl z⟩
    refine AJ.callZ kX4_canStand (cR_isWithin L v 2 12) bX4_isWithin rfl (by decide +kernel) [] rfl rfl rfl rfl rfl ?_
    rintro r rfl
    exact AJ.run kX4_canStand [] 30 ⟨bI_or _, rfl, rfl⟩
  · by_cases hi0 : i = 0
    · subst hi0
      show AJ L mX4_canStand 2 0 0 (boQ (inP v 0 7) (rdW fa li fr to n f t ta nu u ua)) _ _ _ _ _ _
      refine AJ.run kX4_canStand [] 30 ⟨fun z => absurd z (by decide), fun _ => ⟨fun _ => ⟨fun z => absurd rfl z, fun _ => ?_⟩, fun z => absurd rfl z⟩⟩
      refine AJ.callZ kX4_canStand (cR_isWithin L v 0 7) bX4_isWithin rfl (by decide +kernel) [] rfl rfl rfl rfl rfl ?_
      rintro r rfl
      exact AJ.run kX4_canStand [] 30 ⟨bI_or _, rfl, rfl⟩
    · have e : cstP 1 i (t 0) (t 9) nu v = inP v 1 30 := if_neg hi0
      rw [e]
      refine AJ.run kX4_canStand [] 30 ⟨fun z => absurd z (by decide), fun _ => ⟨fun _ => ⟨fun _ => ?_, fun z => absurd z (nI_ne0 (by omega) (by omega))⟩, fun z => absurd rfl z⟩⟩
      refine AJ.callZ kX4_canStand (cR_isWithin L v 1 30) bX4_isWithin rfl (by decide +kernel) [] rfl rfl rfl rfl rfl ?_
      rintro r rfl
      exact AJ.run kX4_canStand [] 30 ⟨bI_or _, rfl, rfl⟩
  · show AJ L mX4_canStand 2 0 0 (boQ (inP v 1 6) (rdW fa li fr to n f t ta nu u ua)) _ _ _ _ _ _
    refine AJ.run kX4_canStand [] 30 ⟨fun z => absurd z (by decide), fun _ => ⟨fun z => absurd z (by decide), fun _ => ⟨fun _ => ?_, fun z => absurd rfl z⟩⟩⟩
    refine AJ.callZ kX4_canStand (cR_isWithin L v 1 6) bX4_isWithin rfl (by decide +kernel) [] rfl rfl rfl rfl rfl ?_
    rintro r rfl
    exact AJ.run kX4_canStand [] 30 ⟨bI_or _, rfl, rfl⟩
  · show AJ L mX4_canStand 2 0 0 (boQ (inP v 0 99) (rdW fa li fr to n f t ta nu u ua)) _ _ _ _ _ _
    refine AJ.run kX4_canStand [] 30 ⟨fun z => absurd z (by decide), fun _ => ⟨fun z => absurd z (by decide), fun _ => ⟨fun z => absurd z (by decide), fun _ => ⟨fun _ => ?_, fun z => absurd rfl z⟩⟩⟩⟩
    refine AJ.callZ kX4_canStand (cR_isWithin L v 0 99) bX4_isWithin rfl (by decide +kernel) [] rfl rfl rfl rfl rfl ?_
    rintro r rfl
    exact AJ.run kX4_canStand [] 30 ⟨bI_or _, rfl, rfl⟩
  · refine AJ.run kX4_canStand [] 30 ⟨fun z => absurd z (by decide), fun _ => ⟨fun z => absurd z (by decide), fun _ => ⟨fun z => absurd z (by decide), fun _ => ⟨fun z => absurd z (by decide), fun _ => ⟨fun _ => ?_, fun z => absurd rfl z⟩⟩⟩⟩⟩
    generalize cstP 4 i (t 0) (t 9) nu v = b at c4 ⊢
    refine AJ.callF kX4_canStand c4 bX4_canStandInTram rfl (by decide +kernel) [] rfl rfl rfl rfl rfl rfl rfl rfl ?_
    rintro r Y ⟨rfl, rfl⟩
    exact ⟨rfl, rfl, AJ.run kX4_canStand [] 30 ⟨bI_or _, rfl, rfl⟩⟩
  · refine AJ.run kX4_canStand [] 30 ⟨fun z => absurd z (by decide), fun _ => ⟨fun z => absurd z (by decide), fun _ => ⟨fun z => absurd z (by decide), fun _ => ⟨fun z => absurd z (by decide), fun _ => ⟨fun z => absurd z (by decide), fun _ => ⟨fun _ => ?_, fun z => absurd rfl z⟩⟩⟩⟩⟩⟩
    generalize cstP 5 i (t 0) (t 9) nu v = b at c5 ⊢
    refine AJ.callF kX4_canStand c5 bX4_canStandInFolk rfl (by decide +kernel) [] rfl rfl rfl rfl rfl rfl rfl rfl ?_
    rintro r Y ⟨rfl, rfl⟩
    exact ⟨rfl, rfl, AJ.run kX4_canStand [] 30 ⟨bI_or _, rfl, rfl⟩⟩
  · by_cases hi0 : i = 0
    · subst hi0
      show AJ L mX4_canStand 2 0 0 (boQ (inP v 0 7 && hasP (t 9) v) (rdW fa li fr to n f t ta nu u ua)) _ _ _ _ _ _
      refine AJ.run kX4_canStand [] 30 ⟨fun z => absurd z (by decide), fun _ => ⟨fun z => absurd z (by decide), fun _ => ⟨fun z => absurd z (by decide), fun _ => ⟨fun z => absurd z (by decide), fun _ => ⟨fun z => absurd z (by decide), fun _ => ⟨fun z => absurd z (by decide), fun _ => ⟨fun z => absurd rfl z, fun _ => ?_⟩⟩⟩⟩⟩⟩⟩
      refine AJ.callP kX4_canStand (cT_isPerson L t ta v) bX6_isPerson rfl (by decide +kernel) [3, 4, 5, 6, 7, 8, 9, 10, 11, 12] [] rfl rfl rfl rfl rfl rfl rfl rfl rfl rfl ?_
      rintro r rfl
      exact AJ.run kX4_canStand [] 30 ⟨bI_or _, rfl, rfl⟩
    · have e : cstP 6 i (t 0) (t 9) nu v = inP v 0 59 := if_neg hi0
      rw [e]
      refine AJ.run kX4_canStand [] 30 ⟨fun z => absurd z (by decide), fun _ => ⟨fun z => absurd z (by decide), fun _ => ⟨fun z => absurd z (by decide), fun _ => ⟨fun z => absurd z (by decide), fun _ => ⟨fun z => absurd z (by decide), fun _ => ⟨fun z => absurd z (by decide), fun _ => ⟨fun _ => ?_, fun z => absurd z (nI_ne0 (by omega) (by omega))⟩⟩⟩⟩⟩⟩⟩
      refine AJ.callZ kX4_canStand (cR_isWithin L v 0 59) bX4_isWithin rfl (by decide +kernel) [] rfl rfl rfl rfl rfl ?_
      rintro r rfl
      exact AJ.run kX4_canStand [] 30 ⟨bI_or _, rfl, rfl⟩
  · by_cases hi0 : i = 0
    · subst hi0
      show AJ L mX4_canStand 2 0 0 (boQ (inP v 0 7 && hasP (t 9) v) (rdW fa li fr to n f t ta nu u ua)) _ _ _ _ _ _
      refine AJ.run kX4_canStand [] 30 ⟨fun z => absurd z (by decide), fun _ => ⟨fun z => absurd z (by decide), fun _ => ⟨fun z => absurd z (by decide), fun _ => ⟨fun z => absurd z (by decide), fun _ => ⟨fun z => absurd z (by decide), fun _ => ⟨fun z => absurd z (by decide), fun _ => ⟨fun z => absurd rfl z, fun _ => ?_⟩⟩⟩⟩⟩⟩⟩
      refine AJ.callP kX4_canStand (cT_isPerson L t ta v) bX6_isPerson rfl (by decide +kernel) [3, 4, 5, 6, 7, 8, 9, 10, 11, 12] [] rfl rfl rfl rfl rfl rfl rfl rfl rfl rfl ?_
      rintro r rfl
      exact AJ.run kX4_canStand [] 30 ⟨bI_or _, rfl, rfl⟩
    · have e : cstP 7 i (t 0) (t 9) nu v = inP v 0 59 := if_neg hi0
      rw [e]
      refine AJ.run kX4_canStand [] 30 ⟨fun z => absurd z (by decide), fun _ => ⟨fun z => absurd z (by decide), fun _ => ⟨fun z => absurd z (by decide), fun _ => ⟨fun z => absurd z (by decide), fun _ => ⟨fun z => absurd z (by decide), fun _ => ⟨fun z => absurd z (by decide), fun _ => ⟨fun _ => ?_, fun z => absurd z (nI_ne0 (by omega) (by omega))⟩⟩⟩⟩⟩⟩⟩
      refine AJ.callZ kX4_canStand (cR_isWithin L v 0 59) bX4_isWithin rfl (by decide +kernel) [] rfl rfl rfl rfl rfl ?_
      rintro r rfl
      exact AJ.run kX4_canStand [] 30 ⟨bI_or _, rfl, rfl⟩
  · by_cases hi0 : i = 0
    · subst hi0
      show AJ L mX4_canStand 2 0 0 (boQ (inP v 0 7 && hasP (t 9) v) (rdW fa li fr to n f t ta nu u ua)) _ _ _ _ _ _
      refine AJ.run kX4_canStand [] 30 ⟨fun z => absurd z (by decide), fun _ => ⟨fun z => absurd z (by decide), fun _ => ⟨fun z => absurd z (by decide), fun _ => ⟨fun z => absurd z (by decide), fun _ => ⟨fun z => absurd z (by decide), fun _ => ⟨fun z => absurd z (by decide), fun _ => ⟨fun z => absurd rfl z, fun _ => ?_⟩⟩⟩⟩⟩⟩⟩
      refine AJ.callP kX4_canStand (cT_isPerson L t ta v) bX6_isPerson rfl (by decide +kernel) [3, 4, 5, 6, 7, 8, 9, 10, 11, 12] [] rfl rfl rfl rfl rfl rfl rfl rfl rfl rfl ?_
      rintro r rfl
      exact AJ.run kX4_canStand [] 30 ⟨bI_or _, rfl, rfl⟩
    · have e : cstP 8 i (t 0) (t 9) nu v = inP v 0 59 := if_neg hi0
      rw [e]
      refine AJ.run kX4_canStand [] 30 ⟨fun z => absurd z (by decide), fun _ => ⟨fun z => absurd z (by decide), fun _ => ⟨fun z => absurd z (by decide), fun _ => ⟨fun z => absurd z (by decide), fun _ => ⟨fun z => absurd z (by decide), fun _ => ⟨fun z => absurd z (by decide), fun _ => ⟨fun _ => ?_, fun z => absurd z (nI_ne0 (by omega) (by omega))⟩⟩⟩⟩⟩⟩⟩
      refine AJ.callZ kX4_canStand (cR_isWithin L v 0 59) bX4_isWithin rfl (by decide +kernel) [] rfl rfl rfl rfl rfl ?_
      rintro r rfl
      exact AJ.run kX4_canStand [] 30 ⟨bI_or _, rfl, rfl⟩
  · by_cases hi0 : i = 0
    · subst hi0
      show AJ L mX4_canStand 2 0 0 (boQ (inP v 0 7 && hasP (t 9) v) (rdW fa li fr to n f t ta nu u ua)) _ _ _ _ _ _
      refine AJ.run kX4_canStand [] 30 ⟨fun z => absurd z (by decide), fun _ => ⟨fun z => absurd z (by decide), fun _ => ⟨fun z => absurd z (by decide), fun _ => ⟨fun z => absurd z (by decide), fun _ => ⟨fun z => absurd z (by decide), fun _ => ⟨fun z => absurd z (by decide), fun _ => ⟨fun z => absurd rfl z, fun _ => ?_⟩⟩⟩⟩⟩⟩⟩
      refine AJ.callP kX4_canStand (cT_isPerson L t ta v) bX6_isPerson rfl (by decide +kernel) [3, 4, 5, 6, 7, 8, 9, 10, 11, 12] [] rfl rfl rfl rfl rfl rfl rfl rfl rfl rfl ?_
      rintro r rfl
      exact AJ.run kX4_canStand [] 30 ⟨bI_or _, rfl, rfl⟩
    · have e : cstP 9 i (t 0) (t 9) nu v = inP v 0 59 := if_neg hi0
      rw [e]
      refine AJ.run kX4_canStand [] 30 ⟨fun z => absurd z (by decide), fun _ => ⟨fun z => absurd z (by decide), fun _ => ⟨fun z => absurd z (by decide), fun _ => ⟨fun z => absurd z (by decide), fun _ => ⟨fun z => absurd z (by decide), fun _ => ⟨fun z => absurd z (by decide), fun _ => ⟨fun _ => ?_, fun z => absurd z (nI_ne0 (by omega) (by omega))⟩⟩⟩⟩⟩⟩⟩
      refine AJ.callZ kX4_canStand (cR_isWithin L v 0 59) bX4_isWithin rfl (by decide +kernel) [] rfl rfl rfl rfl rfl ?_
      rintro r rfl
      exact AJ.run kX4_canStand [] 30 ⟨bI_or _, rfl, rfl⟩
