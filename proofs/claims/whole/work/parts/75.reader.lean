/-! ===== the class: tokens ===== -/
/-- the Reader: itself, the text, its plan (from 3), its numbers (13), what is told (from 14) -/
def rdW (fa li fr to : Int32) (n : Nat) (f : xN) (t : xN) (ta : Nat → xN) (nu : xN) (u : xN) (ua : Nat → xN) : List xE := [.inr (.inr (4, [.ref 1, .ref 14, .ref 3, .ref 13, .int fa, .int li, .int fr, .int to])), .inr (.inr (5, [.ref 2, .int (nI n)])), .inl (0, 200, f)] ++ (tolW 3 t ta ++ (.inl (0, 4, nu) :: tolW 14 u ua))
theorem sgP_lt {f : xN} {n i : Nat} (h : i < n) : sgP f n i = f i := if_pos h
theorem sgP_ge {f : xN} {n i : Nat} (h : n ≤ i) : sgP f n i = -1 := if_neg (by omega)
theorem isL_m1 : isL (-1) = false := by decide
theorem isD_m1 : isD (-1) = false := by decide
theorem cR_tk_blank (L : xLn) (Q : Option Value → List xE → Prop) (fa li to : Int32) (n n0 e p : Nat) (f t : xN) (ta : Nat → xN) (nu u : xN) (ua : Nat → xN) (h200 : n ≤ 200) (nxt : ∀ x : Int32, AJ L mX4_takeToken 1 0 0 Q n0 (0, 0) 49 [some (.ref 0), some (.int x)] [] (rdW fa li (nI e) to n f t ta nu u ua)) :
    ∀ (k i q : Nat), n - q = k → q = p + i → q ≤ n → runE isB f n q = e → AJ L mX4_takeToken 1 0 0 Q n0 (0, 0) 10 [some (.ref 0), some (.int (nI i))] [] (rdW fa li (nI q) to n f t ta nu u ua) := by
  intro k
  induction k with
  | zero =>
    intro i q hk hq hqn he
    have : q = n := by omega
    subst this
    rw [runE_end (Nat.le_refl _)] at he
    subst he
    refine AJ.run kX4_takeToken [10, 49] 30 ⟨fun _ => nxt _, fun _ => ?_⟩
    refine AJ.callP kX4_takeToken (cX_signAt L f q q h200 (by omega)) bX5_signAt rfl (by decide +kernel) [1, 2] [] rfl rfl rfl rfl rfl rfl rfl rfl rfl rfl ?_
    rintro r rfl
    rw [sgP_ge (Nat.le_refl _)]
    exact AJ.run kX4_takeToken [10, 49] 30 ⟨fun _ => nxt _, fun z => absurd z (by decide)⟩
  | succ k ih =>
    intro i q hk hq hqn he
    refine AJ.run kX4_takeToken [10, 49] 30 ⟨fun z => absurd z (nI_ge (b := 200) (by omega) (by omega)), fun _ => ?_⟩
    refine AJ.callP kX4_takeToken (cX_signAt L f n q h200 (by omega)) bX5_signAt rfl (by decide +kernel) [1, 2] [] rfl rfl rfl rfl rfl rfl rfl rfl rfl rfl ?_
    rintro r rfl
    rw [sgP_lt (by omega)]
    refine AJ.run kX4_takeToken [10, 49] 30 ⟨fun z => ?_, fun z => ?_⟩
    · have z : ¬ f q = 32 := z
      rw [runE_no (by simp [isB, z])] at he
      subst he
      exact nxt _
    · have z : f q = 32 := z
      rw [runE_go (by omega) (by simp [isB, z])] at he
      have n2 := ih (i + 1) (q + 1) (by omega) (by omega) (by omega) he
      rw [nI_succ, nI_succ] at n2
      exact n2
theorem cR_tk_word (L : xLn) (Q : Option Value → List xE → Prop) (fa li fr : Int32) (n n0 e p : Nat) (f t : xN) (ta : Nat → xN) (nu u : xN) (ua : Nat → xN) (h200 : n ≤ 200) (nxt : Q none (rdW fa li fr (nI e) n f t ta nu u ua)) :
    ∀ (k i q : Nat), n - q = k → q = p + 1 + i → q ≤ n → runE isL f n q = e → AJ L mX4_takeToken 1 0 0 Q n0 (0, 0) 100 [some (.ref 0), some (.int (nI i))] [] (rdW fa li fr (nI q) n f t ta nu u ua) := by
  intro k
  induction k with
  | zero =>
    intro i q hk hq hqn he
    have : q = n := by omega
    subst this
    rw [runE_end (Nat.le_refl _)] at he
    subst he
    refine AJ.run kX4_takeToken [100] 30 ⟨fun _ => nxt, fun _ => ?_⟩
    refine AJ.callP kX4_takeToken (cX_signAt L f q q h200 (by omega)) bX5_signAt rfl (by decide +kernel) [1, 2] [] rfl rfl rfl rfl rfl rfl rfl rfl rfl rfl ?_
    rintro r rfl
    rw [sgP_ge (Nat.le_refl _)]
    refine AJ.run kX4_takeToken [100] 30 ?_
    refine AJ.callZ kX4_takeToken (cR_isLetter L (-1)) bX4_isLetter rfl (by decide +kernel) [] rfl rfl rfl rfl rfl ?_
    rintro r rfl
    rw [isL_m1]
    exact AJ.run kX4_takeToken [100] 30 ⟨fun _ => nxt, fun z => absurd rfl z⟩
  | succ k ih =>
    intro i q hk hq hqn he
    refine AJ.run kX4_takeToken [100] 30 ⟨fun z => absurd z (nI_ge (b := 200) (by omega) (by omega)), fun _ => ?_⟩
    refine AJ.callP kX4_takeToken (cX_signAt L f n q h200 (by omega)) bX5_signAt rfl (by decide +kernel) [1, 2] [] rfl rfl rfl rfl rfl rfl rfl rfl rfl rfl ?_
    rintro r rfl
    rw [sgP_lt (by omega)]
    refine AJ.run kX4_takeToken [100] 30 ?_
    refine AJ.callZ kX4_takeToken (cR_isLetter L (f q)) bX4_isLetter rfl (by decide +kernel) [] rfl rfl rfl rfl rfl ?_
    rintro r rfl
    refine AJ.run kX4_takeToken [100] 30 ⟨fun z => ?_, fun z => ?_⟩
    · rw [bI_eq0] at z
      rw [runE_no (by simp [z])] at he
      subst he
      exact nxt
    · rw [bI_ne0] at z
      rw [runE_go (by omega) z] at he
      have n2 := ih (i + 1) (q + 1) (by omega) (by omega) (by omega) he
      rw [nI_succ, nI_succ] at n2
      exact n2
theorem cR_tk_dig (L : xLn) (Q : Option Value → List xE → Prop) (fa li fr : Int32) (n n0 e p : Nat) (f t : xN) (ta : Nat → xN) (nu u : xN) (ua : Nat → xN) (h200 : n ≤ 200) (nxt : Q none (rdW fa li fr (nI e) n f t ta nu u ua)) :
    ∀ (k i q : Nat), n - q = k → q = p + 1 + i → q ≤ n → runE isD f n q = e → AJ L mX4_takeToken 1 0 0 Q n0 (0, 0) 162 [some (.ref 0), some (.int (nI i))] [] (rdW fa li fr (nI q) n f t ta nu u ua) := by
  intro k
  induction k with
  | zero =>
    intro i q hk hq hqn he
    have : q = n := by omega
    subst this
    rw [runE_end (Nat.le_refl _)] at he
    subst he
    refine AJ.run kX4_takeToken [162] 30 ⟨fun _ => nxt, fun _ => ?_⟩
    refine AJ.callP kX4_takeToken (cX_signAt L f q q h200 (by omega)) bX5_signAt rfl (by decide +kernel) [1, 2] [] rfl rfl rfl rfl rfl rfl rfl rfl rfl rfl ?_
    rintro r rfl
    rw [sgP_ge (Nat.le_refl _)]
    refine AJ.run kX4_takeToken [162] 30 ?_
    refine AJ.callZ kX4_takeToken (cR_isDigit L (-1)) bX4_isDigit rfl (by decide +kernel) [] rfl rfl rfl rfl rfl ?_
    rintro r rfl
    rw [isD_m1]
    exact AJ.run kX4_takeToken [162] 30 ⟨fun _ => nxt, fun z => absurd rfl z⟩
  | succ k ih =>
    intro i q hk hq hqn he
    refine AJ.run kX4_takeToken [162] 30 ⟨fun z => absurd z (nI_ge (b := 200) (by omega) (by omega)), fun _ => ?_⟩
    refine AJ.callP kX4_takeToken (cX_signAt L f n q h200 (by omega)) bX5_signAt rfl (by decide +kernel) [1, 2] [] rfl rfl rfl rfl rfl rfl rfl rfl rfl rfl ?_
    rintro r rfl
    rw [sgP_lt (by omega)]
    refine AJ.run kX4_takeToken [162] 30 ?_
    refine AJ.callZ kX4_takeToken (cR_isDigit L (f q)) bX4_isDigit rfl (by decide +kernel) [] rfl rfl rfl rfl rfl ?_
    rintro r rfl
    refine AJ.run kX4_takeToken [162] 30 ⟨fun z => ?_, fun z => ?_⟩
    · rw [bI_eq0] at z
      rw [runE_no (by simp [z])] at he
      subst he
      exact nxt
    · rw [bI_ne0] at z
      rw [runE_go (by omega) z] at he
      have n2 := ih (i + 1) (q + 1) (by omega) (by omega) (by omega) he
      rw [nI_succ, nI_succ] at n2
      exact n2
set_option maxHeartbeats 1000000 in
theorem cR_takeToken (L : xLn) (fa li fr : Int32) (n p : Nat) (f t : xN) (ta : Nat → xN) (nu u : xN) (ua : Nat → xN) (h200 : n ≤ 200) (hp : p ≤ n) : CT L mX4_takeToken 1 0 0 [.ref 0] (rdW fa li fr (nI p) n f t ta nu u ua) (eqQ none (rdW fa li (nI (tkS f n p)) (nI (tkE f n p)) n f t ta nu u ua)) := by
  refine CT.of rfl (Nat.le_of_ble_eq_true rfl) (Nat.le_of_ble_eq_true rfl) ?_
  have hle := tkS_le (f := f) hp
  have hE := tkE_eq f n p
  have hS : runE isB f n p = tkS f n p := rfl
  generalize tkS f n p = s at *
  generalize tkE f n p = e at *
  obtain ⟨Q, hQ⟩ : ∃ Q, Q = eqQ none (rdW fa li (nI s) (nI e) n f t ta nu u ua) := ⟨_, rfl⟩
  have fin : Q none (rdW fa li (nI s) (nI e) n f t ta nu u ua) := by rw [hQ]; exact ⟨rfl, rfl⟩
  rw [← hQ]
  clear hQ
  have g49 : ∀ x : Int32, AJ L mX4_takeToken 1 0 0 Q (rdW fa li fr (nI p) n f t ta nu u ua).length (0, 0) 49 [some (.ref 0), some (.int x)] [] (rdW fa li (nI s) (nI p) n f t ta nu u ua) := by
    intro x
    refine AJ.run kX4_takeToken [] 30 ⟨fun z => ?_, fun z => ?_⟩
    · have z : nI n ≤ nI s := z
      have : s = n := by
        rcases Nat.lt_or_ge s n with y | y
        · exact absurd z (nI_ge y (by omega))
        · omega
      subst this
      rw [if_pos rfl] at hE
      subst hE
      refine AJ.callP kX4_takeToken (cX_signAt L f e e h200 (by omega)) bX5_signAt rfl (by decide +kernel) [1, 2] [] rfl rfl rfl rfl rfl rfl rfl rfl rfl rfl ?_
      rintro r rfl
      rw [sgP_ge (Nat.le_refl _)]
      refine AJ.run kX4_takeToken [] 30 ?_
      refine AJ.callZ kX4_takeToken (cR_isLetter L (-1)) bX4_isLetter rfl (by decide +kernel) [] rfl rfl rfl rfl rfl ?_
      rintro r rfl
      rw [isL_m1]
      refine AJ.run kX4_takeToken [] 30 ⟨fun _ => ?_, fun z => absurd rfl z⟩
      refine AJ.callP kX4_takeToken (cX_signAt L f e e h200 (by omega)) bX5_signAt rfl (by decide +kernel) [1, 2] [] rfl rfl rfl rfl rfl rfl rfl rfl rfl rfl ?_
      rintro r rfl
      rw [sgP_ge (Nat.le_refl _)]
      refine AJ.run kX4_takeToken [] 30 ?_
      refine AJ.callZ kX4_takeToken (cR_isDigit L (-1)) bX4_isDigit rfl (by decide +kernel) [] rfl rfl rfl rfl rfl ?_
      rintro r rfl
      rw [isD_m1]
      exact AJ.run kX4_takeToken [] 30 ⟨fun _ => fin, fun z => absurd rfl z⟩
    · have z : ¬ nI n ≤ nI s := z
      have hsn : s < n := by
        rcases Nat.lt_or_ge s n with y | y
        · exact y
        · exact absurd (nI_le y (by omega)) z
      rw [if_neg (by omega)] at hE
      refine AJ.callP kX4_takeToken (cX_signAt L f n s h200 (by omega)) bX5_signAt rfl (by decide +kernel) [1, 2] [] rfl rfl rfl rfl rfl rfl rfl rfl rfl rfl ?_
      rintro r rfl
      rw [sgP_lt hsn]
      refine AJ.run kX4_takeToken [] 30 ?_
      refine AJ.callZ kX4_takeToken (cR_isLetter L (f s)) bX4_isLetter rfl (by decide +kernel) [] rfl rfl rfl rfl rfl ?_
      rintro r rfl
      refine AJ.run kX4_takeToken [100] 30 ⟨fun z => ?_, fun z => ?_⟩
      · rw [bI_eq0] at z
        rw [if_neg (by simp [z])] at hE
        refine AJ.callP kX4_takeToken (cX_signAt L f n s h200 (by omega)) bX5_signAt rfl (by decide +kernel) [1, 2] [] rfl rfl rfl rfl rfl rfl rfl rfl rfl rfl ?_
        rintro r rfl
        rw [sgP_lt hsn]
        refine AJ.run kX4_takeToken [] 30 ?_
        refine AJ.callZ kX4_takeToken (cR_isDigit L (f s)) bX4_isDigit rfl (by decide +kernel) [] rfl rfl rfl rfl rfl ?_
        rintro r rfl
        refine AJ.run kX4_takeToken [162] 30 ⟨fun z2 => ?_, fun z2 => ?_⟩
        · rw [bI_eq0] at z2
          rw [if_neg (by simp [z2])] at hE
          rw [hE, ← nI_1] at fin
          exact fin
        · rw [bI_ne0] at z2
          rw [if_pos z2, runE_go hsn z2] at hE
          have := cR_tk_dig L Q fa li (nI s) n (rdW fa li fr (nI p) n f t ta nu u ua).length e s f t ta nu u ua h200 fin _ 0 (s + 1) rfl rfl (by omega) hE.symm
          rw [← nI_1] at this
          exact this
      · rw [bI_ne0] at z
        rw [if_pos z, runE_go hsn z] at hE
        have := cR_tk_word L Q fa li (nI s) n (rdW fa li fr (nI p) n f t ta nu u ua).length e s f t ta nu u ua h200 fin _ 0 (s + 1) rfl rfl (by omega) hE.symm
        rw [← nI_1] at this
        exact this
  exact AJ.run kX4_takeToken [10] 30 (cR_tk_blank L Q fa li (nI p) n _ s p f t ta nu u ua h200 g49 _ 0 p rfl rfl hp hS)
/-! ===== the class: the word and the number in hand ===== -/
theorem cR_isWord (L : xLn) (fa li : Int32) (n q e w : Nat) (f t : xN) (ta : Nat → xN) (nu u : xN) (ua : Nat → xN) (hw : w < 10) (hn : n ≤ 200) (hqe : q ≤ e) (he : e ≤ 200) : CT L mX4_isWord 5 0 0 [.ref 0, .ref (xB + 1 + w)] (rdW fa li (nI q) (nI e) n f t ta nu u ua) (boQ (spB f n q e w) (rdW fa li (nI q) (nI e) n f t ta nu u ua)) := by
  have cs := cX_spells L f n q e w hw hn hqe he
  generalize spB f n q e w = b at cs ⊢
  rcases w10 hw with rfl | rfl | rfl | rfl | rfl | rfl | rfl | rfl | rfl | rfl
  all_goals
    refine CT.of rfl (Nat.le_of_ble_eq_true rfl) (Nat.le_of_ble_eq_true rfl) ?_
    refine AJ.run kX4_isWord [] 30 ?_
    refine AJ.callP (P := fun r => r = some (.int (bI b))) kX4_isWord cs bX5_spells rfl (by decide +kernel) [1, 2] [] rfl rfl rfl rfl rfl rfl rfl rfl rfl rfl ?_
    rintro r rfl
    exact AJ.run kX4_isWord [] 30 ⟨bI_or b, rfl, rfl⟩
def wdB (B : Nat → Bool) : Int32 := if B 0 = true then 0 else if B 1 = true then 1 else if B 2 = true then 2 else if B 3 = true then 3 else if B 4 = true then 4 else if B 5 = true then 5 else if B 6 = true then 6 else if B 7 = true then 7 else if B 8 = true then 8 else if B 9 = true then 9 else -1
def inQ (v : Int32) (X : List xE) : Option Value → List xE → Prop := fun r Y => r = some (.int v) ∧ Y = X
set_option maxHeartbeats 1000000 in
theorem cR_wordInHand (L : xLn) (fa li : Int32) (n q e : Nat) (f t : xN) (ta : Nat → xN) (nu u : xN) (ua : Nat → xN) (hn : n ≤ 200) (hqe : q ≤ e) (he : e ≤ 200) : CT L mX4_wordInHand 6 0 0 [.ref 0] (rdW fa li (nI q) (nI e) n f t ta nu u ua) (inQ (wdB (spB f n q e)) (rdW fa li (nI q) (nI e) n f t ta nu u ua)) := by
  have cw := fun w hw => cR_isWord L fa li n q e w f t ta nu u ua hw hn hqe he
  generalize spB f n q e = B at cw ⊢
  refine CT.of rfl (Nat.le_of_ble_eq_true rfl) (Nat.le_of_ble_eq_true rfl) ?_
  unfold wdB
  refine AJ.run kX4_wordInHand [] 30 ?_
  refine AJ.callF kX4_wordInHand (cw 0 (by omega)) bX4_isWord rfl (by decide +kernel) [] rfl rfl rfl rfl rfl rfl rfl rfl ?_
  rintro r Y ⟨rfl, rfl⟩
  refine ⟨rfl, rfl, ?_⟩
  refine AJ.run kX4_wordInHand [] 30 ⟨fun h0 => ?_, fun h0 => ⟨by rw [if_pos ((bI_ne0 _).mp h0)], rfl⟩⟩
  rw [if_neg (by rw [(bI_eq0 _).mp h0]; simp)]
  refine AJ.callF kX4_wordInHand (cw 1 (by omega)) bX4_isWord rfl (by decide +kernel) [] rfl rfl rfl rfl rfl rfl rfl rfl ?_
  rintro r Y ⟨rfl, rfl⟩
  refine ⟨rfl, rfl, ?_⟩
  refine AJ.run kX4_wordInHand [] 30 ⟨fun h0 => ?_, fun h0 => ⟨by rw [if_pos ((bI_ne0 _).mp h0)], rfl⟩⟩
  rw [if_neg (by rw [(bI_eq0 _).mp h0]; simp)]
  refine AJ.callF kX4_wordInHand (cw 2 (by omega)) bX4_isWord rfl (by decide +kernel) [] rfl rfl rfl rfl rfl rfl rfl rfl ?_
  rintro r Y ⟨rfl, rfl⟩
  refine ⟨rfl, rfl, ?_⟩
  refine AJ.run kX4_wordInHand [] 30 ⟨fun h0 => ?_, fun h0 => ⟨by rw [if_pos ((bI_ne0 _).mp h0)], rfl⟩⟩
  rw [if_neg (by rw [(bI_eq0 _).mp h0]; simp)]
  refine AJ.callF kX4_wordInHand (cw 3 (by omega)) bX4_isWord rfl (by decide +kernel) [] rfl rfl rfl rfl rfl rfl rfl rfl ?_
  rintro r Y ⟨rfl, rfl⟩
  refine ⟨rfl, rfl, ?_⟩
  refine AJ.run kX4_wordInHand [] 30 ⟨fun h0 => ?_, fun h0 => ⟨by rw [if_pos ((bI_ne0 _).mp h0)], rfl⟩⟩
  rw [if_neg (by rw [(bI_eq0 _).mp h0]; simp)]
  refine AJ.callF kX4_wordInHand (cw 4 (by omega)) bX4_isWord rfl (by decide +kernel) [] rfl rfl rfl rfl rfl rfl rfl rfl ?_
  rintro r Y ⟨rfl, rfl⟩
  refine ⟨rfl, rfl, ?_⟩
  refine AJ.run kX4_wordInHand [] 30 ⟨fun h0 => ?_, fun h0 => ⟨by rw [if_pos ((bI_ne0 _).mp h0)], rfl⟩⟩
  rw [if_neg (by rw [(bI_eq0 _).mp h0]; simp)]
  refine AJ.callF kX4_wordInHand (cw 5 (by omega)) bX4_isWord rfl (by decide +kernel) [] rfl rfl rfl rfl rfl rfl rfl rfl ?_
  rintro r Y ⟨rfl, rfl⟩
  refine ⟨rfl, rfl, ?_⟩
  refine AJ.run kX4_wordInHand [] 30 ⟨fun h0 => ?_, fun h0 => ⟨by rw [if_pos ((bI_ne0 _).mp h0)], rfl⟩⟩
  rw [if_neg (by rw [(bI_eq0 _).mp h0]; simp)]
  refine AJ.callF kX4_wordInHand (cw 6 (by omega)) bX4_isWord rfl (by decide +kernel) [] rfl rfl rfl rfl rfl rfl rfl rfl ?_
  rintro r Y ⟨rfl, rfl⟩
  refine ⟨rfl, rfl, ?_⟩
  refine AJ.run kX4_wordInHand [] 30 ⟨fun h0 => ?_, fun h0 => ⟨by rw [if_pos ((bI_ne0 _).mp h0)], rfl⟩⟩
  rw [if_neg (by rw [(bI_eq0 _).mp h0]; simp)]
  refine AJ.callF kX4_wordInHand (cw 7 (by omega)) bX4_isWord rfl (by decide +kernel) [] rfl rfl rfl rfl rfl rfl rfl rfl ?_
  rintro r Y ⟨rfl, rfl⟩
  refine ⟨rfl, rfl, ?_⟩
  refine AJ.run kX4_wordInHand [] 30 ⟨fun h0 => ?_, fun h0 => ⟨by rw [if_pos ((bI_ne0 _).mp h0)], rfl⟩⟩
  rw [if_neg (by rw [(bI_eq0 _).mp h0]; simp)]
  refine AJ.callF kX4_wordInHand (cw 8 (by omega)) bX4_isWord rfl (by decide +kernel) [] rfl rfl rfl rfl rfl rfl rfl rfl ?_
  rintro r Y ⟨rfl, rfl⟩
  refine ⟨rfl, rfl, ?_⟩
  refine AJ.run kX4_wordInHand [] 30 ⟨fun h0 => ?_, fun h0 => ⟨by rw [if_pos ((bI_ne0 _).mp h0)], rfl⟩⟩
  rw [if_neg (by rw [(bI_eq0 _).mp h0]; simp)]
  refine AJ.callF kX4_wordInHand (cw 9 (by omega)) bX4_isWord rfl (by decide +kernel) [] rfl rfl rfl rfl rfl rfl rfl rfl ?_
  rintro r Y ⟨rfl, rfl⟩
  refine ⟨rfl, rfl, ?_⟩
  exact AJ.run kX4_wordInHand [] 30 ⟨fun h0 => ⟨by rw [if_neg (by rw [(bI_eq0 _).mp h0]; simp)], rfl⟩, fun h0 => ⟨by rw [if_pos ((bI_ne0 _).mp h0)], rfl⟩⟩
def nhP (f : xN) (n q e : Nat) : Int32 := if isD (sgP f n q) = true ∧ e - q ≤ 2 then dgN f q (e - q) else -1
theorem dgN_s (f : xN) (q k : Nat) (hk : k < 2) : dgN f q (k + 1) = 10 * dgN f q k + f (q + k) - 48 := by rw [dgN, if_pos hk]
theorem cR_numberInHand (L : xLn) (fa li : Int32) (n q e : Nat) (f t : xN) (ta : Nat → xN) (nu u : xN) (ua : Nat → xN) (hn : n ≤ 200) (hqe : q ≤ e) (he : e ≤ n) : CT L mX4_numberInHand 1 0 0 [.ref 0] (rdW fa li (nI q) (nI e) n f t ta nu u ua) (inQ (nhP f n q e) (rdW fa li (nI q) (nI e) n f t ta nu u ua)) := by
  obtain ⟨v, hv⟩ : ∃ v, v = nhP f n q e := ⟨_, rfl⟩
  rw [← hv]
  unfold nhP at hv
  obtain ⟨Q, hQ⟩ : ∃ Q, Q = inQ v (rdW fa li (nI q) (nI e) n f t ta nu u ua) := ⟨_, rfl⟩
  have fin : ∀ x, v = x → Q (some (.int x)) (rdW fa li (nI q) (nI e) n f t ta nu u ua) := by rintro x rfl; rw [hQ]; exact ⟨rfl, rfl⟩
  rw [← hQ]
  clear hQ
  have hsub : nI e - nI q = nI (e - q) := pk_sub hqe
  refine CT.of rfl (Nat.le_of_ble_eq_true rfl) (Nat.le_of_ble_eq_true rfl) ?_
  refine AJ.run kX4_numberInHand [] 30 ?_
  refine AJ.callP kX4_numberInHand (cX_signAt L f n q hn (by omega)) bX5_signAt rfl (by decide +kernel) [1, 2] [] rfl rfl rfl rfl rfl rfl rfl rfl rfl rfl ?_
  rintro r rfl
  refine AJ.run kX4_numberInHand [] 30 ?_
  refine AJ.callZ kX4_numberInHand (cR_isDigit L (sgP f n q)) bX4_isDigit rfl (by decide +kernel) [] rfl rfl rfl rfl rfl ?_
  rintro r rfl
  refine AJ.run kX4_numberInHand [39] 30 ⟨fun z => fin _ (by rw [hv, if_neg (by rw [(bI_eq0 _).mp z]; simp)]), fun z => ⟨fun z2 => ?_, fun z2 => fin _ (by
    rw [hv, if_neg]
    rintro ⟨-, y⟩
    refine z2 ?_
    show nI e - nI q ≤ nI 2
    rw [hsub]
    exact nI_le y (by omega))⟩⟩
  have z2 : nI e - nI q ≤ nI 2 := z2
  rw [hsub] at z2
  have h2 : e - q ≤ 2 := by
    rcases Nat.lt_or_ge 2 (e - q) with y | y
    · exact absurd z2 (nI_ge y (by omega))
    · exact y
  rw [if_pos ⟨(bI_ne0 _).mp z, h2⟩] at hv
  obtain ⟨G, hG⟩ : ∃ G : Nat → Int32, G = fun k => dgN f q k := ⟨_, rfl⟩
  have G0 : G 0 = 0 := by rw [hG]; rfl
  have Gs : ∀ k, k < 2 → G (k + 1) = 10 * G k + f (q + k) - 48 := by intro k hk; rw [hG]; exact dgN_s f q k hk
  have Ge : v = G (e - q) := by rw [hG]; exact hv
  clear hG hv
  have loop : ∀ (k i : Nat), q + i + k = e → AJ L mX4_numberInHand 1 0 0 Q (rdW fa li (nI q) (nI e) n f t ta nu u ua).length (0, 0) 39 [some (.ref 0), some (.int (G i)), some (.int (nI (q + i)))] [] (rdW fa li (nI q) (nI e) n f t ta nu u ua) := by
    intro k
    induction k with
    | zero =>
      intro i hi
      have : e - q = i := by omega
      obtain rfl : e = q + i := by omega
      exact AJ.run kX4_numberInHand [39] 30 ⟨fun _ => fin _ (by rw [Ge, this]), fun y => absurd (nI_le (Nat.le_refl _) (by omega)) y⟩
    | succ k ih =>
      intro i hi
      have nxt := ih (i + 1) (by omega)
      rw [Gs i (by omega), ← Nat.add_assoc, nI_succ, Int32.mul_comm] at nxt
      refine AJ.run kX4_numberInHand [39] 30 ⟨fun y => absurd y (nI_ge (by omega) (by omega)), fun _ => ?_⟩
      refine AJ.callP kX4_numberInHand (cX_signAt L f n (q + i) hn (by omega)) bX5_signAt rfl (by decide +kernel) [1, 2] [.int (G i * 10)] rfl rfl rfl rfl rfl rfl rfl rfl rfl rfl ?_
      rintro r rfl
      rw [sgP_lt (by omega)]
      exact AJ.run kX4_numberInHand [39] 30 nxt
  have := loop (e - q) 0 (by omega)
  rw [G0] at this
  exact this
