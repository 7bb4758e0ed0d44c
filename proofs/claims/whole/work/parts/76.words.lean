/-! ===== words and numbers, in both ===== -/
theorem hw_inj {f g : xN} {q r : Nat} : ∀ (k k' : Nat), (∀ i, i < k → isL (f (q + i)) = true) → (∀ i, i < k' → isL (g (r + i)) = true) → hwN f q k = hwN g r k' → k = k' ∧ ∀ i, i < k → f (q + i) = g (r + i) := by
  intro k
  induction k with
  | zero =>
    intro k' _ h2 h
    cases k' with
    | zero => exact ⟨rfl, fun i hi => by omega⟩
    | succ k' =>
      exfalso
      obtain ⟨v, v1, v2, e⟩ := isL_nI (h2 k' (by omega))
      simp only [hwN] at h
      rw [e, nI_clamp (by omega)] at h
      omega
  | succ k ih =>
    intro k' h1 h2 h
    obtain ⟨v, v1, v2, e⟩ := isL_nI (h1 k (by omega))
    cases k' with
    | zero =>
      exfalso
      simp only [hwN] at h
      rw [e, nI_clamp (by omega)] at h
      omega
    | succ k' =>
      obtain ⟨u, u1, u2, e2⟩ := isL_nI (h2 k' (by omega))
      simp only [hwN] at h
      rw [e, e2, nI_clamp (by omega), nI_clamp (by omega)] at h
      obtain ⟨hk, hi⟩ := ih k' (fun i hi => h1 i (by omega)) (fun i hi => h2 i (by omega)) (by omega)
      refine ⟨by omega, fun i hi2 => ?_⟩
      by_cases ei : i = k
      · subst ei
        subst hk
        rw [e, e2, show v = u by omega]
      · exact hi i (by omega)
theorem hwN_cg {f g : xN} {q r : Nat} : ∀ k, (∀ i, i < k → f (q + i) = g (r + i)) → hwN f q k = hwN g r k
  | 0, _ => rfl
  | k + 1, h => by rw [hwN, hwN, hwN_cg k (fun i hi => h i (by omega)), h k (by omega)]
def wW : List Nat := [355278, 287015, 10197082, 119318, 406822, 129368, 10728469, 126216878256, 82451, 60115]
theorem wW_ok : ∀ w : Fin 10, hwN (wch w.val) 0 (xsl.getD w.val 0) = wW.getD w.val 0 := by decide +kernel
theorem wch_L : ∀ w : Fin 10, ∀ y : Fin 8, isL (wch w.val (0 + y.val)) = true ∨ xsl.getD w.val 0 ≤ y.val := by decide +kernel
theorem spB_len {f : xN} {n q e w : Nat} (h : ¬ e - q = xsl.getD w 0) : spB f n q e w = false := by
  unfold spB
  rw [decide_eq_false h]; rfl
theorem spB_hw {f : xN} {n q e w : Nat} (hw : w < 10) (hen : e ≤ n) (hl : ∀ i, i < e - q → isL (f (q + i)) = true) : spB f n q e w = decide (hwN f q (e - q) = wW.getD w 0) := by
  have sg : ∀ i, i < e - q → sgP f n (q + i) = f (q + i) := fun i hi => sgP_lt (by omega)
  have e2 : hwN (wch w) 0 (xsl.getD w 0) = wW.getD w 0 := wW_ok ⟨w, hw⟩
  have h8 : xsl.getD w 0 ≤ 8 := (xsl_le ⟨w, hw⟩).1
  by_cases h : hwN f q (e - q) = wW.getD w 0
  · rw [decide_eq_true h]
    obtain ⟨h1, h2⟩ := hw_inj (g := wch w) (r := 0) (e - q) (xsl.getD w 0) hl (fun i hi => by
      rcases wch_L ⟨w, hw⟩ ⟨i, by omega⟩ with z | z
      · exact z
      · exact absurd hi (Nat.not_lt.mpr z)) (h.trans e2.symm)
    unfold spB
    rw [decide_eq_true h1, allB_iff.mpr (fun i hi => decide_eq_true (by rw [sg i (by omega), h2 i (by omega), Nat.zero_add]))]
    rfl
  · rw [decide_eq_false h]
    cases hb : spB f n q e w with
    | false => rfl
    | true =>
      exfalso
      apply h
      unfold spB at hb
      rw [Bool.and_eq_true] at hb
      have h1 := of_decide_eq_true hb.1
      have h2 := allB_iff.mp hb.2
      rw [← e2, h1]
      refine hwN_cg _ (fun i hi => ?_)
      have h3 : sgP f n (q + i) = wch w i := of_decide_eq_true (h2 i hi)
      rw [← sg i (by omega), h3, Nat.zero_add]
theorem wdB_none {B : Nat → Bool} (h : ∀ w, w < 10 → B w = false) : wdB B = -1 := by
  unfold wdB
  rw [h 0 (by omega), h 1 (by omega), h 2 (by omega), h 3 (by omega), h 4 (by omega), h 5 (by omega), h 6 (by omega), h 7 (by omega), h 8 (by omega), h 9 (by omega)]
  rfl
def wdI (w : Nat) : Int32 := if w = 10 then -1 else nI w
theorem wdB_of {B : Nat → Bool} {h : Nat} (h63 : h < 2 ^ 63) (hB : ∀ w, w < 10 → B w = decide (h = wW.getD w 0)) : wdB B = wdI (wdN (lN h)) := by
  have k0 : (lN h = 355278) ↔ h = 355278 := pk_lEQ h63 (by decide)
  have k1 : (lN h = 287015) ↔ h = 287015 := pk_lEQ h63 (by decide)
  have k2 : (lN h = 10197082) ↔ h = 10197082 := pk_lEQ h63 (by decide)
  have k3 : (lN h = 119318) ↔ h = 119318 := pk_lEQ h63 (by decide)
  have k4 : (lN h = 406822) ↔ h = 406822 := pk_lEQ h63 (by decide)
  have k5 : (lN h = 129368) ↔ h = 129368 := pk_lEQ h63 (by decide)
  have k6 : (lN h = 10728469) ↔ h = 10728469 := pk_lEQ h63 (by decide)
  have k7 : (lN h = 126216878256) ↔ h = 126216878256 := pk_lEQ h63 (by decide)
  have k8 : (lN h = 82451) ↔ h = 82451 := pk_lEQ h63 (by decide)
  have k9 : (lN h = 60115) ↔ h = 60115 := pk_lEQ h63 (by decide)
  have b0 : B 0 = decide (h = 355278) := hB 0 (by omega)
  have b1 : B 1 = decide (h = 287015) := hB 1 (by omega)
  have b2 : B 2 = decide (h = 10197082) := hB 2 (by omega)
  have b3 : B 3 = decide (h = 119318) := hB 3 (by omega)
  have b4 : B 4 = decide (h = 406822) := hB 4 (by omega)
  have b5 : B 5 = decide (h = 129368) := hB 5 (by omega)
  have b6 : B 6 = decide (h = 10728469) := hB 6 (by omega)
  have b7 : B 7 = decide (h = 126216878256) := hB 7 (by omega)
  have b8 : B 8 = decide (h = 82451) := hB 8 (by omega)
  have b9 : B 9 = decide (h = 60115) := hB 9 (by omega)
  unfold wdB wdN
  simp only [b0, b1, b2, b3, b4, b5, b6, b7, b8, b9, k0, k1, k2, k3, k4, k5, k6, k7, k8, k9]
  clear b0 b1 b2 b3 b4 b5 b6 b7 b8 b9 k0 k1 k2 k3 k4 k5 k6 k7 k8 k9 hB
  by_cases c0 : h = 355278
  · subst c0; decide
  by_cases c1 : h = 287015
  · subst c1; decide
  by_cases c2 : h = 10197082
  · subst c2; decide
  by_cases c3 : h = 119318
  · subst c3; decide
  by_cases c4 : h = 406822
  · subst c4; decide
  by_cases c5 : h = 129368
  · subst c5; decide
  by_cases c6 : h = 10728469
  · subst c6; decide
  by_cases c7 : h = 126216878256
  · subst c7; decide
  by_cases c8 : h = 82451
  · subst c8; decide
  by_cases c9 : h = 60115
  · subst c9; decide
  simp [c0, c1, c2, c3, c4, c5, c6, c7, c8, c9, wdI]
theorem LnD {c : Int32} (h : isL c = true) : isD c = false := by
  obtain ⟨v, v1, v2, e⟩ := isL_nI h
  unfold isD
  refine in_out (Or.inr ?_)
  rw [e]
  exact nI_lt (a := 57) (by omega) (by omega)
theorem tk_in {P : Int32 → Bool} {f : xN} {n q : Nat} : ∀ i, i < runE P f n q - q → P (f (q + i)) = true := fun i hi => runE_in (n := n) (n - q) q rfl (q + i) (by omega) (by omega)
/-- the word in hand -/
theorem wd_word {f : xN} {n p : Nat} (hp : p ≤ n) : wdB (spB f n (tkS f n p) (tkE f n p)) = wdI (wdN (tkJ f n p)) := by
  have hle := tkS_le (f := f) hp
  have hle2 := tkE_le (f := f) hp
  have hE := tkE_eq f n p
  have hJ := tkJ_eq f n p
  have hL : tkL f n p = tkE f n p - tkS f n p := rfl
  generalize tkL f n p = len at *
  generalize tkS f n p = q at *
  generalize tkE f n p = e at *
  generalize tkJ f n p = J at *
  have l4 : ∀ w, w < 10 → 4 ≤ xsl.getD w 0 ∧ xsl.getD w 0 ≤ 8 := fun w hw => ⟨(xsl_le ⟨w, hw⟩).2, (xsl_le ⟨w, hw⟩).1⟩
  by_cases c1 : q = n
  · rw [if_pos c1] at hJ hE
    rw [hJ, wdB_none (fun w hw => spB_len (by have := l4 w hw; omega))]
    decide
  rw [if_neg c1] at hJ hE
  by_cases c2 : isL (f q) = true
  · rw [if_pos c2] at hJ hE
    by_cases c3 : 9 < len
    · rw [if_pos c3] at hJ
      rw [hJ, wdB_none (fun w hw => spB_len (by have := l4 w hw; omega))]
      decide
    · rw [if_neg c3] at hJ
      have hin : ∀ i, i < e - q → isL (f (q + i)) = true := by rw [hE]; exact tk_in
      rw [hL] at hJ c3
      rw [hJ, hwJ_lN _ (by omega) hin]
      exact wdB_of (hw_lt (by omega) hin) (fun w hw => spB_hw hw hle2.2 hin)
  rw [if_neg c2] at hJ hE
  by_cases c3 : isD (f q) = true
  · rw [if_pos c3] at hJ
    rw [wdB_none]
    · rw [hJ]
      split <;> decide
    · intro w hw
      have h4 := l4 w hw
      cases hb : spB f n q e w with
      | false => rfl
      | true =>
        exfalso
        unfold spB at hb
        rw [Bool.and_eq_true] at hb
        have h2 : sgP f n (q + 0) = wch w 0 := of_decide_eq_true (allB_iff.mp hb.2 0 (by omega))
        rw [Nat.add_zero, sgP_lt (by omega)] at h2
        rcases wch_L ⟨w, hw⟩ ⟨0, by omega⟩ with z | z
        · have z : isL (wch w 0) = true := z
          rw [h2, LnD z] at c3
          cases c3
        · have z : xsl.getD w 0 ≤ 0 := z
          omega
  · rw [if_neg c3] at hJ hE
    rw [wdB_none (fun w hw => spB_len (by have := l4 w hw; omega)), hJ]
    split <;> decide
/-- the number in hand -/
theorem nh_num {f : xN} {n p : Nat} (hp : p ≤ n) : nhP f n (tkS f n p) (tkE f n p) = if tkJ f n p = -1 then tkN f n p else -1 := by
  have hle := tkS_le (f := f) hp
  have hle2 := tkE_le (f := f) hp
  have hE := tkE_eq f n p
  have hJ := tkJ_eq f n p
  have hL : tkL f n p = tkE f n p - tkS f n p := rfl
  have hN : tkN f n p = dgN f (tkS f n p) (tkE f n p - tkS f n p) := rfl
  generalize tkL f n p = len at *
  generalize tkS f n p = q at *
  generalize tkE f n p = e at *
  generalize tkJ f n p = J at *
  unfold nhP
  by_cases c1 : q = n
  · rw [if_pos c1] at hJ
    rw [sgP_ge (by omega), isD_m1, if_neg (by simp), hJ, if_neg (by decide)]
  rw [if_neg c1] at hJ hE
  rw [sgP_lt (by omega)]
  by_cases c2 : isL (f q) = true
  · rw [if_pos c2] at hJ hE
    rw [LnD c2, if_neg (by simp), if_neg]
    by_cases c3 : 9 < len
    · rw [if_pos c3] at hJ
      rw [hJ]; decide
    · rw [if_neg c3] at hJ
      have hin : ∀ i, i < e - q → isL (f (q + i)) = true := by rw [hE]; exact tk_in
      rw [hL] at hJ c3
      rw [hJ]
      exact hwJ_ne (by omega) hin (-1) (by decide)
  rw [if_neg c2] at hJ hE
  by_cases c3 : isD (f q) = true
  · rw [if_pos c3] at hJ
    rw [hL] at hJ
    by_cases c4 : 2 < e - q
    · rw [if_pos c4] at hJ
      rw [if_neg (by omega), hJ, if_neg (by decide)]
    · rw [if_neg c4] at hJ
      rw [if_pos ⟨c3, by omega⟩, hJ, if_pos rfl, hN]
  · rw [if_neg c3] at hJ
    rw [if_neg (fun z => c3 z.1), if_neg]
    rw [hJ]
    split <;> decide
/-- the separator, the end -/
theorem tk_sep {f : xN} {n p : Nat} (hp : p ≤ n) : (tkJ f n p = -3 ↔ sgP f n (tkS f n p) = 59) ∧ (tkJ f n p = -2 ↔ tkS f n p = n) := by
  have hle := tkS_le (f := f) hp
  have hle2 := tkE_le (f := f) hp
  have hE := tkE_eq f n p
  have hJ := tkJ_eq f n p
  have hL : tkL f n p = tkE f n p - tkS f n p := rfl
  generalize tkL f n p = len at *
  generalize tkS f n p = q at *
  generalize tkE f n p = e at *
  generalize tkJ f n p = J at *
  by_cases c1 : q = n
  · rw [if_pos c1] at hJ
    rw [hJ, sgP_ge (by omega)]
    exact ⟨⟨fun z => absurd z (by decide), fun z => absurd z (by decide)⟩, ⟨fun _ => c1, fun _ => rfl⟩⟩
  rw [if_neg c1] at hJ hE
  rw [sgP_lt (by omega)]
  by_cases c2 : isL (f q) = true
  · rw [if_pos c2] at hJ hE
    have n59 : ¬ f q = 59 := fun z => by rw [z] at c2; exact absurd c2 (by decide)
    have hne : ∀ x : Int64, x.toInt < 0 → x ≠ -4 → ¬ J = x := by
      intro x hx hx4
      by_cases c3 : 9 < len
      · rw [if_pos c3] at hJ
        rw [hJ]; exact fun z => hx4 z.symm
      · rw [if_neg c3] at hJ
        have hin : ∀ i, i < e - q → isL (f (q + i)) = true := by rw [hE]; exact tk_in
        rw [hL] at hJ c3
        rw [hJ]
        exact hwJ_ne (by omega) hin x hx
    exact ⟨⟨fun z => absurd z (hne _ (by decide) (by decide)), fun z => absurd z n59⟩, ⟨fun z => absurd z (hne _ (by decide) (by decide)), fun z => absurd z c1⟩⟩
  rw [if_neg c2] at hJ hE
  by_cases c3 : isD (f q) = true
  · rw [if_pos c3] at hJ
    have n59 : ¬ f q = 59 := fun z => by rw [z] at c3; exact absurd c3 (by decide)
    have hne : ∀ x : Int64, x ≠ -4 → x ≠ -1 → ¬ J = x := by
      intro x h4 h1
      rw [hJ]
      split
      · exact fun z => h4 z.symm
      · exact fun z => h1 z.symm
    exact ⟨⟨fun z => absurd z (hne _ (by decide) (by decide)), fun z => absurd z n59⟩, ⟨fun z => absurd z (hne _ (by decide) (by decide)), fun z => absurd z c1⟩⟩
  · rw [if_neg c3] at hJ
    rw [hJ]
    by_cases c4 : f q = 59
    · rw [if_pos c4]
      exact ⟨⟨fun _ => c4, fun _ => rfl⟩, ⟨fun z => absurd z (by decide), fun z => absurd z c1⟩⟩
    · rw [if_neg c4]
      exact ⟨⟨fun z => absurd z (by decide), fun z => absurd z c4⟩, ⟨fun z => absurd z (by decide), fun z => absurd z c1⟩⟩
/-! ===== only the bytes that were written count ===== -/
theorem runN_cg {P : Int32 → Bool} {f g : xN} {n : Nat} (h : ∀ i, i < n → f i = g i) : ∀ k p, runN P f n k p = runN P g n k p
  | 0, _ => rfl
  | k + 1, p => by
    rw [runN, runN, runN_cg h k (p + 1)]
    by_cases hp : p < n
    · rw [h p hp]
    · rw [if_neg (fun z => hp z.1), if_neg (fun z => hp z.1)]
theorem runE_cg {P : Int32 → Bool} {f g : xN} {n : Nat} (h : ∀ i, i < n → f i = g i) (p : Nat) : runE P f n p = runE P g n p := runN_cg h _ p
theorem hwJ_cg {f g : xN} {q : Nat} : ∀ k, (∀ i, i < k → f (q + i) = g (q + i)) → hwJ f q k = hwJ g q k
  | 0, _ => rfl
  | k + 1, h => by rw [hwJ, hwJ, hwJ_cg k (fun i hi => h i (by omega)), h k (by omega)]
theorem dgN_cg {f g : xN} {q : Nat} : ∀ k, (∀ i, i < k → f (q + i) = g (q + i)) → dgN f q k = dgN g q k
  | 0, _ => rfl
  | k + 1, h => by rw [dgN, dgN, dgN_cg k (fun i hi => h i (by omega)), h k (by omega)]
theorem tk_cg {f g : xN} {n p : Nat} (h : ∀ i, i < n → f i = g i) (hp : p ≤ n) : tkS f n p = tkS g n p ∧ tkE f n p = tkE g n p ∧ tkJ f n p = tkJ g n p ∧ tkN f n p = tkN g n p := by
  have hS : tkS f n p = tkS g n p := runE_cg h p
  have hle := tkS_le (f := g) hp
  have hE : tkE f n p = tkE g n p := by
    rw [tkE_eq, tkE_eq, hS]
    by_cases c : tkS g n p = n
    · rw [if_pos c, if_pos c]
    · rw [if_neg c, if_neg c, h _ (by omega), runE_cg h, runE_cg h]
  have hle2 := tkE_le (f := g) hp
  have hL : tkL f n p = tkL g n p := by unfold tkL; rw [hS, hE]
  have hL2 : tkL g n p = tkE g n p - tkS g n p := rfl
  refine ⟨hS, hE, ?_, ?_⟩
  · rw [tkJ_eq, tkJ_eq, hS, hL]
    by_cases c : tkS g n p = n
    · rw [if_pos c, if_pos c]
    · rw [if_neg c, if_neg c, h _ (by omega), hwJ_cg _ (fun i hi => h _ (by omega))]
  · unfold tkN
    rw [hS, hL, dgN_cg _ (fun i hi => h _ (by omega))]
theorem numsP_cg {f g : xN} {n : Nat} (h : ∀ i, i < n → f i = g i) (w : Nat) (RP RF : Int32) : ∀ k i ns p, p ≤ n → numsP f n w RP RF k i ns p = numsP g n w RP RF k i ns p
  | 0, _, _, _, _ => rfl
  | k + 1, i, ns, p, hp => by
    obtain ⟨h1, h2, h3, h4⟩ := tk_cg h hp
    rw [numsP, numsP, h1, h2, h3, h4, numsP_cg h w RP RF k (i + 1) _ _ (tkE_le hp).2]
theorem lineP_cg {f g : xN} {n p : Nat} (h : ∀ i, i < n → f i = g i) (hp : p ≤ n) (RP RF RM : Int32) : lineP f n p RP RF RM = lineP g n p RP RF RM := by
  obtain ⟨h1, h2, h3, h4⟩ := tk_cg h hp
  unfold lineP
  rw [h1, h2, h3, numsP_cg h _ _ _ _ _ _ _ (tkE_le hp).2]
theorem rdL_cg {f g : xN} {n : Nat} (h : ∀ i, i < n → f i = g i) : ∀ k i p s a, p ≤ n → rdL f n k i p s a = rdL g n k i p s a := by
  intro k
  induction k with
  | zero => intros; rfl
  | succ k ih =>
    intro i p s a hp
    have hl := lineP_cg h hp (s 0) (s 7) (s 9)
    cases hq : lineP g n p (s 0) (s 7) (s 9) with
    | inl e => rw [rdL_er hq, rdL_er (hl.trans hq)]
    | inr q =>
      obtain ⟨w, ns, p'⟩ := q
      have hp' := (lineP_ok hq).2 hp
      obtain ⟨h1, h2, h3, h4⟩ := tk_cg h hp'
      rw [rdL_go hq, rdL_go (hl.trans hq), h1, h2, h3, ih _ _ _ _ (tkE_le hp').2]
