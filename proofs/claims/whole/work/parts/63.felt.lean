/-! ===== the class: moods felt, the eldest cause ===== -/
theorem dt_gen {L : xLn} {M : xM} {n : Nat} {av : List Value} {X : List xE} {t : xN} {ta : Nat → xN} {P : xN → (Nat → xN) → Prop} (H : ∀ Q : Option Value → List xE → Prop, (∀ d da, P d da → Q none (dtW d da t ta)) → CT L M n 0 0 av X Q) : CT L M n 0 0 av X (dtQ t ta P) := H _ (fun d da h => ⟨rfl, d, da, h, rfl⟩)
theorem WD.mo {l m sp : Nat} {s : xN} {a : Nat → xN} (h : WD l m sp s a) : ∀ k, k < m → ∃ p kd t, p < 8 ∧ hasP (s 7) (nI p) = true ∧ kd < 3 ∧ t < 60 ∧ a 10 (3 * k) = nI p ∧ a 10 (3 * k + 1) = nI kd ∧ a 10 (3 * k + 2) = nI t := h.2.2.2.2.2.2.2.2.2
theorem RF_drop {l m sp g : Nat} {t : xN} {ta : Nat → xN} {s : xN} {a : Nat → xN} {d : xN} {da : Nat → xN} {N : xN} (hW : WD l m sp s a) (hT : RT m t ta s a) (h60 : g < 60) (hF : RF m g sp s a d da N) {d' : xN} (hd : d' 13 = d 13) (h12 : (g < sp ∧ d' 12 = d 12) ∨ (sp ≤ g ∧ d' 12 = d 12 &&& (ta 16 (g - sp) ^^^ -1))) : RF m (g + 1) sp s a d' da N := by
  refine ⟨fun k hk => by rw [hd]; exact hF.1 k hk, hF.2.1, fun k hk => ?_⟩
  have h3 := hF.2.2 k hk
  by_cases hkm : k < m
  · obtain ⟨p, kd, tt, -, -, -, ht, -, -, e3⟩ := hW.mo k hkm
    rw [e3, nI_clamp (by omega)] at h3 ⊢
    rcases h12 with ⟨q1, q2⟩ | ⟨q1, q2⟩
    · rw [q2, h3]
      congr 1
      simp only [eq_iff_iff]
      have : g ≤ tt + sp ∧ g + 1 ≤ tt + sp := by omega
      simp [this]
    · rw [q2, and_bit _ _ hk, not_bit _ hk, h3, hT.2.2.2.2 (g - sp) (by omega) k hk, e3]
      simp only [show (nI tt = nI (g - sp)) ↔ tt = g - sp from nI_eq (by omega) (by omega)]
      by_cases hz : tt = g - sp
      · have : ¬ g + 1 ≤ tt + sp := by omega
        rw [show decide (k < m ∧ tt = g - sp) = true by simp [hz, hkm], show decide (k < m ∧ ¬ N (41 + k) = -1 ∧ N (67 + k) = 0 ∧ hasP (s 30) (a 10 (3 * k + 1)) = true ∧ g + 1 ≤ tt + sp) = false by simp only [decide_eq_false_iff_not]; rintro ⟨-, -, -, -, z⟩; exact this z]
        simp
      · have : (g + 1 ≤ tt + sp) ↔ (g ≤ tt + sp) := by omega
        simp [this, hz]
  · have : hasP (d' 12) (nI k) = false := by
      rw [show decide (k < m ∧ ¬ N (41 + k) = -1 ∧ N (67 + k) = 0 ∧ hasP (s 30) (a 10 (3 * k + 1)) = true ∧ g ≤ (a 10 (3 * k + 2)).toNatClampNeg + sp) = false by simp [hkm]] at h3
      rcases h12 with ⟨q1, q2⟩ | ⟨q1, q2⟩
      · rw [q2, h3]
      · rw [q2, and_bit _ _ hk, h3]; rfl
    rw [this]
    simp [hkm]
theorem cD_drop (L : xLn) (d : xN) (da : Nat → xN) (t : xN) (ta : Nat → xN) (l m sp g : Nat) (s : xN) (a : Nat → xN) (N : xN) (hW : WD l m sp s a) (hT : RT m t ta s a) (hL : RLw s d) (hg : N 0 = nI g) (h60 : g < 60) (hA : RA d da N) (hF : RF m g sp s a d da N) : CT L mX0_dropStaleCauses 0 0 0 [.ref 0] (dtW d da t ta) (dtQ t ta (fun d' da' => da' = da ∧ (∀ i, i ≠ 12 → d' i = d i) ∧ RF m (g + 1) sp s a d' da N)) := by
  refine dt_gen fun Q fin => ?_
  refine CT.of rfl (Nat.le_of_ble_eq_true rfl) (Nat.le_of_ble_eq_true rfl) ?_
  obtain ⟨hs1, hs2, hs3⟩ := hW.2.2.2.1
  have e2 : d 2 = nI sp := hL.2.trans hs3
  have e3 : d 3 = nI g := hA.1.trans hg
  refine AJ.run kX0_dropStaleCauses [] 60 ⟨fun h => absurd h ?_, fun _ => ⟨fun h => fin d da ⟨rfl, fun _ _ => rfl, RF_drop hW hT h60 hF rfl (Or.inl ⟨?_, rfl⟩)⟩, fun h => ⟨g - sp, ?_, by omega, fin (upd d 12 (d 12 &&& (ta 16 (g - sp) ^^^ -1))) da ⟨rfl, fun i hi => pk_un hi, RF_drop hW hT h60 hF (pk_un (by omega)) (Or.inr ⟨?_, pk_us⟩)⟩⟩⟩⟩
  · show ¬ d 2 < 0
    rw [e2]; exact nI_pos (by omega)
  · have h : d 3 < d 2 := h
    rw [e2, e3, nI_ltI (by omega) (by omega)] at h
    exact h
  · have h : ¬ d 3 < d 2 := h
    rw [e2, e3, nI_ltI (by omega) (by omega)] at h
    show d 3 - d 2 = nI (g - sp)
    rw [e2, e3, pk_sub (by omega)]
  · have h : ¬ d 3 < d 2 := h
    rw [e2, e3, nI_ltI (by omega) (by omega)] at h
    omega
theorem RF_feel {l m sp g k p tt : Nat} {s : xN} {a : Nat → xN} {d : xN} {da : Nat → xN} {N : xN} (hm : m ≤ 26) (hk : k < m) (hp : p < l) (hl : l ≤ 12) (hsp : 1 ≤ sp) (h41 : N (41 + k) = -1) (h67 : N (67 + k) = 0) (ht : a 10 (3 * k + 2) = nI g) (h60 : g < 60) (hF : RF m (g + 1) sp s a d da N) {d' : xN} {da' : Nat → xN} (hd : d' 13 = d 13) (h10 : da' 10 = upd (da 10) k (nI p)) (h11 : da' 11 = upd (da 11) p (da 11 p ||| 1 <<< (nI k &&& 31))) (h12 : (hasP (s 30) (a 10 (3 * k + 1)) = true ∧ d' 12 = d 12 ||| 1 <<< (nI k &&& 31)) ∨ (hasP (s 30) (a 10 (3 * k + 1)) = false ∧ d' 12 = d 12)) : RF m (g + 1) sp s a d' da' (upd N (41 + k) (nI p)) := by
  refine ⟨fun i hi => ?_, fun p' hp' i hi => ?_, fun i hi => ?_⟩
  · rw [hd, h10, pk_un (show 67 + i ≠ 41 + k by omega)]
    refine ⟨?_, (hF.1 i hi).2⟩
    by_cases e : i = k
    · subst e; rw [pk_us, pk_us]
    · rw [pk_un e, pk_un (by omega)]; exact (hF.1 i hi).1
  · rw [h11]
    by_cases e : p' = p
    · subst e
      rw [pk_us, set_bit _ (by omega) hi, hF.2.1 p' hp' i hi]
      by_cases e2 : i = k
      · subst e2
        rw [pk_us]
        simp [hk]
      · rw [pk_un (by omega)]
        simp [e2]
    · rw [pk_un e, hF.2.1 p' hp' i hi]
      by_cases e2 : i = k
      · subst e2
        rw [pk_us, h41]
        have h1 : ¬ (-1 : Int32) = nI p' := fun q => nI_m1 (by omega) q.symm
        have h2 : ¬ nI p = nI p' := by rw [nI_eq (by omega) (by omega)]; omega
        simp [h1, h2]
      · rw [pk_un (by omega)]
  · rw [pk_un (show 67 + i ≠ 41 + k by omega)]
    have h3 := hF.2.2 i hi
    by_cases e2 : i = k
    · subst e2
      rw [h41, ht, nI_clamp (by omega)] at h3
      rw [pk_us, ht, nI_clamp (by omega)]
      have h1 : ¬ nI p = -1 := nI_m1 (by omega)
      have h2 : g + 1 ≤ g + sp := by omega
      rcases h12 with ⟨q1, q2⟩ | ⟨q1, q2⟩
      · rw [q2, set_bit _ (by omega) hi]
        simp [h1, h2, q1, h67, hk]
      · rw [q2, h3]
        simp [q1]
    · rw [pk_un (by omega)]
      rcases h12 with ⟨q1, q2⟩ | ⟨q1, q2⟩
      · rw [q2, set_bit _ (by omega) hi, h3]
        simp [e2]
      · rw [q2, h3]
theorem cD_feelMood (L : xLn) (d : xN) (da : Nat → xN) (t : xN) (ta : Nat → xN) (l m sp g k p : Nat) (s : xN) (a : Nat → xN) (N : xN) (hW : WD l m sp s a) (hT : RT m t ta s a) (hL : RLw s d) (h60 : g < 60) (hk : k < m) (hp : p < l) (h41 : N (41 + k) = -1) (h67 : N (67 + k) = 0) (ht : a 10 (3 * k + 2) = nI g) (hF : RF m (g + 1) sp s a d da N) : CT L mX0_feelMood 1 0 0 [.ref 0, .int (nI k), .int (nI p)] (dtW d da t ta) (dtQ t ta (fun d' da' => (∀ i, i ≠ 10 → i ≠ 11 → da' i = da i) ∧ (∀ i, i ≠ 12 → d' i = d i) ∧ RF m (g + 1) sp s a d' da' (upd N (41 + k) (nI p)))) := by
  refine dt_gen fun Q fin => ?_
  refine CT.of rfl (Nat.le_of_ble_eq_true rfl) (Nat.le_of_ble_eq_true rfl) ?_
  obtain ⟨l2, l12, hs0⟩ := hW.1
  have hm := hW.2.1
  have t0 : t 0 = nI l := hT.1.1.trans hs0
  have hsp := hW.2.2.2.1.1
  refine AJ.run kX0_feelMood [] 30 ?_
  refine AJ.callP kX0_feelMood (cT_isPlace L t ta (nI p) l t0 (by omega) l12) bX6_isPlace rfl (by decide +kernel) [13, 14, 15, 16, 17, 18, 19, 20, 21, 22] [] rfl rfl rfl rfl rfl rfl rfl rfl rfl rfl ?_
  rintro r rfl
  rw [in_nI' (by omega) (by omega), show decide (p ≤ l - 1) = true by simp; omega]
  have e14 : d 1 >>> (ta 14 k &&& 31) &&& 1 = 1 ↔ hasP (s 30) (a 10 (3 * k + 1)) = true := by rw [hasP_iff, hL.1, (hT.2.2.2.1 k hk).2.1]
  refine AJ.run kX0_feelMood [] 60 ⟨fun _ => ⟨k, rfl, by omega, p, rfl, by omega, p, rfl, by omega, k, rfl, by omega, fun h => ?_, fun h => ?_⟩, fun h => absurd h (by decide)⟩
  · have h : ¬ d 1 >>> (ta 14 k &&& 31) &&& 1 = 1 := h
    rw [e14] at h
    exact fin d (va_up (va_up da 10 (upd (da 10) k (nI p))) 11 (upd (da 11) p (da 11 p ||| 1 <<< (nI k &&& 31)))) ⟨fun i h1 h2 => by rw [va_up_ne _ _ h2, va_up_ne _ _ h1], fun _ _ => rfl, RF_feel (tt := 0) hm hk hp l12 hsp h41 h67 ht h60 hF rfl rfl rfl (Or.inr ⟨by simpa using h, rfl⟩)⟩
  · have h : d 1 >>> (ta 14 k &&& 31) &&& 1 = 1 := h
    rw [e14] at h
    exact fin (upd d 12 (d 12 ||| 1 <<< (nI k &&& 31))) (va_up (va_up da 10 (upd (da 10) k (nI p))) 11 (upd (da 11) p (da 11 p ||| 1 <<< (nI k &&& 31)))) ⟨fun i h1 h2 => by rw [va_up_ne _ _ h2, va_up_ne _ _ h1], fun i hi => pk_un hi, RF_feel (tt := 0) hm hk hp l12 hsp h41 h67 ht h60 hF rfl rfl rfl (Or.inl ⟨h, rfl⟩)⟩
theorem feltL_hi (mo N : xN) : ∀ k i, 41 + k ≤ i → feltL mo N k i = N i
  | 0, _, _ => rfl
  | k + 1, i, h => by
    rw [feltL, feltF]
    split
    · rw [pk_un (by omega), feltL_hi mo N k i (by omega)]
    · exact feltL_hi mo N k i (by omega)
theorem feltL_none (mo N : xN) : ∀ k, (∀ i, i < k → ¬ mo (3 * i + 2) = N 0) → k ≤ 26 → feltL mo N k = N
  | 0, _, _ => rfl
  | k + 1, h, hk => by
    rw [feltL, feltL_none mo N k (fun i hi => h i (by omega)) (by omega), feltF, if_neg (h k (by omega))]
theorem plP_same {N B : xN} {q : Nat} (hq : q < 8) (hN : abO N) (e : ∀ i, i < 25 → B i = N i) : plP B q = plP N q := by
  unfold plP
  rw [e (17 + q) (by omega), e (9 + q) (by omega)]
  rcases hN q hq with h | h | h
  · rw [if_pos h, if_pos h]
  · rw [h, nI_clamp (by omega), e (1 + 0) (by omega)]
  · rw [h, nI_clamp (by omega), e (1 + 1) (by omega)]
/-- where one is, is a place -/
theorem plP_in {l m sp g e : Nat} {s : xN} {a : Nat → xN} {N : xN} (hW : WD l m sp s a) (hI : IVa l g s N) (hp : IVp e s a N) {q : Nat} (hq : q < 8) (hf : hasP (s 7) (nI q) = true) : ∃ p, p < l ∧ plP N q = nI p := by
  obtain ⟨b, h, hb, hh, e1, e2⟩ := hW.2.2.2.2.2.2.2.2.1 q hq hf
  obtain ⟨p1, p2, p3, p4⟩ := hp q hq
  unfold plP
  rcases p1 with p1 | ⟨k, hk, p1, p5, -⟩
  · rw [if_pos p1, p3]
    split
    · exact ⟨b, hb, e1⟩
    · exact ⟨h, hh, e2⟩
  · rw [p1, if_neg (nI_m1 (by omega)), nI_clamp (by omega)]
    exact (hI.2 k hk).1 p5
