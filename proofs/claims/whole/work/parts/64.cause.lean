/-! ===== the class: all moods of a minute, the eldest cause of a place ===== -/
/-- the moods' part alone may have changed -/
def smM (d d' : xN) (da da' : Nat → xN) : Prop := (∀ i, i ≠ 10 → i ≠ 11 → da' i = da i) ∧ ∀ i, i ≠ 12 → d' i = d i
theorem smM.rf (d : xN) (da : Nat → xN) : smM d d da da := ⟨fun _ _ _ => rfl, fun _ _ => rfl⟩
theorem smM.tr {d d1 d2 : xN} {da da1 da2 : Nat → xN} (h : smM d d1 da da1) (h2 : smM d1 d2 da1 da2) : smM d d2 da da2 := ⟨fun i a b => (h2.1 i a b).trans (h.1 i a b), fun i a => (h2.2 i a).trans (h.2 i a)⟩
theorem smM.A {d d' : xN} {da da' : Nat → xN} {N : xN} (h : smM d d' da da') (hA : RA d da N) : RA d' da' N := by
  refine ⟨by rw [h.2 3 (by omega)]; exact hA.1, fun k hk => ?_⟩
  rw [h.1 4 (by omega) (by omega), h.1 5 (by omega) (by omega), h.2 7 (by omega)]
  exact hA.2 k hk
theorem smM.P {d d' : xN} {da da' : Nat → xN} {N : xN} (h : smM d d' da da') (hP : RP da N) : RP da' N := by
  refine ⟨fun k hk => ?_, fun q hq => ?_⟩
  · rw [h.1 6 (by omega) (by omega)]; exact hP.1 k hk
  · rw [h.1 8 (by omega) (by omega), h.1 9 (by omega) (by omega)]; exact hP.2 q hq
theorem smM.H {d d' : xN} {da da' : Nat → xN} {N : xN} (h : smM d d' da da') (hH : RH d da N) : RH d' da' N := by
  refine ⟨by rw [h.2 20 (by omega)]; exact hH.1, fun i hi => ?_⟩
  rw [h.1 20 (by omega) (by omega), h.1 21 (by omega) (by omega), h.1 22 (by omega) (by omega), h.1 23 (by omega) (by omega)]
  exact hH.2 i hi
theorem smM.L {s d d' : xN} {da da' : Nat → xN} (h : smM d d' da da') (hL : RLw s d) : RLw s d' := by
  refine ⟨by rw [h.2 1 (by omega)]; exact hL.1, by rw [h.2 2 (by omega)]; exact hL.2⟩
set_option maxHeartbeats 1000000 in
theorem cD_feelMoods (L : xLn) (d : xN) (da : Nat → xN) (t : xN) (ta : Nat → xN) (l m sp g e : Nat) (s : xN) (a : Nat → xN) (N : xN) (hW : WD l m sp s a) (hT : RT m t ta s a) (hL : RLw s d) (h60 : g < 60) (hI : IVa l g s N) (hIp : IVp e s a N) (hIm : IVm l m g a N) (hA : RA d da N) (hP : RP da N) (hF : RF m (g + 1) sp s a d da N) : CT L mX0_feelMoods 2 0 0 [.ref 0] (dtW d da t ta) (dtQ t ta (fun d' da' => smM d d' da da' ∧ RF m (g + 1) sp s a d' da' (feltL (a 10) N m))) := by
  refine dt_gen fun Q fin => ?_
  refine CT.of rfl (Nat.le_of_ble_eq_true rfl) (Nat.le_of_ble_eq_true rfl) ?_
  have hm := hW.2.1
  have hg := hI.1.1
  have e3 : d 3 = nI g := hA.1.trans hg
  have bit : ∀ k, k < m → (hasP (ta 16 g) (nI k) = true ↔ a 10 (3 * k + 2) = N 0) := by
    intro k hk
    rw [hT.2.2.2.2 g h60 k (by omega), hg]
    simp [hk]
  have loop : ∀ (n k : Nat) (d' : xN) (da' : Nat → xN), k + n = m → smM d d' da da' → RF m (g + 1) sp s a d' da' (feltL (a 10) N k) → AJ L mX0_feelMoods 2 0 0 Q (dtW d da t ta).length (0, 0) 20 [some (.ref 0), some (.int (ta 16 g)), some (.int (nI k))] [] (dtW d' da' t ta) := by
    intro n
    induction n with
    | zero =>
      intro k d' da' hk h1 h2
      obtain rfl : k = m := by omega
      refine AJ.run kX0_feelMoods [20] 30 ⟨fun _ => fin d' da' ⟨h1, h2⟩, fun hz => absurd ?_ hz⟩
      show t 12 ≤ nI k
      rw [hT.1.2.2.2.2.2.2.2]; exact nI_le (by omega) (by omega)
    | succ n ih =>
      intro k d' da' hk h1 h2
      have nxt := fun d'' da'' x y => ih (k + 1) d'' da'' (by omega) x y
      rw [nI_succ, feltL] at nxt
      have hlo : ∀ i, i < 41 → feltL (a 10) N k i = N i := fun i hi => feltL_out (a 10) N (Or.inl hi) k (by omega)
      have h41 : feltL (a 10) N k (41 + k) = N (41 + k) := feltL_hi (a 10) N k (41 + k) (by omega)
      have h67 : feltL (a 10) N k (67 + k) = N (67 + k) := feltL_hi (a 10) N k (67 + k) (by omega)
      obtain ⟨p, kd, tt, hp8, hpf, -, ht, e1, -, e2⟩ := hW.mo k (by omega)
      generalize feltL (a 10) N k = B at h2 nxt hlo h41 h67
      have hb := bit k (by omega)
      refine AJ.run kX0_feelMoods [20] 60 ⟨fun hz => absurd hz ?_, fun hz => ⟨fun h3 => ?_, fun h3 => ⟨k, rfl, by omega, ?_⟩⟩⟩
      · show ¬ t 12 ≤ nI k
        rw [hT.1.2.2.2.2.2.2.2]; exact nI_ge (by omega) (by omega)
      · have h3 : ¬ ta 16 g >>> (nI k &&& 31) &&& 1 = 1 := h3
        rw [hasP_iff, hb, ← hlo 0 (by omega)] at h3
        rw [feltF, if_neg h3] at nxt
        exact nxt d' da' h1 h2
      · have h3 : ta 16 g >>> (nI k &&& 31) &&& 1 = 1 := h3
        rw [hasP_iff, hb] at h3
        have h0 := h3
        rw [← hlo 0 (by omega)] at h3
        rw [feltF, if_pos h3] at nxt
        have e13 : ta 13 k = nI p := (hT.2.2.2.1 k (by omega)).1.trans e1
        have hIB : IVp e s a B := hIp.same (fun i h _ => hlo i (by omega))
        have hIA : IVa l g s B := hI.same (fun i h => hlo i (by omega))
        obtain ⟨pp, hpp, epp⟩ := plP_in hW hIA hIB hp8 hpf
        rw [e1, nI_clamp (by omega), epp] at nxt
        have cp := cD_placeOf L d' da' t ta m e s a B p hp8 hT hpf ((h1.A hA).same (fun i h => hlo i (by omega))) ((h1.P hP).same (fun i _ h => hlo i (by omega))) hIB
        rw [epp, ← e13] at cp
        refine AJ.callF kX0_feelMoods cp bX0_placeOf rfl (by decide +kernel) [.int (nI k), .ref 0] rfl rfl rfl rfl rfl rfl rfl rfl ?_
        rintro r Y ⟨rfl, rfl⟩
        refine ⟨rfl, rfl, ?_⟩
        rw [hg] at h0
        have u1 : N (41 + k) = -1 := ((hIm k (by omega)).2.2.2.2 (by omega) g (Nat.le_refl _) h60 h0)
        have u2 : N (67 + k) = 0 := (hIm k (by omega)).2.2.1 u1
        have cf := cD_feelMood L d' da' t ta l m sp g k pp s a B hW hT (h1.L hL) h60 (by omega) hpp (h41.trans u1) (h67.trans u2) h0 h2
        refine AJ.run kX0_feelMoods [20] 30 ?_
        refine AJ.callF kX0_feelMoods cf bX0_feelMood rfl (by decide +kernel) [] rfl rfl rfl rfl rfl rfl rfl rfl ?_
        rintro r Y ⟨rfl, d2, da2, ⟨q1, q2, q3⟩, rfl⟩
        refine ⟨rfl, rfl, ?_⟩
        exact AJ.run kX0_feelMoods [20] 30 (nxt d2 da2 (h1.tr ⟨q1, q2⟩) q3)
  refine AJ.run kX0_feelMoods [20] 60 ⟨g, e3, h60, fun h => loop m 0 d da (by omega) (smM.rf d da) hF, fun h => ?_⟩
  have h : ta 16 g = 0 := h
  have := feltL_none (a 10) N m (fun i hi => by rw [← bit i hi, h, zero_bit (by omega)]; simp) hm
  refine fin d da ⟨smM.rf d da, ?_⟩
  rw [this]; exact hF
theorem isC_iff {l m sp g k v : Nat} {s : xN} {a : Nat → xN} {d : xN} {da : Nat → xN} {N : xN} (hW : WD l m sp s a) (hg : N 0 = nI g) (h60 : g < 60) (hv : v < l) (hk : k < m) (hF : RF m (g + 1) sp s a d da N) : hasP (da 11 v &&& d 12) (nI k) = isC (s 30) (s 31) (a 10) N (nI v) k := by
  have hm := hW.2.1
  have hl := hW.1.2.1
  obtain ⟨p, kd, tt, -, -, -, ht, -, -, e2⟩ := hW.mo k hk
  obtain ⟨s1, s2, s3⟩ := hW.2.2.2.1
  rw [and_bit _ _ (by omega), hF.2.1 v (by omega) k (by omega), hF.2.2 k (by omega)]
  unfold isC
  rw [e2, s3, hg, nI_clamp (by omega)]
  have e : (nI g - nI tt < nI sp) ↔ g + 1 ≤ tt + sp := by
    rw [i32_lt, pk_sub_toInt (by omega) (by omega), nI_toInt (by omega)]
    omega
  simp only [e]
  by_cases h1 : N (41 + k) = nI v
  · have : ¬ N (41 + k) = -1 := by rw [h1]; exact nI_m1 (by omega)
    have n1 : ¬ nI v = -1 := nI_m1 (by omega)
    simp only [h1, hk, n1, not_false_eq_true, true_and, decide_true, Bool.true_and]
    by_cases h2 : N (67 + k) = 0 <;> by_cases h3 : hasP (s 30) (a 10 (3 * k + 1)) = true <;> simp [h2, h3]
  · simp [h1]
set_option maxHeartbeats 1000000 in
theorem cD_eldestCause (L : xLn) (d : xN) (da : Nat → xN) (t : xN) (ta : Nat → xN) (l m sp g v : Nat) (s : xN) (a : Nat → xN) (N : xN) (hW : WD l m sp s a) (hT : RT m t ta s a) (hg : N 0 = nI g) (h60 : g < 60) (hv : v < l) (hF : RF m (g + 1) sp s a d da N) : CT L mX0_eldestCause 1 0 0 [.ref 0, .int (nI v)] (dtW d da t ta) (fun r Y => r = some (.int (caP (s 30) (s 31) (a 10) N (nI v) m)) ∧ Y = dtW d da t ta) := by
  obtain ⟨l2, l12, hs0⟩ := hW.1
  have hm := hW.2.1
  have t0 : t 0 = nI l := hT.1.1.trans hs0
  have hC : ∀ k, k < m → hasP (da 11 v &&& d 12) (nI k) = isC (s 30) (s 31) (a 10) N (nI v) k := fun k hk => isC_iff hW hg h60 hv hk hF
  obtain ⟨G, hG⟩ : ∃ G : Nat → Int32, G = fun k => caP (s 30) (s 31) (a 10) N (nI v) k := ⟨_, rfl⟩
  have G0 : G 0 = -1 := by rw [hG]; rfl
  have Gs : ∀ k, k < m → G (k + 1) = if hasP (da 11 v &&& d 12) (nI k) = true ∧ (G k = -1 ∨ a 10 (3 * k + 2) < a 10 (3 * (G k).toNatClampNeg + 2)) then nI k else G k := by
    intro k hk
    rw [hC k hk, hG]
    rfl
  have Gi : ∀ k, G k = -1 ∨ ∃ c, c < k ∧ G k = nI c := by
    intro k; rw [hG]; exact caP_in _ _ _ _ _ k
  rw [show caP (s 30) (s 31) (a 10) N (nI v) m = G m by rw [hG]]
  clear hG hC
  refine CT.of rfl (Nat.le_of_ble_eq_true rfl) (Nat.le_of_ble_eq_true rfl) ?_
  have loop : ∀ (n k : Nat) (x5 : Option Value), k + n = m → oI x5 → AJ L mX0_eldestCause 1 0 0 (fun r Y => r = some (.int (G m)) ∧ Y = dtW d da t ta) (dtW d da t ta).length (0, 0) 38 [some (.ref 0), some (.int (nI v)), some (.int (da 11 v &&& d 12)), some (.int (G k)), some (.int (nI k)), x5] [] (dtW d da t ta) := by
    intro n
    induction n with
    | zero =>
      intro k x5 hk hx
      obtain rfl : k = m := by omega
      refine AJ.run kX0_eldestCause [38] 30 ⟨fun _ => ⟨rfl, rfl⟩, fun hz => absurd ?_ hz⟩
      show t 12 ≤ nI k
      rw [hT.1.2.2.2.2.2.2.2]; exact nI_le (by omega) (by omega)
    | succ n ih =>
      intro k x5 hk hx
      have nxt := fun x5' h => ih (k + 1) x5' (by omega) h
      rw [nI_succ, Gs k (by omega)] at nxt
      have tk : ta 15 k = a 10 (3 * k + 2) := (hT.2.2.2.1 k (by omega)).2.2
      refine AJ.run kX0_eldestCause [38] 100 ⟨fun hz => absurd hz ?_, fun hz => ⟨fun h3 => ⟨fun _ => ?_, fun hz => absurd rfl hz⟩, fun h3 => ⟨fun hz => absurd hz (by decide), fun _ => ⟨fun h4 => ?_, fun h4 => ?_⟩⟩⟩⟩
      · show ¬ t 12 ≤ nI k
        rw [hT.1.2.2.2.2.2.2.2]; exact nI_ge (by omega) (by omega)
      · have h3 : ¬ (da 11 v &&& d 12) >>> (nI k &&& 31) &&& 1 = 1 := h3
        rw [hasP_iff] at h3
        have := nxt (some (.int 0)) (Or.inr ⟨_, rfl⟩)
        rw [if_neg (by rintro ⟨z, -⟩; exact h3 z)] at this
        exact this
      · have h3 : (da 11 v &&& d 12) >>> (nI k &&& 31) &&& 1 = 1 := h3
        rw [hasP_iff] at h3
        have h4 : G k = -1 := h4
        have := nxt (some (.int 1)) (Or.inr ⟨_, rfl⟩)
        rw [if_pos ⟨h3, Or.inl h4⟩] at this
        exact this
      · have h3 : (da 11 v &&& d 12) >>> (nI k &&& 31) &&& 1 = 1 := h3
        rw [hasP_iff] at h3
        have h4 : ¬ G k = -1 := h4
        rcases Gi k with h5 | ⟨c, hc, h5⟩
        · exact absurd h5 h4
        have tc : ta 15 c = a 10 (3 * c + 2) := (hT.2.2.2.1 c (by omega)).2.2
        refine ⟨k, rfl, by omega, c, h5, by omega, fun h6 => ?_, fun h6 => ?_⟩
        · have h6 : ta 15 c ≤ ta 15 k := h6
          have := nxt (some (.int 1)) (Or.inr ⟨_, rfl⟩)
          rw [if_neg ?_] at this
          · exact this
          · rintro ⟨-, z | z⟩
            · exact h4 z
            · rw [h5, nI_clamp (by omega), ← tc, ← tk] at z
              simp only [i32_lt, i32_le] at h6 z
              omega
        · have h6 : ¬ ta 15 c ≤ ta 15 k := h6
          have := nxt (some (.int 1)) (Or.inr ⟨_, rfl⟩)
          have hlt : a 10 (3 * k + 2) < a 10 (3 * (G k).toNatClampNeg + 2) := by
            rw [h5, nI_clamp (by omega), ← tc, ← tk]
            simp only [i32_lt, i32_le] at h6 ⊢
            omega
          rw [if_pos ⟨h3, Or.inr hlt⟩] at this
          exact this
  have none_ : da 11 v &&& d 12 = 0 → G m = -1 := by
    intro h
    have : ∀ k, k ≤ m → G k = -1 := by
      intro k
      induction k with
      | zero => exact fun _ => G0
      | succ k ih =>
        intro hk
        rw [Gs k (by omega), if_neg (by rw [h, zero_bit (by omega)]; simp), ih (by omega)]
    exact this m (Nat.le_refl _)
  refine AJ.run kX0_eldestCause [] 30 ?_
  refine AJ.callP kX0_eldestCause (cT_isPlace L t ta (nI v) l t0 (by omega) l12) bX6_isPlace rfl (by decide +kernel) [13, 14, 15, 16, 17, 18, 19, 20, 21, 22] [] rfl rfl rfl rfl rfl rfl rfl rfl rfl rfl ?_
  rintro r rfl
  rw [in_nI' (by omega) (by omega), show decide (v ≤ l - 1) = true by simp; omega]
  refine AJ.run kX0_eldestCause [38] 60 ⟨fun h => absurd h (by decide), fun _ => ⟨v, rfl, by omega, fun h => ?_, fun h => ⟨?_, rfl⟩⟩⟩
  · have := loop m 0 none (by omega) (Or.inl rfl)
    rw [G0] at this
    exact this
  · have h : da 11 v &&& d 12 = 0 := h
    rw [none_ h]
