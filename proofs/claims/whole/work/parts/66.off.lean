/-! ===== the class: people get off ===== -/
/-- the people's part alone may have changed -/
def smP (da da' : Nat → xN) : Prop := ∀ i, i ≠ 6 → i ≠ 8 → da' i = da i
theorem offT_un {B : xN} {k q i : Nat} (h : i ≠ 9 + q ∧ i ≠ 25 + q ∧ i ≠ 17 + q) : offT B k q i = B i := by
  unfold offT; (try dsimp only)
  rw [pk_un h.2.2, pk_un h.2.1, pk_un h.1]
theorem offU_un {B : xN} {k q i : Nat} (h : i ≠ 9 + q ∧ i ≠ 25 + q ∧ i ≠ 17 + q) : offU B k q i = B i := by
  unfold offU; (try dsimp only)
  rw [pk_un h.2.2, pk_un h.2.1, pk_un h.1]
theorem offT_9 {B : xN} {k q : Nat} (hk : k < 2) (hq : q < 8) : offT B k q (9 + q) = B (1 + k) ∧ offT B k q (25 + q) = B 0 ∧ offT B k q (17 + q) = -1 := by
  unfold offT; (try dsimp only)
  refine ⟨?_, ?_, ?_⟩
  · rw [pk_un (by omega), pk_un (by omega), pk_us]
  · rw [pk_un (by omega), pk_us, pk_un (by omega)]
  · rw [pk_us]
theorem offU_9 {B : xN} {k q : Nat} (hq : q < 8) : offU B k q (9 + q) = B (9 + q) ∧ offU B k q (25 + q) = -1 ∧ offU B k q (17 + q) = nI k := by
  unfold offU; (try dsimp only)
  refine ⟨?_, ?_, ?_⟩
  · rw [pk_un (by omega), pk_un (by omega), pk_us]
  · rw [pk_un (by omega), pk_us]
  · rw [pk_us]
theorem IVp_offS {e g k q : Nat} {s : xN} {a : Nat → xN} {S : xN × Int32} (hk : k < 2) (hq : q < 8) (h0 : S.1 0 = nI g) (hg : g < e) (h60 : g < 60) (h5 : hasP (s 5) (nI k) = true) (h : IVp e s a S.1) : IVp e s a (offS (s 7) (a 8) k q S).1 := by
  unfold offS
  split
  · next hc =>
    obtain ⟨c1, c2⟩ := hc
    split
    · next hh =>
      show IVp e s a (offT S.1 k q)
      intro p hp
      by_cases ep : p = q
      · subst ep
        obtain ⟨o1, o2, o3⟩ := offT_9 (B := S.1) hk hp
        refine ⟨Or.inl o3, fun z => (by rw [c1] at z; cases z), ?_, Or.inr ⟨g, hg, ?_⟩⟩
        · rw [o1, o2, h0, if_neg (nI_m1 (by omega)), hh]
        · rw [o2, h0]
      · rw [offT_un (i := 17 + p) (by omega), offT_un (i := 25 + p) (by omega), offT_un (i := 33 + p) (by omega), offT_un (i := 9 + p) (by omega)]
        exact h p hp
    · next hh =>
      show IVp e s a (offU S.1 k q)
      intro p hp
      by_cases ep : p = q
      · subst ep
        obtain ⟨o1, o2, o3⟩ := offU_9 (B := S.1) (k := k) hp
        have hz := h p hp
        have h25 : S.1 (25 + p) = -1 := by
          rcases hz.1 with z | ⟨k', -, z, -, -, z2⟩
          · rw [c2] at z; exact absurd z (nI_m1 (by omega))
          · exact z2
        refine ⟨Or.inr ⟨k, hk, o3, h5, c1, o2⟩, fun z => (by rw [c1] at z; cases z), ?_, Or.inl o2⟩
        rw [o1, o2, if_pos rfl, hz.2.2.1, if_pos h25]
      · rw [offU_un (i := 17 + p) (by omega), offU_un (i := 25 + p) (by omega), offU_un (i := 33 + p) (by omega), offU_un (i := 9 + p) (by omega)]
        exact h p hp
  · exact h
theorem IVp_offL {e g k : Nat} {s : xN} {a : Nat → xN} {N : xN} (hk : k < 2) (h0 : N 0 = nI g) (hg : g < e) (h60 : g < 60) (h5 : hasP (s 5) (nI k) = true) (h : IVp e s a N) : ∀ q, q ≤ 8 → IVp e s a (offL (s 7) (a 8) k N q).1
  | 0, _ => h
  | q + 1, hq => IVp_offS hk (by omega) ((offL_out (s 7) (a 8) N (by omega) q (by omega)).trans h0) hg h60 h5 (IVp_offL hk h0 hg h60 h5 h q (by omega))
theorem IVp.fo {e k : Nat} {s : xN} {a : Nat → xN} {N : xN} (h : IVp e s a N) (hk : k < 2) {q : Nat} (hq : q < 8) (h17 : N (17 + q) = nI k) : hasP (s 7) (nI q) = true ∧ N (25 + q) = -1 := by
  rcases (h q hq).1 with z | ⟨k', hk', z, -, z1, z2⟩
  · rw [h17] at z; exact absurd z (nI_m1 (by omega))
  · exact ⟨z1, z2⟩
set_option maxHeartbeats 1000000 in
theorem cD_letOff (L : xLn) (d : xN) (da : Nat → xN) (t : xN) (ta : Nat → xN) (m g e k : Nat) (s : xN) (a : Nat → xN) (N : xN) (hk : k < 2) (hT : RT m t ta s a) (h0 : N 0 = nI g) (hg : g < e) (h60 : g < 60) (h5 : hasP (s 5) (nI k) = true) (hI : IVp e s a N) (hA : RA d da N) (hP : RP da N) : CT L mX0_letOff 0 0 0 [.ref 0, .int (nI k)] (dtW d da t ta) (dtQ t ta (fun d' da' => d' = d ∧ smP da da' ∧ RP da' (offL (s 7) (a 8) k N 8).1)) := by
  refine dt_gen fun Q fin => ?_
  refine CT.of rfl (Nat.le_of_ble_eq_true rfl) (Nat.le_of_ble_eq_true rfl) ?_
  have loop : ∀ (n q : Nat) (da' : Nat → xN) (x3 : Option Value), q + n = 8 → oI x3 → smP da da' → RP da' (offL (s 7) (a 8) k N q).1 → AJ L mX0_letOff 0 0 0 Q (dtW d da t ta).length (0, 0) 2 [some (.ref 0), some (.int (nI k)), some (.int (nI q)), x3] [] (dtW d da' t ta) := by
    intro n
    induction n with
    | zero =>
      intro q da' x3 hq hx hs hR
      obtain rfl : q = 8 := by omega
      exact AJ.run kX0_letOff [2] 30 ⟨fun _ => fin d da' ⟨rfl, hs, hR⟩, fun hz => absurd (by decide) hz⟩
    | succ n ih =>
      intro q da' x3 hq hx hs hR
      have nxt := fun da'' x3' => ih (q + 1) da'' x3' (by omega)
      rw [nI_succ, offL] at nxt
      have hIq := IVp_offL hk h0 hg h60 h5 hI q (by omega)
      have lo : ∀ i, i < 9 → (offL (s 7) (a 8) k N q).1 i = N i := fun i hi => offL_out (s 7) (a 8) N (Or.inl hi) q (by omega)
      generalize offL (s 7) (a 8) k N q = S at hR nxt hIq lo
      have bit : hasP (da' 6 k) (nI q) = true ↔ S.1 (17 + q) = nI k := by
        rw [hR.1 k hk q (by omega)]
        have : q < 8 := by omega
        simp [this]
      have e11 : ta 11 q = a 8 (2 * q + 1) := (hT.2.2.1 q (by omega)).2
      have e4 : da' 4 k = S.1 (1 + k) := by rw [hs 4 (by omega) (by omega), (hA.2 k hk).1, lo (1 + k) (by omega)]
      have e3 : d 3 = S.1 0 := by rw [hA.1, lo 0 (by omega)]
      have skip : ∀ x3', oI x3' → ¬ (S.1 (17 + q) = nI k ∧ a 8 (2 * q + 1) = S.1 (1 + k)) → AJ L mX0_letOff 0 0 0 Q (dtW d da t ta).length (0, 0) 2 [some (.ref 0), some (.int (nI k)), some (.int (nI q + 1)), x3'] [] (dtW d da' t ta) := by
        intro x3' hx' hn
        refine nxt da' x3' hx' hs ?_
        unfold offS
        split
        · next hc =>
          rw [if_neg (fun z => hn ⟨hc.2, z⟩)]
          have h25 := (hIq.fo hk (by omega) hc.2).2
          show RP da' (offU S.1 k q)
          refine hR.same (fun i _ _ => ?_)
          by_cases z1 : i = 9 + q
          · subst z1; exact (offU_9 (by omega)).1
          by_cases z2 : i = 25 + q
          · subst z2; rw [(offU_9 (by omega)).2.1, h25]
          by_cases z3 : i = 17 + q
          · subst z3; rw [(offU_9 (by omega)).2.2, hc.2]
          exact offU_un ⟨z1, z2, z3⟩
        · exact hR
      refine AJ.run kX0_letOff [2, 27] 60 ⟨fun hz => absurd hz (nI_ge (b := 8) (by omega) (by omega)), fun hz => ⟨k, rfl, by omega, fun h6 => ?_, fun h6 => ?_⟩⟩
      · have h6 : ¬ da' 6 k >>> (nI q &&& 31) &&& 1 = 1 := h6
        rw [hasP_iff, bit] at h6
        have sk := skip (some (.int 0)) (Or.inr ⟨_, rfl⟩) (fun z => h6 z.1)
        exact AJ.run kX0_letOff [2] 60 ⟨fun _ => sk, fun hz => absurd rfl hz⟩
      · have h6 : da' 6 k >>> (nI q &&& 31) &&& 1 = 1 := h6
        rw [hasP_iff, bit] at h6
        refine AJ.run kX0_letOff [2] 60 ⟨fun hz => absurd hz (by decide), fun _ => ⟨q, rfl, by omega, k, rfl, by omega, fun h7 => ?_, fun h7 => ⟨k, rfl, by omega, k, rfl, by omega, q, rfl, by omega, ?_⟩⟩⟩
        · have h7 : ¬ ta 11 q = da' 4 k := h7
          rw [e11, e4] at h7
          exact skip (some (.int 1)) (Or.inr ⟨_, rfl⟩) (fun z => h7 z.2)
        · have h7 : ta 11 q = da' 4 k := h7
          rw [e11, e4] at h7
          have hf := (hIq.fo hk (by omega) h6).1
          refine nxt (va_up (va_up da' 6 (upd (da' 6) k (da' 6 k &&& (1 <<< (nI q &&& 31) ^^^ -1)))) 8 (upd (da' 8) q (d 3))) (some (.int 1)) (Or.inr ⟨_, rfl⟩) (fun i x1 x2 => by rw [va_up_ne _ _ x2, va_up_ne _ _ x1]; exact hs i x1 x2) ?_
          unfold offS
          rw [if_pos ⟨hf, h6⟩, if_pos h7]
          obtain ⟨o1, o2, o3⟩ := offT_9 (B := S.1) (k := k) (q := q) hk (by omega)
          refine ⟨fun j hj p hp => ?_, fun p hp => ?_⟩
          · show hasP (upd (da' 6) k _ j) (nI p) = decide (p < 8 ∧ offT S.1 k q (17 + p) = nI j)
            by_cases ep : p = q
            · subst ep
              rw [o3]
              have n1 : ¬ (-1 : Int32) = nI j := fun z => nI_m1 (by omega) z.symm
              by_cases ej : j = k
              · subst ej
                rw [pk_us, clr_bit _ (by omega) hp]
                simp [n1]
              · rw [pk_un ej, hR.1 j hj p hp, h6]
                have : ¬ nI k = nI j := by rw [nI_eq (by omega) (by omega)]; omega
                simp [n1, this]
            · have e17 : p < 8 → offT S.1 k q (17 + p) = S.1 (17 + p) := fun h8 => offT_un (by omega)
              have old : hasP (upd (da' 6) k (da' 6 k &&& (1 <<< (nI q &&& 31) ^^^ -1)) j) (nI p) = hasP (da' 6 j) (nI p) := by
                by_cases ej : j = k
                · subst ej
                  rw [pk_us, clr_bit _ (by omega) hp]
                  simp [ep]
                · rw [pk_un ej]
              rw [old, hR.1 j hj p hp]
              by_cases h8 : p < 8
              · rw [e17 h8]
              · simp [h8]
          · show upd (da' 8) q (d 3) p = offT S.1 k q (25 + p) ∧ da' 9 p = offT S.1 k q (33 + p)
            rw [offT_un (i := 33 + p) (by omega)]
            refine ⟨?_, (hR.2 p hp).2⟩
            by_cases ep : p = q
            · subst ep; rw [pk_us, o2, e3]
            · rw [pk_un ep, offT_un (by omega), (hR.2 p hp).1]
  exact AJ.run kX0_letOff [2] 30 (loop 8 0 da none (by omega) (Or.inl rfl) (fun _ _ _ => rfl) hP)
/-- how many are aboard then -/
theorem offL_cnt {e g k : Nat} {s : xN} {a : Nat → xN} {N : xN} (hk : k < 2) (h0 : N 0 = nI g) (hg : g < e) (h60 : g < 60) (h5 : hasP (s 5) (nI k) = true) (h : IVp e s a N) : ∀ q, q ≤ 8 → (offL (s 7) (a 8) k N q).2 = nI (cntB (fun i => decide ((offL (s 7) (a 8) k N q).1 (17 + i) = nI k)) q)
  | 0, _ => rfl
  | q + 1, hq => by
    have ih := offL_cnt hk h0 hg h60 h5 h q (by omega)
    have hIq := IVp_offL hk h0 hg h60 h5 h q (by omega)
    rw [offL]
    generalize offL (s 7) (a 8) k N q = S at ih hIq ⊢
    have oth : ∀ i, i < q → (offS (s 7) (a 8) k q S).1 (17 + i) = S.1 (17 + i) := by
      intro i hi
      unfold offS
      split
      · split
        · exact offT_un (by omega)
        · exact offU_un (by omega)
      · rfl
    rw [cntB, cntB_congr q (fun i hi => by rw [oth i hi]), ← nI_add, ← ih]
    unfold offS
    split
    · split
      · show S.2 + 0 = S.2 + nI (if decide (offT S.1 k q (17 + q) = nI k) = true then 1 else 0)
        rw [(offT_9 hk (by omega)).2.2]
        have n1 : ¬ (-1 : Int32) = nI k := fun z => nI_m1 (by omega) z.symm
        simp [n1]; rfl
      · show S.2 + 1 = S.2 + nI (if decide (offU S.1 k q (17 + q) = nI k) = true then 1 else 0)
        rw [(offU_9 (by omega)).2.2]
        simp; rfl
    · next hc =>
      have : ¬ S.1 (17 + q) = nI k := fun z => hc ⟨(hIq.fo hk (by omega) z).1, z⟩
      show S.2 = S.2 + nI (if decide (S.1 (17 + q) = nI k) = true then 1 else 0)
      simp [this, nI_0]
theorem bitsP_cnt (x : Int32) : ∀ n, n ≤ 8 → bitsP x n = nI (cntB (fun i => hasP x (nI i)) n)
  | 0, _ => rfl
  | n + 1, hn => by
    rw [bitsP, cntB, bitsP_cnt x n (by omega), ← nI_add, hasP_val _ (by omega)]
    cases hasP x (nI n) <;> rfl
