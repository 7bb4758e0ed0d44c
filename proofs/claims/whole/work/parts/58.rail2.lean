/-! ===== the reference: rail, and the begin of all ===== -/
theorem dlS_hi {w : Nat} (ns s : xN) {x : Nat} (hx : 10 ≤ x) : dlS w ns s x = s x := by
  have h : ∀ (f : xN) (k : Nat) (v : Int32), k < 10 → upd f k v x = f x := fun f k v hk => pk_un (by omega)
  unfold dlS
  split
  · rw [h _ _ _ (by omega), h _ _ _ (by omega), h _ _ _ (by omega), h _ _ _ (by omega)]
  split
  · rw [h _ _ _ (by omega), h _ _ _ (by omega)]
  split
  · rw [h _ _ _ (by omega)]
  split
  · rw [h _ _ _ (by omega)]
  split
  · rw [h _ _ _ (by omega)]
  split
  · rw [h _ _ _ (by omega)]
  split
  · rw [h _ _ _ (by omega)]
  split
  · rw [h _ _ _ (by omega)]
  · rfl
theorem dlA_hi {w : Nat} (ns s : xN) (a : Nat → xN) {x : Nat} (h6 : x ≠ 6) (h8 : x ≠ 8) (h10 : x ≠ 10) : dlA w ns s a x = a x := by
  unfold dlA
  split
  · exact if_neg h6
  split
  · exact if_neg h8
  split
  · exact if_neg h10
  · rfl
def railQ (f : xN) (n m : Nat) (s : xN) (a : Nat → xN) : Option Value → List xE → Prop := fun r Y => (∃ e, rdL f n 10 0 0 s a = .inl e ∧ r = some (.int (-4)) ∧ ∃ s' j' a', Y = modW s' j' a' ∧ keptM m s a s' a') ∨ (∃ c S A, rdL f n 10 0 0 s a = .inr (c, S, A) ∧ r = some (.int (nI c)) ∧ ∃ s' j' a' N, Y = modW s' j' a' ∧ eqL S A s' a' ∧ s' 11 = 0 ∧ s' 13 = 0 ∧ a' 29 0 = 0 ∧ a' 29 1 = 0 ∧ a' 26 = beginP (A 6) (A 8) N)
theorem eqL.rf (s : xN) (a : Nat → xN) : eqL s a s a := ⟨fun _ _ => rfl, rfl, rfl, rfl⟩
set_option maxHeartbeats 1000000 in
theorem c8_rail (L : xLn) (s : xN) (j : Int64) (a : Nat → xN) (n l m : Nat) (hn : s 13 = nI n) (h200 : n ≤ 200) (hW : WT l m s a) : CT L mX8_rail 6 0 0 [.ref 0] (modW s j a) (railQ (a 14) n m s a) := by
  refine CT.of rfl (Nat.le_of_ble_eq_true rfl) (Nat.le_of_ble_eq_true rfl) ?_
  refine AJ.run kX8_rail [] 60 ?_
  refine AJ.callF kX8_rail (c8_isRead L s j a n hn h200) bX8_isRead rfl (by decide +kernel) [] rfl rfl rfl rfl rfl rfl rfl rfl ?_
  rintro r Y (⟨e, hl, rfl, s2, j2, a2, rfl, g1, g2, g3⟩ | ⟨c, S, A, hl, rfl, s2, j2, a2, rfl, g1, g2, g3, g4, g5, g6⟩)
  · have fin : railQ (a 14) n m s a (some (.int (-4))) (modW s2 j2 a2) := Or.inl ⟨e, hl, rfl, s2, j2, a2, rfl, g1, ⟨g2 6 (by omega), g2 8 (by omega), g2 12 (by omega), g2 14 (by omega), g2 28 (by omega), g2 29 (by omega)⟩, fun i hi => by rw [g2 10 (by omega)], fun i hi => by rw [g2 26 (by omega)]⟩
    generalize railQ (a 14) n m s a = Q at fin ⊢
    exact ⟨rfl, rfl, AJ.run kX8_rail [] 60 ⟨fun hz => absurd rfl hz, fun _ => fin⟩⟩
  have fin : ∀ s' j' a' N, eqL S A s' a' → s' 11 = 0 → s' 13 = 0 → a' 29 0 = 0 → a' 29 1 = 0 → a' 26 = beginP (A 6) (A 8) N → railQ (a 14) n m s a (some (.int (nI c))) (modW s' j' a') := fun s' j' a' N h1 h2 h3 h4 h5 h6 => Or.inr ⟨c, S, A, hl, rfl, s', j', a', N, rfl, h1, h2, h3, h4, h5, h6⟩
  generalize railQ (a 14) n m s a = Q at fin ⊢
  have hWd := fun i (hi : i ≤ c) => WT_dlR (rd := a2 25) hW i (fun k hk => g5 k (by omega))
  -- the lines are done one by one
  have loop : ∀ (f i : Nat) (s1 : xN) (a1 : Nat → xN), i + f = c → eqL (dlR (a2 25) s a i).1 (dlR (a2 25) s a i).2 s1 a1 → s1 21 = nI c → a1 25 = a2 25 → AJ L mX8_rail 6 0 0 Q (modW s j a).length (0, 0) 12 [some (.ref 0), some (.int (nI i))] [] (modW s1 j2 a1) := by
    intro f
    induction f with
    | zero =>
      intro i s1 a1 hi hE h21 h25
      obtain rfl : i = c := by omega
      rw [g6] at hE
      refine AJ.run kX8_rail [39] 60 ⟨fun _ => ?_, fun hz => absurd ?_ hz⟩
      · refine AJ.callF kX8_rail (c8_begin L (upd s1 13 0) j2 a1 (a1 26)) bX8_begin rfl (by decide +kernel) [] rfl rfl rfl rfl rfl rfl rfl rfl ?_
        rintro r Y ⟨rfl, rfl⟩
        obtain ⟨e1, e2, e3, e4⟩ := hE
        have fin := fin (upd (upd s1 13 0) 11 0) j2 (va_up (va_up a1 26 (beginP (a1 6) (a1 8) (a1 26))) 29 (upd (upd (a1 29) 0 0) 1 0)) (a1 26) ⟨fun x hx => by rw [pk_un (by omega), pk_un (by omega)]; exact e1 x hx, e2, e3, e4⟩ rfl rfl rfl rfl (by
          show beginP (a1 6) (a1 8) (a1 26) = _
          rw [e2, e3])
        generalize beginP (a1 6) (a1 8) (a1 26) = B at fin ⊢
        rw [← h21] at fin
        exact ⟨rfl, rfl, AJ.run kX8_rail [] 60 ⟨0, rfl, by omega, Or.inl rfl, 1, rfl, by omega, Or.inl rfl, fin⟩⟩
      · show s1 21 ≤ nI i
        rw [h21]; exact nI_le (by omega) (by omega)
    | succ f ih =>
      intro i s1 a1 hi hE h21 h25
      obtain ⟨⟨w, hw, ew⟩, hl1⟩ := g5 i (by omega)
      obtain ⟨l', m', hW'⟩ := hWd i (by omega)
      rw [ew, nI_clamp (by omega)] at hl1
      have e9 : s1 9 = nI m' := (hE.1 9 (by omega)).trans hW'.2.1.2
      have c1 := c8_doLine L s1 j2 a1 i w m' (fun k => a2 25 (5 * i + 1 + k)) (by omega) e9 hW'.2.1.1 (by rw [h25]; exact ew) (fun k => by rw [h25]) (lnOK_congr hl1 (fun _ _ => rfl) hE.1)
      rw [← pk_mul] at c1
      have hE2 := dl_eqL hw (fun k => a2 25 (5 * i + 1 + k)) hE
      have hd : dlR (a2 25) s a (i + 1) = (dlS w (fun k => a2 25 (5 * i + 1 + k)) (dlR (a2 25) s a i).1, dlA w (fun k => a2 25 (5 * i + 1 + k)) (dlR (a2 25) s a i).1 (dlR (a2 25) s a i).2) := by
        rw [dlR, ew, nI_clamp (by omega)]
      have h2 := ih (i + 1) (dlS w (fun k => a2 25 (5 * i + 1 + k)) s1) (dlA w (fun k => a2 25 (5 * i + 1 + k)) s1 a1) (by omega) (by rw [hd]; exact hE2) (by rw [dlS_hi _ _ (by omega)]; exact h21) (by rw [dlA_hi _ _ _ (by omega) (by omega) (by omega)]; exact h25)
      rw [nI_succ] at h2
      refine AJ.run kX8_rail [24] 60 ⟨fun hz => absurd hz ?_, fun _ => ?_⟩
      · show ¬ s1 21 ≤ nI i
        rw [h21]; exact nI_ge (by omega) (by omega)
      refine AJ.callF kX8_rail c1 bX8_doLine rfl (by decide +kernel) [] rfl rfl rfl rfl rfl rfl rfl rfl ?_
      rintro r Y ⟨rfl, rfl⟩
      exact ⟨rfl, rfl, AJ.run kX8_rail [12] 60 h2⟩
  have key := loop c 0 s2 a2 (by omega) ⟨fun x hx => g1 x (by omega), g2 6 (by omega), g2 8 (by omega), g2 10 (by omega)⟩ g3 rfl
  exact ⟨rfl, rfl, AJ.run kX8_rail [12] 60 ⟨fun _ => key, fun hz => absurd hz (by decide)⟩⟩
