set_option maxHeartbeats 1000000 in
theorem c8_isFolk (L : xLn) (s : xN) (j : Int64) (a : Nat → xN) (n i p : Nat) (hi : i < 10) (hn : s 13 = nI n) (h200 : n ≤ 200) (hs : s 15 = nI p) (hp : p ≤ n) : CT L mX8_isFolk 3 0 0 [.ref 0, .int (nI (5 * i))] (modW s j a) (lnQ (a 14) n i 5 p s a) := by
  refine CT.of rfl (Nat.le_of_ble_eq_true rfl) (Nat.le_of_ble_eq_true rfl) ?_
  have nx1 : ∀ e s' j' a', numsP (a 14) n 5 (s 22) (s 23) (2 + 1) 0 (fun _ => 0) p = .inl e → flR i s a s' a' e → lnQ (a 14) n i 5 p s a (some (.int 0)) (modW s' j' a') := fun e s' j' a' h1 h2 => Or.inl ⟨e, h1, rfl, s', j', a', rfl, h2⟩
  have nx2 : ∀ ns p' s' j' a', numsP (a 14) n 5 (s 22) (s 23) (2 + 1) 0 (fun _ => 0) p = .inr (ns, p') → okR n i 5 s a s' a' ns p' → lnQ (a 14) n i 5 p s a (some (.int 1)) (modW s' j' a') := fun ns p' s' j' a' h1 h2 => Or.inr ⟨ns, p', h1, rfl, s', j', a', rfl, h2⟩
  generalize lnQ (a 14) n i 5 p s a = Q at nx1 nx2 ⊢
  have c1 := c8_num L s a n i 0 p (fun _ => 0) 0 7 s j a (by omega) hn h200 (nsR.rf hs hp _)
  rw [Nat.add_zero, ← nI_1] at c1
  refine AJ.run kX8_isFolk [] 60 ?_
  refine AJ.callF kX8_isFolk c1 bX8_isNumber rfl (by decide +kernel) [] rfl rfl rfl rfl rfl rfl rfl rfl ?_
  rintro r Y (⟨hb, rfl, s1, j1, a1, rfl, u1, u2⟩ | ⟨hb, rfl, s1, j1, a1, rfl, u2⟩)
  case inr =>
    have hN := numsP_no (w := 5) (RP := s 22) (RF := s 23) (k := 2) (i := 0) (ns := fun _ => 0) (nuP_f hb)
    exact ⟨rfl, rfl, AJ.run kX8_isFolk [] 60 ⟨fun _ => ⟨Or.inl rfl, nx1 _ s1 j1 a1 hN u2⟩, fun hz => absurd rfl hz⟩⟩
  obtain ⟨t1, t2⟩ := nuP_t hb
  rw [numsP_ok 5 (s 22) (s 23) 0 (fun _ => 0) t1 t2] at nx1 nx2
  have e22 : s1 22 = s 22 := u2.1 22 (by omega) (by omega) (by omega) (by omega) (by omega)
  generalize tkN (a 14) n p = v0 at *
  generalize tkE (a 14) n p = p1 at *
  have c2 := c8_num L s a n i 1 p1 (upd (fun _ => 0) 0 v0) 0 (s1 22 - 1) s1 j1 a1 (by omega) hn h200 u2
  rw [show 5 * i + 1 + 1 = 5 * i + 2 by omega, ← nI_add] at c2
  refine ⟨rfl, rfl, AJ.run kX8_isFolk [24] 60 ⟨fun hz => absurd hz (by decide), fun _ => ?_⟩⟩
  refine AJ.callF kX8_isFolk c2 bX8_isNumber rfl (by decide +kernel) [] rfl rfl rfl rfl rfl rfl rfl rfl ?_
  rintro r Y (⟨hb, rfl, s2, j2, a2, rfl, w1, w2⟩ | ⟨hb, rfl, s2, j2, a2, rfl, w2⟩)
  case inr =>
    rw [e22] at hb
    have hN := numsP_no (w := 5) (RP := s 22) (RF := s 23) (k := 1) (i := 1) (ns := upd (fun _ => 0) 0 v0) (nuP_f hb)
    exact ⟨rfl, rfl, AJ.run kX8_isFolk [] 60 ⟨fun _ => ⟨Or.inl rfl, nx1 _ s2 j2 a2 hN w2⟩, fun hz => absurd rfl hz⟩⟩
  rw [e22] at hb
  obtain ⟨t3, t4⟩ := nuP_t hb
  rw [numsP_ok 5 (s 22) (s 23) 1 (upd (fun _ => 0) 0 v0) t3 t4] at nx1 nx2
  have e22b : s2 22 = s 22 := w2.1 22 (by omega) (by omega) (by omega) (by omega) (by omega)
  generalize tkN (a 14) n p1 = v1 at *
  generalize tkE (a 14) n p1 = p2 at *
  have c3 := c8_num L s a n i 2 p2 (upd (upd (fun _ => 0) 0 v0) 1 v1) 0 (s2 22 - 1) s2 j2 a2 (by omega) hn h200 w2
  rw [show 5 * i + 1 + 2 = 5 * i + 3 by omega, ← nI_add] at c3
  refine ⟨rfl, rfl, AJ.run kX8_isFolk [41] 60 ⟨fun hz => absurd hz (by decide), fun _ => ?_⟩⟩
  refine AJ.callF kX8_isFolk c3 bX8_isNumber rfl (by decide +kernel) [] rfl rfl rfl rfl rfl rfl rfl rfl ?_
  rintro r Y (⟨hb, rfl, s3, j3, a3, rfl, x1, x2⟩ | ⟨hb, rfl, s3, j3, a3, rfl, x2⟩)
  case inr =>
    rw [e22b] at hb
    have hN := numsP_no (w := 5) (RP := s 22) (RF := s 23) (k := 0) (i := 2) (ns := upd (upd (fun _ => 0) 0 v0) 1 v1) (fun z => by rw [cstP, if_neg (by decide), if_neg (by decide), nuP_f hb z]; rfl)
    exact ⟨rfl, rfl, AJ.run kX8_isFolk [] 60 ⟨fun hz => absurd rfl hz, fun _ => ⟨Or.inl rfl, nx1 _ s3 j3 a3 hN x2⟩⟩⟩
  rw [e22b] at hb
  obtain ⟨t5, t6⟩ := nuP_t hb
  obtain ⟨k1, k2, k3, k4, k5, k6⟩ := x2
  have q0 : a3 25 (5 * i + 1) = v0 := k6 0 (by omega)
  have q1 : a3 25 (5 * i + 2) = v1 := k6 1 (by omega)
  have q2 : a3 25 (5 * i + 3) = tkN (a 14) n p2 := k6 2 (by omega)
  have i1 : nI (5 * i) + 1 = nI (5 * i + 1) := nI_1 _
  have i2 : nI (5 * i) + 2 = nI (5 * i + 2) := nI_add _ 2
  have i3 : nI (5 * i) + 3 = nI (5 * i + 3) := nI_add _ 3
  have fo : s3 23 = s 23 := k1 23 (by omega) (by omega) (by omega) (by omega) (by omega)
  refine ⟨rfl, rfl, AJ.run kX8_isFolk [] 60 ⟨fun _ => ⟨5 * i + 1, i1, by omega, 5 * i + 2, i2, by omega, 5 * i + 3, i3, by omega, fun h4 => ⟨Or.inr rfl, ?_⟩, fun h4 => ?_⟩, fun hz => absurd hz (by decide)⟩⟩
  · have h4 : ¬ a3 25 (5 * i + 2) = a3 25 (5 * i + 3) := h4
    rw [q1, q2] at h4
    have hN := numsP_ok (f := a 14) (n := n) (k := 0) (p := p2) 5 (s 22) (s 23) 2 (upd (upd (fun _ => 0) 0 v0) 1 v1) t5 (by
      rw [cstP, if_neg (by decide), if_neg (by decide), t6, show (upd (upd (fun _ => (0 : Int32)) 0 v0) 1 v1) 1 = v1 from rfl]
      simpa using h4)
    refine nx2 _ _ (upd s3 23 (s3 23 ||| 1 <<< (a3 25 (5 * i + 1) &&& 31))) j3 a3 hN ⟨fun x hx => ?_, k4, k5, k2, k3, k6, ?_, ?_, ?_⟩
    · rw [pk_un (by omega)]
      exact k1 x (by omega) (by omega) (by omega) (by omega) (by omega)
    · exact k1 22 (by omega) (by omega) (by omega) (by omega) (by omega)
    · show s3 23 ||| 1 <<< (a3 25 (5 * i + 1) &&& 31) = _
      rw [fo, q0]; rfl
    · exact k1 24 (by omega) (by omega) (by omega) (by omega) (by omega)
  · have h4 : a3 25 (5 * i + 2) = a3 25 (5 * i + 3) := h4
    rw [q1, q2] at h4
    have hN := numsP_no (f := a 14) (n := n) (w := 5) (RP := s 22) (RF := s 23) (k := 0) (i := 2) (ns := upd (upd (fun _ => 0) 0 v0) 1 v1) (p := p2) (fun z => by
      rw [cstP, if_neg (by decide), if_neg (by decide), t6, show (upd (upd (fun _ => (0 : Int32)) 0 v0) 1 v1) 1 = v1 from rfl]
      simpa using h4)
    refine AJ.callF kX8_isFolk (c8_fails L (upd s3 23 (s3 23 ||| 1 <<< (a3 25 (5 * i + 1) &&& 31))) j3 a3) bX8_fails rfl (by decide +kernel) [] rfl rfl rfl rfl rfl rfl rfl rfl ?_
    rintro r Y ⟨rfl, rfl⟩
    refine ⟨rfl, rfl, AJ.run kX8_isFolk [] 60 ⟨fun _ => ⟨Or.inl rfl, ?_⟩, fun hz => absurd rfl hz⟩⟩
    refine nx1 _ (upd (upd s3 23 (s3 23 ||| 1 <<< (a3 25 (5 * i + 1) &&& 31))) 20 (s3 16)) j3 a3 hN ⟨fun x hx => ?_, k4, fun x hx => k5 x (by omega), x1⟩
    rw [pk_un (by omega), pk_un (by omega)]
    exact k1 x (by omega) (by omega) (by omega) (by omega) (by omega)
set_option maxHeartbeats 1000000 in
/-- a mood's line, where there is room -/
theorem c8_isMood (L : xLn) (s : xN) (j : Int64) (a : Nat → xN) (n i p w : Nat) (hw : 6 ≤ w ∧ w ≤ 8) (hi : i < 10) (hn : s 13 = nI n) (h200 : n ≤ 200) (hs : s 15 = nI p) (hp : p ≤ n) : CT L mX8_isMood 3 0 0 [.ref 0, .int (nI (5 * i))] (modW s j a) (fun r Y => (s 24 = 24 ∧ r = some (.int 0) ∧ Y = modW (upd s 20 (s 16)) j a) ∨ (¬ s 24 = 24 ∧ lnQ (a 14) n i w p s a r Y)) := by
  refine CT.of rfl (Nat.le_of_ble_eq_true rfl) (Nat.le_of_ble_eq_true rfl) ?_
  have hcn : cntN w = 2 := by rcases (show w = 6 ∨ w = 7 ∨ w = 8 by omega) with rfl | rfl | rfl <;> rfl
  have hcs : ∀ i ns v, cstP w i (s 22) (s 23) ns v = if i = 0 then inP v 0 7 && hasP (s 23) v else inP v 0 59 := by
    intro i ns v
    rcases (show w = 6 ∨ w = 7 ∨ w = 8 by omega) with rfl | rfl | rfl <;> rfl
  have nx1 : ∀ e s' j' a', ¬ s 24 = 24 → numsP (a 14) n w (s 22) (s 23) (1 + 1) 0 (fun _ => 0) p = .inl e → flR i s a s' a' e → (fun (r : Option Value) (Y : List xE) => (s 24 = 24 ∧ r = some (.int 0) ∧ Y = modW (upd s 20 (s 16)) j a) ∨ (¬ s 24 = 24 ∧ lnQ (a 14) n i w p s a r Y)) (some (.int 0)) (modW s' j' a') := fun e s' j' a' h0 h1 h2 => Or.inr ⟨h0, Or.inl ⟨e, by rw [hcn]; exact h1, rfl, s', j', a', rfl, h2⟩⟩
  have nx2 : ∀ ns p' s' j' a', ¬ s 24 = 24 → numsP (a 14) n w (s 22) (s 23) (1 + 1) 0 (fun _ => 0) p = .inr (ns, p') → okR n i w s a s' a' ns p' → (fun (r : Option Value) (Y : List xE) => (s 24 = 24 ∧ r = some (.int 0) ∧ Y = modW (upd s 20 (s 16)) j a) ∨ (¬ s 24 = 24 ∧ lnQ (a 14) n i w p s a r Y)) (some (.int 1)) (modW s' j' a') := fun ns p' s' j' a' h0 h1 h2 => Or.inr ⟨h0, Or.inr ⟨ns, p', by rw [hcn]; exact h1, rfl, s', j', a', rfl, h2⟩⟩
  have nx0 : s 24 = 24 → (fun (r : Option Value) (Y : List xE) => (s 24 = 24 ∧ r = some (.int 0) ∧ Y = modW (upd s 20 (s 16)) j a) ∨ (¬ s 24 = 24 ∧ lnQ (a 14) n i w p s a r Y)) (some (.int 0)) (modW (upd s 20 (s 16)) j a) := fun h => Or.inl ⟨h, rfl, rfl⟩
  generalize (fun (r : Option Value) (Y : List xE) => (s 24 = 24 ∧ r = some (.int 0) ∧ Y = modW (upd s 20 (s 16)) j a) ∨ (¬ s 24 = 24 ∧ lnQ (a 14) n i w p s a r Y)) = Q at nx0 nx1 nx2 ⊢
  refine AJ.run kX8_isMood [] 60 ⟨fun h0 => ?_, fun h0 => ?_⟩
  case refine_2 =>
    refine AJ.callF kX8_isMood (c8_fails L s j a) bX8_fails rfl (by decide +kernel) [] rfl rfl rfl rfl rfl rfl rfl rfl ?_
    rintro r Y ⟨rfl, rfl⟩
    exact ⟨rfl, rfl, AJ.run kX8_isMood [] 60 ⟨Or.inl rfl, nx0 h0⟩⟩
  have h0 : ¬ s 24 = 24 := h0
  have nx1 := fun e s' j' a' => nx1 e s' j' a' h0
  have nx2 := fun ns p' s' j' a' => nx2 ns p' s' j' a' h0
  have c1 := c8_num L (upd s 24 (s 24 + 1)) a n i 0 p (fun _ => 0) 0 7 (upd s 24 (s 24 + 1)) j a (by omega) hn h200 (nsR.rf (s := upd s 24 (s 24 + 1)) hs hp _)
  rw [Nat.add_zero, ← nI_1] at c1
  have lift : ∀ s' a' e, flR i (upd s 24 (s 24 + 1)) a s' a' e → flR i s a s' a' e := fun s' a' e h => ⟨fun x hx => (h.1 x hx).trans (pk_un (by omega)), h.2⟩
  refine AJ.callF kX8_isMood c1 bX8_isNumber rfl (by decide +kernel) [] rfl rfl rfl rfl rfl rfl rfl rfl ?_
  rintro r Y (⟨hb, rfl, s1, j1, a1, rfl, u1, u2⟩ | ⟨hb, rfl, s1, j1, a1, rfl, u2⟩)
  case inr =>
    have hN := numsP_no (w := w) (RP := s 22) (RF := s 23) (k := 1) (i := 0) (ns := fun _ => 0) (fun z => by rw [hcs, if_pos rfl, nuP_f hb z]; rfl)
    exact ⟨rfl, rfl, AJ.run kX8_isMood [] 60 ⟨fun hz => absurd rfl hz, fun _ => ⟨Or.inl rfl, nx1 _ s1 j1 a1 hN (lift _ _ _ u2)⟩⟩⟩
  obtain ⟨t1, t2⟩ := nuP_t hb
  have u2' := u2
  obtain ⟨k1, k2, k3, k4, k5, k6⟩ := u2
  have q0 : a1 25 (5 * i + 1) = tkN (a 14) n p := k6 0 (by omega)
  have fo : s1 23 = s 23 := k1 23 (by omega) (by omega) (by omega) (by omega) (by omega)
  refine ⟨rfl, rfl, AJ.run kX8_isMood [51] 60 ⟨fun _ => ⟨5 * i + 1, nI_1 _, by omega, ?_⟩, fun hz => absurd hz (by decide)⟩⟩
  refine AJ.callZ kX8_isMood (c8_has L (s1 23) (a1 25 (5 * i + 1))) bX8_has rfl (by decide +kernel) [] rfl rfl rfl rfl rfl ?_
  rintro r rfl
  rw [q0, fo]
  refine AJ.run kX8_isMood [64] 60 ⟨fun h4 => ?_, fun h4 => ?_⟩
  · rw [bI_eq0] at h4
    have hN := numsP_no (f := a 14) (n := n) (p := p) (w := w) (RP := s 22) (RF := s 23) (k := 1) (i := 0) (ns := fun _ => 0) (fun z => by rw [hcs, if_pos rfl, h4]; simp)
    refine AJ.callF kX8_isMood (c8_fails L s1 j1 a1) bX8_fails rfl (by decide +kernel) [] rfl rfl rfl rfl rfl rfl rfl rfl ?_
    rintro r Y ⟨rfl, rfl⟩
    refine ⟨rfl, rfl, AJ.run kX8_isMood [] 60 ⟨Or.inl rfl, ?_⟩⟩
    refine nx1 _ (upd s1 20 (s1 16)) j1 a1 hN (lift _ _ _ (u2'.fl (fun x _ _ _ _ h5 => pk_un h5) rfl u1))
  · rw [bI_ne0] at h4
    rw [numsP_ok w (s 22) (s 23) 0 (fun _ => 0) t1 (by rw [hcs, if_pos rfl, t2, h4]; rfl)] at nx1 nx2
    generalize tkN (a 14) n p = v0 at *
    generalize tkE (a 14) n p = p1 at *
    have c2 := c8_num L (upd s 24 (s 24 + 1)) a n i 1 p1 (upd (fun _ => 0) 0 v0) 0 59 s1 j1 a1 (by omega) hn h200 u2'
    rw [show 5 * i + 1 + 1 = 5 * i + 2 by omega, ← nI_add] at c2
    refine AJ.callF kX8_isMood c2 bX8_isNumber rfl (by decide +kernel) [] rfl rfl rfl rfl rfl rfl rfl rfl ?_
    rintro r Y (⟨hb, rfl, s2, j2, a2, rfl, w1, w2⟩ | ⟨hb, rfl, s2, j2, a2, rfl, w2⟩)
    · obtain ⟨t3, t4⟩ := nuP_t hb
      have hN := numsP_ok (f := a 14) (n := n) (k := 0) (p := p1) w (s 22) (s 23) 1 (upd (fun _ => 0) 0 v0) t3 (by rw [hcs, if_neg (by decide)]; exact t4)
      obtain ⟨k1, k2, k3, k4, k5, k6⟩ := w2
      refine ⟨rfl, rfl, AJ.run kX8_isMood [] 60 ⟨Or.inr rfl, nx2 _ _ s2 j2 a2 hN ⟨fun x hx => ?_, k4, k5, k2, k3, by rw [hcn]; exact k6, ?_, ?_, ?_⟩⟩⟩
      · exact (k1 x (by omega) (by omega) (by omega) (by omega) (by omega)).trans (pk_un (by omega))
      · rw [lpP, if_neg (by omega)]
        exact k1 22 (by omega) (by omega) (by omega) (by omega) (by omega)
      · rw [lfP, if_neg (by omega), if_neg (by omega)]
        exact k1 23 (by omega) (by omega) (by omega) (by omega) (by omega)
      · rw [lmP, if_neg (by omega), if_pos (by omega)]
        exact k1 24 (by omega) (by omega) (by omega) (by omega) (by omega)
    · have hN := numsP_no (f := a 14) (n := n) (p := p1) (w := w) (RP := s 22) (RF := s 23) (k := 0) (i := 1) (ns := upd (fun _ => 0) 0 v0) (fun z => by rw [hcs, if_neg (by decide), nuP_f hb z])
      exact ⟨rfl, rfl, AJ.run kX8_isMood [] 60 ⟨Or.inl rfl, nx1 _ s2 j2 a2 hN (lift _ _ _ w2)⟩⟩
