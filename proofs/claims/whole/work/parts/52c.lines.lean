/-- which word it is, by its number -/
def wdN (J : Int64) : Nat := if J = 355278 then 0 else if J = 287015 then 1 else if J = 10197082 then 2 else if J = 119318 then 3 else if J = 406822 then 4 else if J = 129368 then 5 else if J = 10728469 then 6 else if J = 126216878256 then 7 else if J = 82451 then 8 else if J = 60115 then 9 else 10
/-- a line from p on: a fault's place, or its word, its numbers, the place behind it -/
def lineP (f : xN) (n p : Nat) (RP RF RM : Int32) : Nat ⊕ (Nat × xN × Nat) := if wdN (tkJ f n p) = 10 ∨ (6 ≤ wdN (tkJ f n p) ∧ wdN (tkJ f n p) ≤ 8 ∧ RM = 24) then .inl (tkS f n p) else match numsP f n (wdN (tkJ f n p)) RP RF (cntN (wdN (tkJ f n p))) 0 (fun _ => 0) (tkE f n p) with
  | .inl e => .inl e
  | .inr (ns, p') => .inr (wdN (tkJ f n p), ns, p')
/-- line i is read, with its word -/
def okL (n i w : Nat) (s : xN) (a : Nat → xN) (s' : xN) (a' : Nat → xN) (ns : xN) (p : Nat) : Prop := (∀ x, x < 15 ∨ x = 21 ∨ 25 ≤ x → s' x = s x) ∧ (∀ x, x ≠ 25 → a' x = a x) ∧ (∀ x, x < 5 * i → a' 25 x = a 25 x) ∧ a' 25 (5 * i) = nI w ∧ s' 15 = nI p ∧ p ≤ n ∧ (∀ k, k < cntN w → a' 25 (5 * i + 1 + k) = ns k) ∧ s' 22 = lpP w ns (s 22) ∧ s' 23 = lfP w ns (s 23) ∧ s' 24 = lmP w (s 24)
def liQ (f : xN) (n i p : Nat) (s : xN) (a : Nat → xN) : Option Value → List xE → Prop := fun r Y => (∃ e, lineP f n p (s 22) (s 23) (s 24) = .inl e ∧ r = some (.int 0) ∧ ∃ s' j' a', Y = modW s' j' a' ∧ flR i s a s' a' e) ∨ (∃ w ns p', lineP f n p (s 22) (s 23) (s 24) = .inr (w, ns, p') ∧ w < 10 ∧ r = some (.int 1) ∧ ∃ s' j' a', Y = modW s' j' a' ∧ okL n i w s a s' a' ns p')
/-- behind the word: the row has it, and the numbers are read -/
theorem li_of (f : xN) (n i p w : Nat) (s : xN) (a : Nat → xN) (s1 : xN) (hw : w < 10) (hR : wdN (tkJ f n p) = w) (hm : ¬ (6 ≤ w ∧ w ≤ 8 ∧ s 24 = 24)) (h1 : ∀ x, x ≠ 15 → x ≠ 16 → x ≠ 18 → x ≠ 19 → s1 x = s x) {r : Option Value} {Y : List xE}
    (h : lnQ f n i w (tkE f n p) s1 (va_up a 25 (upd (a 25) (5 * i) (nI w))) r Y) : liQ f n i p s a r Y := by
  have e22 := h1 22 (by omega) (by omega) (by omega) (by omega)
  have e23 := h1 23 (by omega) (by omega) (by omega) (by omega)
  have e24 := h1 24 (by omega) (by omega) (by omega) (by omega)
  unfold lnQ at h
  rw [e22, e23] at h
  have hl : lineP f n p (s 22) (s 23) (s 24) = match numsP f n w (s 22) (s 23) (cntN w) 0 (fun _ => 0) (tkE f n p) with
    | .inl e => .inl e
    | .inr (ns, p') => .inr (w, ns, p') := by
    unfold lineP
    rw [hR, if_neg (by rintro (z | z); omega; exact hm z)]
  rcases h with ⟨e, h2, rfl, s', j', a', rfl, k1, k2, k3, k4⟩ | ⟨ns, p', h2, rfl, s', j', a', rfl, k1, k2, k3, k4, k5, k6, k7, k8, k9⟩
  · rw [h2] at hl
    refine Or.inl ⟨e, hl, rfl, s', j', a', rfl, fun x hx => (k1 x hx).trans (h1 x (by omega) (by omega) (by omega) (by omega)), fun x hx => (k2 x hx).trans (if_neg hx), fun x hx => (k3 x hx).trans ?_, k4⟩
    exact pk_un (by omega)
  · rw [h2] at hl
    rw [e22] at k7
    rw [e23] at k8
    rw [e24] at k9
    refine Or.inr ⟨w, ns, p', hl, hw, rfl, s', j', a', rfl, fun x hx => (k1 x hx).trans (h1 x (by omega) (by omega) (by omega) (by omega)), fun x hx => (k2 x hx).trans (if_neg hx), fun x hx => (k3 x (by omega)).trans (pk_un (by omega)), (k3 (5 * i) (by omega)).trans pk_us, k4, k5, k6, k7, k8, k9⟩
set_option maxHeartbeats 1000000 in
theorem c8_il_tram (L : xLn) (Q : Option Value → List xE → Prop) (s : xN) (j : Int64) (a : Nat → xN) (n i p n0 : Nat) (x2 x3 : Int32) (hi : i < 10) (hn : s 13 = nI n) (h200 : n ≤ 200) (hs : s 15 = nI p) (hp : p ≤ n)
    (nxt : ∀ r Y, lnQ (a 14) n i 4 p s a r Y → Q r Y) :
    AJ L mX8_isLine 4 0 0 Q n0 (0, 0) 300 [some (.ref 0), some (.int (nI (5 * i))), some (.int x2), some (.int x3)] [] (modW s j a) := by
  have i1 : nI (5 * i + 1) = nI (5 * i) + 1 := (nI_1 _).symm
  have i2 : nI (5 * i + 2) = nI (5 * i) + 2 := (nI_add _ 2).symm
  have i3 : nI (5 * i + 3) = nI (5 * i) + 3 := (nI_add _ 3).symm
  have i4 : nI (5 * i + 4) = nI (5 * i) + 4 := (nI_add _ 4).symm
  have nx1 : ∀ e s' j' a', numsP (a 14) n 4 (s 22) (s 23) (3 + 1) 0 (fun _ => 0) p = .inl e → flR i s a s' a' e → Q (some (.int 0)) (modW s' j' a') := fun e s' j' a' h1 h2 => nxt _ _ (Or.inl ⟨e, h1, rfl, s', j', a', rfl, h2⟩)
  have nx2 : ∀ ns p' s' j' a', numsP (a 14) n 4 (s 22) (s 23) (3 + 1) 0 (fun _ => 0) p = .inr (ns, p') → okR n i 4 s a s' a' ns p' → Q (some (.int 1)) (modW s' j' a') := fun ns p' s' j' a' h1 h2 => nxt _ _ (Or.inr ⟨ns, p', h1, rfl, s', j', a', rfl, h2⟩)
  clear nxt
  have c1 := c8_num L s a n i 0 p (fun _ => 0) 0 1 s j a (by omega) hn h200 (nsR.rf hs hp _)
  rw [Nat.add_zero, i1] at c1
  refine AJ.run kX8_isLine [] 60 ?_
  refine AJ.callF kX8_isLine c1 bX8_isNumber rfl (by decide +kernel) [] rfl rfl rfl rfl rfl rfl rfl rfl ?_
  rintro r Y (⟨hb, rfl, s1, j1, a1, rfl, u1, u2⟩ | ⟨hb, rfl, s1, j1, a1, rfl, u2⟩)
  case inr =>
    have hN := numsP_no (w := 4) (RP := s 22) (RF := s 23) (k := 3) (i := 0) (ns := fun _ => 0) (nuP_f hb)
    exact ⟨rfl, rfl, AJ.run kX8_isLine [] 60 ⟨fun _ => ⟨Or.inl rfl, nx1 _ s1 j1 a1 hN u2⟩, fun hz => absurd rfl hz⟩⟩
  obtain ⟨t1, t2⟩ := nuP_t hb
  rw [numsP_ok 4 (s 22) (s 23) 0 (fun _ => 0) t1 t2] at nx1 nx2
  have e22 : s1 22 = s 22 := u2.1 22 (by omega) (by omega) (by omega) (by omega) (by omega)
  clear t1 t2 hb c1
  generalize upd (fun _ => 0) 0 (tkN (a 14) n p) = ns1 at *
  generalize tkE (a 14) n p = p1 at *
  have c2 := c8_num L s a n i 1 p1 ns1 0 (s1 22 - 1) s1 j1 a1 (by omega) hn h200 u2
  rw [show 5 * i + 1 + 1 = 5 * i + 2 by omega, i2] at c2
  refine ⟨rfl, rfl, AJ.run kX8_isLine [323] 60 ⟨fun hz => absurd hz (by decide), fun _ => ?_⟩⟩
  refine AJ.callF kX8_isLine c2 bX8_isNumber rfl (by decide +kernel) [] rfl rfl rfl rfl rfl rfl rfl rfl ?_
  rintro r Y (⟨hb, rfl, s2, j2, a2, rfl, w1, w2⟩ | ⟨hb, rfl, s2, j2, a2, rfl, w2⟩)
  case inr =>
    rw [e22] at hb
    have hN := numsP_no (w := 4) (RP := s 22) (RF := s 23) (k := 2) (i := 1) (ns := ns1) (nuP_f hb)
    exact ⟨rfl, rfl, AJ.run kX8_isLine [] 60 ⟨fun _ => ⟨Or.inl rfl, nx1 _ s2 j2 a2 hN w2⟩, fun hz => absurd rfl hz⟩⟩
  rw [e22] at hb
  obtain ⟨t3, t4⟩ := nuP_t hb
  rw [numsP_ok 4 (s 22) (s 23) 1 ns1 t3 t4] at nx1 nx2
  clear t3 t4 hb c2 u2
  generalize upd ns1 1 (tkN (a 14) n p1) = ns2 at *
  generalize tkE (a 14) n p1 = p2 at *
  have c3 := c8_num L s a n i 2 p2 ns2 0 59 s2 j2 a2 (by omega) hn h200 w2
  rw [show 5 * i + 1 + 2 = 5 * i + 3 by omega, i3] at c3
  refine ⟨rfl, rfl, AJ.run kX8_isLine [336] 60 ⟨fun hz => absurd hz (by decide), fun _ => ?_⟩⟩
  refine AJ.callF kX8_isLine c3 bX8_isNumber rfl (by decide +kernel) [] rfl rfl rfl rfl rfl rfl rfl rfl ?_
  rintro r Y (⟨hb, rfl, s3, j3, a3, rfl, x1, x2⟩ | ⟨hb, rfl, s3, j3, a3, rfl, x2⟩)
  case inr =>
    have hN := numsP_no (w := 4) (RP := s 22) (RF := s 23) (k := 1) (i := 2) (ns := ns2) (nuP_f hb)
    exact ⟨rfl, rfl, AJ.run kX8_isLine [] 60 ⟨fun _ => ⟨Or.inl rfl, nx1 _ s3 j3 a3 hN x2⟩, fun hz => absurd rfl hz⟩⟩
  obtain ⟨t5, t6⟩ := nuP_t hb
  rw [numsP_ok 4 (s 22) (s 23) 2 ns2 t5 t6] at nx1 nx2
  clear t5 t6 hb c3 w2
  generalize upd ns2 2 (tkN (a 14) n p2) = ns3 at *
  generalize tkE (a 14) n p2 = p3 at *
  have c4 := c8_num L s a n i 3 p3 ns3 0 1 s3 j3 a3 (by omega) hn h200 x2
  rw [show 5 * i + 1 + 3 = 5 * i + 4 by omega, i4] at c4
  refine ⟨rfl, rfl, AJ.run kX8_isLine [348] 60 ⟨fun hz => absurd hz (by decide), fun _ => ?_⟩⟩
  refine AJ.callF kX8_isLine c4 bX8_isNumber rfl (by decide +kernel) [] rfl rfl rfl rfl rfl rfl rfl rfl ?_
  rintro r Y (⟨hb, rfl, s4, j4, a4, rfl, y1, y2⟩ | ⟨hb, rfl, s4, j4, a4, rfl, y2⟩)
  case inr =>
    have hN := numsP_no (w := 4) (RP := s 22) (RF := s 23) (k := 0) (i := 3) (ns := ns3) (nuP_f hb)
    exact ⟨rfl, rfl, AJ.run kX8_isLine [] 60 ⟨fun _ => ⟨Or.inl rfl, nx1 _ s4 j4 a4 hN y2⟩, fun hz => absurd rfl hz⟩⟩
  obtain ⟨t7, t8⟩ := nuP_t hb
  have hD := numsP_ok (k := 0) 4 (s 22) (s 23) 3 ns3 t7 t8
  have fin := nx2 _ _ s4 j4 a4 hD (y2.ok rfl rfl rfl rfl)
  exact ⟨rfl, rfl, AJ.run kX8_isLine [] 60 ⟨fun hz => absurd hz (by decide), fun _ => ⟨Or.inr rfl, fin⟩⟩⟩
set_option maxHeartbeats 1000000 in
/-- the line behind its word -/
theorem c8_il_word (L : xLn) (Q : Option Value → List xE → Prop) (s : xN) (j : Int64) (a : Nat → xN) (n i p w n0 : Nat) (x2 x3 : Int32) (hi : i < 10) (hn : s 13 = nI n) (h200 : n ≤ 200) (hs : s 15 = nI p) (hp : p ≤ n) (hw : w < 10) (ha : a 25 (5 * i) = nI w)
    (nxt : ∀ r Y, ¬ (6 ≤ w ∧ w ≤ 8 ∧ s 24 = 24) → lnQ (a 14) n i w p s a r Y → Q r Y) (nx0 : (6 ≤ w ∧ w ≤ 8 ∧ s 24 = 24) → Q (some (.int 0)) (modW (upd s 20 (s 16)) j a)) :
    AJ L mX8_isLine 4 0 0 Q n0 (0, 0) 178 [some (.ref 0), some (.int (nI (5 * i))), some (.int x2), some (.int x3)] [] (modW s j a) := by
  have i1 : nI (5 * i + 1) = nI (5 * i) + 1 := (nI_1 _).symm
  have i2 : nI (5 * i + 2) = nI (5 * i) + 2 := (nI_add _ 2).symm
  have i3 : nI (5 * i + 3) = nI (5 * i) + 3 := (nI_add _ 3).symm
  have i4 : nI (5 * i + 4) = nI (5 * i) + 4 := (nI_add _ 4).symm
  refine AJ.run kX8_isLine [240, 246, 278, 289, 300, 360, 366, 372, 379] 60 ⟨5 * i, rfl, by omega, ?_⟩
  have sw : ∀ k, a 25 (5 * i) = nI k → k = w ∨ ¬ k < 10 := by
    intro k hk
    by_cases h : k < 10
    · left
      rw [ha, nI_eq (by omega) (by omega)] at hk
      exact hk.symm
    · exact Or.inr h
  have swm : ∀ k, 6 ≤ k ∧ k ≤ 8 → a 25 (5 * i) = nI k → 6 ≤ w ∧ w ≤ 8 := by
    intro k hk h
    rcases sw k h with z | z
    · omega
    · exact absurd (by omega) z
  refine ⟨fun h => ?_, fun h0 => ⟨fun h => ?_, fun h1 => ⟨fun h => ?_, fun h2 => ⟨fun h => ?_, fun h3 => ⟨fun h => ?_, fun h4 => ⟨fun h => ?_, fun h5 => ⟨fun h => ?_, fun h6 => ⟨fun h => ?_, fun h7 => ⟨fun h => ?_, fun h8 => ⟨fun h => ?_, fun h9 => ?_⟩⟩⟩⟩⟩⟩⟩⟩⟩⟩
  · obtain rfl : 0 = w := by rcases sw 0 h with z | z; exact z; exact absurd (by omega) z
    refine AJ.run kX8_isLine [] 60 ?_
    refine AJ.callF kX8_isLine (c8_isRail L s j a n i p hi hn h200 hs hp) bX8_isRail rfl (by decide +kernel) [] rfl rfl rfl rfl rfl rfl rfl rfl ?_
    intro r Y hQ
    have nx := nxt r Y (by omega) hQ
    rcases hQ with ⟨e, h2, rfl, s', j', a', rfl, h3⟩ | ⟨ns, p', h2, rfl, s', j', a', rfl, h3⟩
    · exact ⟨rfl, rfl, AJ.run kX8_isLine [] 60 ⟨Or.inl rfl, nx⟩⟩
    · exact ⟨rfl, rfl, AJ.run kX8_isLine [] 60 ⟨Or.inr rfl, nx⟩⟩
  · obtain rfl : 1 = w := by rcases sw 1 h with z | z; exact z; exact absurd (by omega) z
    have c1 := c8_num L s a n i 0 p (fun _ => 0) 0 7 s j a (by omega) hn h200 (nsR.rf hs hp _)
    rw [Nat.add_zero, i1] at c1
    refine AJ.run kX8_isLine [] 60 ?_
    refine AJ.callF kX8_isLine c1 bX8_isNumber rfl (by decide +kernel) [] rfl rfl rfl rfl rfl rfl rfl rfl ?_
    rintro r Y (⟨hb, rfl, s1, j1, a1, rfl, u1, u2⟩ | ⟨hb, rfl, s1, j1, a1, rfl, u2⟩)
    case inr =>
      have hN := numsP_no (w := 1) (RP := s 22) (RF := s 23) (k := 1) (i := 0) (ns := fun _ => 0) (nuP_f hb)
      exact ⟨rfl, rfl, AJ.run kX8_isLine [] 60 ⟨fun _ => ⟨Or.inl rfl, nxt _ _ (by omega) (Or.inl ⟨_, hN, rfl, s1, j1, a1, rfl, u2⟩)⟩, fun hz => absurd rfl hz⟩⟩
    obtain ⟨t1, t2⟩ := nuP_t hb
    have hA := numsP_ok (k := 1) 1 (s 22) (s 23) 0 (fun _ => 0) t1 t2
    have c2 := c8_num L s a n i 1 (tkE (a 14) n p) (upd (fun _ => 0) 0 (tkN (a 14) n p)) 1 30 s1 j1 a1 (by omega) hn h200 u2
    rw [show 5 * i + 1 + 1 = 5 * i + 2 by omega, i2] at c2
    refine ⟨rfl, rfl, AJ.run kX8_isLine [266] 60 ⟨fun hz => absurd hz (by decide), fun _ => ?_⟩⟩
    refine AJ.callF kX8_isLine c2 bX8_isNumber rfl (by decide +kernel) [] rfl rfl rfl rfl rfl rfl rfl rfl ?_
    rintro r Y (⟨hb, rfl, s2, j2, a2, rfl, w1, w2⟩ | ⟨hb, rfl, s2, j2, a2, rfl, w2⟩)
    case inr =>
      have hN := numsP_no (w := 1) (RP := s 22) (RF := s 23) (k := 0) (i := 1) (ns := upd (fun _ => 0) 0 (tkN (a 14) n p)) (nuP_f hb)
      exact ⟨rfl, rfl, AJ.run kX8_isLine [] 60 ⟨fun _ => ⟨Or.inl rfl, nxt _ _ (by omega) (Or.inl ⟨_, hA.trans hN, rfl, s2, j2, a2, rfl, w2⟩)⟩, fun hz => absurd rfl hz⟩⟩
    obtain ⟨t3, t4⟩ := nuP_t hb
    have hB := numsP_ok (k := 0) 1 (s 22) (s 23) 1 (upd (fun _ => 0) 0 (tkN (a 14) n p)) t3 t4
    exact ⟨rfl, rfl, AJ.run kX8_isLine [] 60 ⟨fun hz => absurd hz (by decide), fun _ => ⟨Or.inr rfl, nxt _ _ (by omega) (Or.inr ⟨_, _, hA.trans hB, rfl, s2, j2, a2, rfl, w2.ok rfl rfl rfl rfl⟩)⟩⟩⟩
  · obtain rfl : 2 = w := by rcases sw 2 h with z | z; exact z; exact absurd (by omega) z
    have c1 := c8_num L s a n i 0 p (fun _ => 0) 1 6 s j a (by omega) hn h200 (nsR.rf hs hp _)
    rw [Nat.add_zero, i1] at c1
    refine AJ.run kX8_isLine [] 60 ?_
    refine AJ.callF kX8_isLine c1 bX8_isNumber rfl (by decide +kernel) [] rfl rfl rfl rfl rfl rfl rfl rfl ?_
    rintro r Y (⟨hb, rfl, s1, j1, a1, rfl, u1, u2⟩ | ⟨hb, rfl, s1, j1, a1, rfl, u2⟩)
    · obtain ⟨t1, t2⟩ := nuP_t hb
      have hA := numsP_ok (k := 0) 2 (s 22) (s 23) 0 (fun _ => 0) t1 t2
      exact ⟨rfl, rfl, AJ.run kX8_isLine [] 60 ⟨Or.inr rfl, nxt _ _ (by omega) (Or.inr ⟨_, _, hA, rfl, s1, j1, a1, rfl, u2.ok rfl rfl rfl rfl⟩)⟩⟩
    · have hN := numsP_no (w := 2) (RP := s 22) (RF := s 23) (k := 0) (i := 0) (ns := fun _ => 0) (nuP_f hb)
      exact ⟨rfl, rfl, AJ.run kX8_isLine [] 60 ⟨Or.inl rfl, nxt _ _ (by omega) (Or.inl ⟨_, hN, rfl, s1, j1, a1, rfl, u2⟩)⟩⟩
  · obtain rfl : 3 = w := by rcases sw 3 h with z | z; exact z; exact absurd (by omega) z
    have c1 := c8_num L s a n i 0 p (fun _ => 0) 0 99 s j a (by omega) hn h200 (nsR.rf hs hp _)
    rw [Nat.add_zero, i1] at c1
    refine AJ.run kX8_isLine [] 60 ?_
    refine AJ.callF kX8_isLine c1 bX8_isNumber rfl (by decide +kernel) [] rfl rfl rfl rfl rfl rfl rfl rfl ?_
    rintro r Y (⟨hb, rfl, s1, j1, a1, rfl, u1, u2⟩ | ⟨hb, rfl, s1, j1, a1, rfl, u2⟩)
    · obtain ⟨t1, t2⟩ := nuP_t hb
      have hA := numsP_ok (k := 0) 3 (s 22) (s 23) 0 (fun _ => 0) t1 t2
      exact ⟨rfl, rfl, AJ.run kX8_isLine [] 60 ⟨Or.inr rfl, nxt _ _ (by omega) (Or.inr ⟨_, _, hA, rfl, s1, j1, a1, rfl, u2.ok rfl rfl rfl rfl⟩)⟩⟩
    · have hN := numsP_no (w := 3) (RP := s 22) (RF := s 23) (k := 0) (i := 0) (ns := fun _ => 0) (nuP_f hb)
      exact ⟨rfl, rfl, AJ.run kX8_isLine [] 60 ⟨Or.inl rfl, nxt _ _ (by omega) (Or.inl ⟨_, hN, rfl, s1, j1, a1, rfl, u2⟩)⟩⟩
  · obtain rfl : 4 = w := by rcases sw 4 h with z | z; exact z; exact absurd (by omega) z
    exact c8_il_tram L Q s j a n i p n0 x2 x3 hi hn h200 hs hp (fun r Y h => nxt r Y (by omega) h)
  · obtain rfl : 5 = w := by rcases sw 5 h with z | z; exact z; exact absurd (by omega) z
    refine AJ.run kX8_isLine [] 60 ?_
    refine AJ.callF kX8_isLine (c8_isFolk L s j a n i p hi hn h200 hs hp) bX8_isFolk rfl (by decide +kernel) [] rfl rfl rfl rfl rfl rfl rfl rfl ?_
    intro r Y hQ
    have nx := nxt r Y (by omega) hQ
    rcases hQ with ⟨e, h2, rfl, s', j', a', rfl, h3⟩ | ⟨ns, p', h2, rfl, s', j', a', rfl, h3⟩
    · exact ⟨rfl, rfl, AJ.run kX8_isLine [] 60 ⟨Or.inl rfl, nx⟩⟩
    · exact ⟨rfl, rfl, AJ.run kX8_isLine [] 60 ⟨Or.inr rfl, nx⟩⟩
  case refine_10 =>
    obtain rfl : 9 = w := by rcases sw 9 h with z | z; exact z; exact absurd (by omega) z
    have hN : numsP (a 14) n 9 (s 22) (s 23) (cntN 9) 0 (fun _ => 0) p = .inr (fun _ => 0, p) := rfl
    refine AJ.run kX8_isLine [] 60 ⟨Or.inr rfl, nxt _ _ (by omega) (Or.inr ⟨_, _, hN, rfl, upd s 24 0, j, a, rfl, fun x hx => pk_un (by omega), fun _ _ => rfl, fun _ _ => rfl, hs, hp, fun k hk => ?_, rfl, rfl, rfl⟩)⟩
    exact absurd hk (by rw [show cntN 9 = 0 from rfl]; omega)
  case refine_11 =>
    exfalso
    rcases (show w = 0 ∨ w = 1 ∨ w = 2 ∨ w = 3 ∨ w = 4 ∨ w = 5 ∨ w = 6 ∨ w = 7 ∨ w = 8 ∨ w = 9 by omega) with z | z | z | z | z | z | z | z | z | z <;> subst z
    · exact h0 ha
    · exact h1 ha
    · exact h2 ha
    · exact h3 ha
    · exact h4 ha
    · exact h5 ha
    · exact h6 ha
    · exact h7 ha
    · exact h8 ha
    · exact h9 ha
  all_goals
    have hw3 : 6 ≤ w ∧ w ≤ 8 := by
      first
      | exact swm 6 (by omega) h
      | exact swm 7 (by omega) h
      | exact swm 8 (by omega) h
    refine AJ.run kX8_isLine [] 60 ?_
    refine AJ.callF kX8_isLine (c8_isMood L s j a n i p w hw3 hi hn h200 hs hp) bX8_isMood rfl (by decide +kernel) [] rfl rfl rfl rfl rfl rfl rfl rfl ?_
    rintro r Y (⟨hz, rfl, rfl⟩ | ⟨hz, hQ⟩)
    · exact ⟨rfl, rfl, AJ.run kX8_isLine [] 60 ⟨Or.inl rfl, nx0 ⟨hw3.1, hw3.2, hz⟩⟩⟩
    · have nx := nxt r Y (fun z => hz z.2.2) hQ
      rcases hQ with ⟨e, h2, rfl, s', j', a', rfl, h3⟩ | ⟨ns, p', h2, rfl, s', j', a', rfl, h3⟩
      · exact ⟨rfl, rfl, AJ.run kX8_isLine [] 60 ⟨Or.inl rfl, nx⟩⟩
      · exact ⟨rfl, rfl, AJ.run kX8_isLine [] 60 ⟨Or.inr rfl, nx⟩⟩
set_option maxHeartbeats 1000000 in
theorem c8_isLine (L : xLn) (s : xN) (j : Int64) (a : Nat → xN) (n i p : Nat) (hi : i < 10) (hn : s 13 = nI n) (h200 : n ≤ 200) (hs : s 15 = nI p) (hp : p ≤ n) : CT L mX8_isLine 4 0 0 [.ref 0, .int (nI (5 * i))] (modW s j a) (liQ (a 14) n i p s a) := by
  refine CT.of rfl (Nat.le_of_ble_eq_true rfl) (Nat.le_of_ble_eq_true rfl) ?_
  refine AJ.run kX8_isLine [] 60 ?_
  refine AJ.callF kX8_isLine (c8_nextToken L s j a n p hn h200 hs hp) bX8_nextToken rfl (by decide +kernel) [] rfl rfl rfl rfl rfl rfl rfl rfl ?_
  rintro r Y ⟨rfl, s1, j1, rfl, t1, t2, t3, t4, t5⟩
  refine ⟨rfl, rfl, ?_⟩
  have hE := tkE_le (f := a 14) hp
  -- from the row on
  have at178 : ∀ (w : Nat) (x2 x3 : Int32), wdN (tkJ (a 14) n p) = w → w < 10 → AJ L mX8_isLine 4 0 0 (liQ (a 14) n i p s a) (modW s j a).length (0, 0) 178 [some (.ref 0), some (.int (nI (5 * i))), some (.int x2), some (.int x3)] [] (modW s1 j1 (va_up a 25 (upd (a 25) (5 * i) (nI w)))) := by
    intro w x2 x3 h1 h2
    have e24 := t1 24 (by omega) (by omega) (by omega) (by omega)
    refine c8_il_word L _ s1 j1 (va_up a 25 (upd (a 25) (5 * i) (nI w))) n i (tkE (a 14) n p) w _ x2 x3 hi ((t1 13 (by omega) (by omega) (by omega) (by omega)).trans hn) h200 t2 hE.2 h2 pk_us ?_ ?_
    · intro r Y h3 h4
      rw [e24] at h3
      exact li_of (a 14) n i p w s a s1 h2 h1 h3 t1 h4
    · intro h3
      rw [e24] at h3
      refine Or.inl ⟨tkS (a 14) n p, ?_, rfl, _, _, _, rfl, fun x hx => ?_, fun x hx => if_neg hx, fun x hx => pk_un (by omega), t3⟩
      · unfold lineP
        rw [h1, if_pos (Or.inr h3)]
      · rw [pk_un (by omega)]
        exact t1 x (by omega) (by omega) (by omega) (by omega)
  have non : ∀ x2 x3 : Int32, wdN (tkJ (a 14) n p) = 10 → AJ L mX8_isLine 4 0 0 (liQ (a 14) n i p s a) (modW s j a).length (0, 0) 178 [some (.ref 0), some (.int (nI (5 * i))), some (.int x2), some (.int x3)] [] (modW s1 j1 (va_up a 25 (upd (a 25) (5 * i) (-1)))) := by
    intro x2 x3 h1
    have fin : liQ (a 14) n i p s a (some (.int 0)) (modW (upd s1 20 (s1 16)) j1 (va_up a 25 (upd (a 25) (5 * i) (-1)))) := by
      refine Or.inl ⟨tkS (a 14) n p, ?_, rfl, _, _, _, rfl, fun x hx => ?_, fun x hx => if_neg hx, fun x hx => pk_un (by omega), t3⟩
      · unfold lineP
        rw [if_pos (Or.inl h1)]
      · rw [pk_un (by omega)]
        exact t1 x (by omega) (by omega) (by omega) (by omega)
    generalize liQ (a 14) n i p s a = Q at fin ⊢
    have er : upd (a 25) (5 * i) (-1) (5 * i) = -1 := pk_us
    refine AJ.run kX8_isLine [240, 246, 278, 289, 300, 360, 366, 372, 379] 60 ⟨5 * i, rfl, by omega, ?_⟩
    refine ⟨fun h => absurd (er.symm.trans h) (by decide), fun _ => ⟨fun h => absurd (er.symm.trans h) (by decide), fun _ => ⟨fun h => absurd (er.symm.trans h) (by decide), fun _ => ⟨fun h => absurd (er.symm.trans h) (by decide), fun _ => ⟨fun h => absurd (er.symm.trans h) (by decide), fun _ => ⟨fun h => absurd (er.symm.trans h) (by decide), fun _ => ⟨fun h => absurd (er.symm.trans h) (by decide), fun _ => ⟨fun h => absurd (er.symm.trans h) (by decide), fun _ => ⟨fun h => absurd (er.symm.trans h) (by decide), fun _ => ⟨fun h => absurd (er.symm.trans h) (by decide), fun _ => ?_⟩⟩⟩⟩⟩⟩⟩⟩⟩⟩
    refine AJ.run kX8_isLine [] 60 ?_
    refine AJ.callF kX8_isLine (c8_fails L s1 j1 (va_up a 25 (upd (a 25) (5 * i) (-1)))) bX8_fails rfl (by decide +kernel) [] rfl rfl rfl rfl rfl rfl rfl rfl ?_
    rintro r Y ⟨rfl, rfl⟩
    exact ⟨rfl, rfl, AJ.run kX8_isLine [] 60 ⟨Or.inl rfl, fin⟩⟩
  generalize liQ (a 14) n i p s a = Q at at178 non ⊢
  rw [← t4] at at178 non
  clear t5 t4 t3 t2 t1 hE
  -- the second half of the words: the row gets b where the first half found none
  have at80n : ¬ j1 = 355278 → ¬ j1 = 287015 → ¬ j1 = 10197082 → ¬ j1 = 119318 → ¬ j1 = 406822 → AJ L mX8_isLine 4 0 0 Q (modW s j a).length (0, 0) 80 [some (.ref 0), some (.int (nI (5 * i))), none, none] [.int (-1)] (modW s1 j1 a) := by
    intro g0 g1 g2 g3 g4
    have hw : wdN j1 = if j1 = 129368 then 5 else if j1 = 10728469 then 6 else if j1 = 126216878256 then 7 else if j1 = 82451 then 8 else if j1 = 60115 then 9 else 10 := by
      unfold wdN
      rw [if_neg g0, if_neg g1, if_neg g2, if_neg g3, if_neg g4]
    have st : ∀ w : Nat, wdN j1 = w → w < 10 → AJ L mX8_isLine 4 0 0 Q (modW s j a).length (0, 0) 161 [some (.ref 0), some (.int (nI (5 * i))), some (.int (-1)), none] [.int (nI w)] (modW s1 j1 a) := by
      intro w h1 h2
      exact AJ.run kX8_isLine [178] 60 ⟨fun hz => absurd rfl hz, fun _ => ⟨5 * i, rfl, by omega, at178 w (-1) (nI w) h1 h2⟩⟩
    have st0 : wdN j1 = 10 → AJ L mX8_isLine 4 0 0 Q (modW s j a).length (0, 0) 161 [some (.ref 0), some (.int (nI (5 * i))), some (.int (-1)), none] [.int (-1)] (modW s1 j1 a) := by
      intro h1
      exact AJ.run kX8_isLine [178] 60 ⟨fun hz => absurd rfl hz, fun _ => ⟨5 * i, rfl, by omega, non (-1) (-1) h1⟩⟩
    refine AJ.run kX8_isLine [161] 60 ⟨fun h5 => ⟨fun h6 => ⟨fun h7 => ⟨fun h8 => ⟨fun h9 => st0 ?_, fun h9 => st 9 ?_ (by omega)⟩, fun h8 => st 8 ?_ (by omega)⟩, fun h7 => st 7 ?_ (by omega)⟩, fun h6 => st 6 ?_ (by omega)⟩, fun h5 => st 5 ?_ (by omega)⟩
    all_goals simp only [lg_cmp_eq] at *
    · rw [hw, if_neg h5, if_neg h6, if_neg h7, if_neg h8, if_neg h9]
    · rw [hw, if_neg h5, if_neg h6, if_neg h7, if_neg h8, if_pos h9]
    · rw [hw, if_neg h5, if_neg h6, if_neg h7, if_pos h8]
    · rw [hw, if_neg h5, if_neg h6, if_pos h7]
    · rw [hw, if_neg h5, if_pos h6]
    · rw [hw, if_pos h5]
  have at80 : ∀ w : Nat, wdN j1 = w → w < 5 → AJ L mX8_isLine 4 0 0 Q (modW s j a).length (0, 0) 80 [some (.ref 0), some (.int (nI (5 * i))), none, none] [.int (nI w)] (modW s1 j1 a) := by
    intro w h1 h2
    have st : ∀ v : Int32, AJ L mX8_isLine 4 0 0 Q (modW s j a).length (0, 0) 161 [some (.ref 0), some (.int (nI (5 * i))), some (.int (nI w)), none] [.int v] (modW s1 j1 a) := by
      intro v
      refine AJ.run kX8_isLine [178] 60 ⟨fun _ => ⟨5 * i, rfl, by omega, at178 w (nI w) v h1 (by omega)⟩, fun hz => ?_⟩
      exfalso
      have hz : nI w = -1 := hz
      have := i32_eq.mp hz
      rw [nI_toInt (by omega)] at this
      have e : (-1 : Int32).toInt = -1 := rfl
      omega
    exact AJ.run kX8_isLine [161] 60 ⟨fun h5 => ⟨fun h6 => ⟨fun h7 => ⟨fun h8 => ⟨fun h9 => st _, fun h9 => st _⟩, fun h8 => st _⟩, fun h7 => st _⟩, fun h6 => st _⟩, fun h5 => st _⟩
  refine AJ.run kX8_isLine [80] 60 ⟨fun h0 => ⟨fun h1 => ⟨fun h2 => ⟨fun h3 => ⟨fun h4 => at80n ?_ ?_ ?_ ?_ ?_, fun h4 => at80 4 ?_ (by omega)⟩, fun h3 => at80 3 ?_ (by omega)⟩, fun h2 => at80 2 ?_ (by omega)⟩, fun h1 => at80 1 ?_ (by omega)⟩, fun h0 => at80 0 ?_ (by omega)⟩
  all_goals simp only [lg_cmp_eq] at *
  · exact h0
  · exact h1
  · exact h2
  · exact h3
  · exact h4
  · unfold wdN; rw [if_neg h0, if_neg h1, if_neg h2, if_neg h3, if_pos h4]
  · unfold wdN; rw [if_neg h0, if_neg h1, if_neg h2, if_pos h3]
  · unfold wdN; rw [if_neg h0, if_neg h1, if_pos h2]
  · unfold wdN; rw [if_neg h0, if_pos h1]
  · unfold wdN; rw [if_pos h0]
