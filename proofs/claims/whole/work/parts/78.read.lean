/-! ===== the class: a line is done, a line is read ===== -/
theorem upd_id {t : xN} {k : Nat} {v : Int32} (h : t k = v) : upd t k v = t := by
  funext i
  unfold upd
  split
  · next e => rw [e, h]
  · rfl
def dlQ (fa li fr to : Int32) (n : Nat) (f nu u : xN) (ua : Nat → xN) (s : xN) (a : Nat → xN) : Option Value → List xE → Prop := fun r Y => r = none ∧ ∃ t ta m, RT m t ta s a ∧ s 9 = nI m ∧ m ≤ 24 ∧ Y = rdW fa li fr to n f t ta nu u ua
theorem dl_gen {L : xLn} {M : xM} {d : Nat} {av : List Value} {X : List xE} {fa li fr to : Int32} {n : Nat} {f nu u : xN} {ua : Nat → xN} {s : xN} {a : Nat → xN} (H : ∀ Q : Option Value → List xE → Prop, (∀ t ta m, RT m t ta s a → s 9 = nI m → m ≤ 24 → Q none (rdW fa li fr to n f t ta nu u ua)) → CT L M d 0 0 av X Q) : CT L M d 0 0 av X (dlQ fa li fr to n f nu u ua s a) := H _ (fun t ta m h1 h2 h3 => ⟨rfl, t, ta, m, h1, h2, h3, rfl⟩)
set_option maxHeartbeats 2000000 in
theorem cR_doLine (L : xLn) (fa li fr to : Int32) (n : Nat) (f t : xN) (ta : Nat → xN) (nu u : xN) (ua : Nat → xN) (w l m : Nat) (ns s : xN) (a : Nat → xN) (hT : RT m t ta s a) (hW : WT l m s a) (hl : lnOK w ns s) (hn : ∀ k, k < cntN w → nu k = ns k) : CT L mX4_doLine 3 0 0 [.ref 0, .int (nI w)] (rdW fa li fr to n f t ta nu u ua) (dlQ fa li fr to n f nu u ua (dlS w ns s) (dlA w ns s a)) := by
  refine dl_gen fun Q fin => ?_
  obtain ⟨⟨g1, g2, g3⟩, ⟨m1, m2⟩, -⟩ := hW
  obtain ⟨⟨e0, e1, e2, e3, e4, e5, e7, e12⟩, t1, t2, t3, t4⟩ := id hT
  obtain ⟨hw, o1, o2⟩ := hl
  refine CT.of rfl (Nat.le_of_ble_eq_true rfl) (Nat.le_of_ble_eq_true rfl) ?_
  rcases (show w = 0 ∨ w = 1 ∨ w = 2 ∨ w = 3 ∨ w = 4 ∨ w = 5 ∨ (6 ≤ w ∧ w ≤ 8) ∨ w = 9 by omega) with rfl | rfl | rfl | rfl | rfl | rfl | hw3 | rfl
  · rw [dlS_w0, dlA_w (by omega), ← hn 0 (by decide)] at fin
    refine AJ.run kX4_doLine [] 30 ⟨fun _ => ⟨0, rfl, by omega, ?_⟩, fun z => absurd rfl z⟩
    refine AJ.callU kX4_doLine (cT_layRail L t ta (nu 0)) bX6_layRail rfl (by decide +kernel) [3, 4, 5, 6, 7, 8, 9, 10, 11, 12] [] rfl rfl rfl rfl rfl rfl rfl rfl rfl rfl ?_
    rintro r Y ⟨rfl, g, hg, rfl⟩
    refine ⟨rdW fa li fr to n f (upd (upd (upd (upd t 0 (nu 0)) 5 0) 9 0) 12 0) (va_up ta 16 g) nu u ua, rfl, rfl, ?_⟩
    refine AJ.run kX4_doLine [] 30 (fin _ _ 0 (RT_clear hg ⟨rfl, e1, e2, e3, e4, rfl, rfl, rfl⟩ t1 t2) rfl (by omega))
  · rw [dlS_w1, dlA_w (by omega), ← hn 0 (by decide), ← hn 1 (by decide)] at fin
    have := fin (upd (upd t 1 (nu 0)) 2 (nu 1)) ta m ⟨⟨e0, rfl, rfl, e3, e4, e5, e7, e12⟩, t1, t2, t3, t4⟩ m2 m1
    exact AJ.run kX4_doLine [] 30 ⟨fun z => absurd z (by decide), fun _ => ⟨fun _ => ⟨0, rfl, by omega, 1, rfl, by omega, this⟩, fun z => absurd rfl z⟩⟩
  · rw [dlS_w2, dlA_w (by omega), ← hn 0 (by decide)] at fin
    have := fin (upd t 3 (nu 0)) ta m ⟨⟨e0, e1, e2, rfl, e4, e5, e7, e12⟩, t1, t2, t3, t4⟩ m2 m1
    exact AJ.run kX4_doLine [] 30 ⟨fun z => absurd z (by decide), fun _ => ⟨fun z => absurd z (by decide), fun _ => ⟨fun _ => ⟨0, rfl, by omega, this⟩, fun z => absurd rfl z⟩⟩⟩
  · rw [dlS_w3, dlA_w (by omega), ← hn 0 (by decide)] at fin
    have := fin (upd t 4 (nu 0)) ta m ⟨⟨e0, e1, e2, e3, rfl, e5, e7, e12⟩, t1, t2, t3, t4⟩ m2 m1
    exact AJ.run kX4_doLine [] 30 ⟨fun z => absurd z (by decide), fun _ => ⟨fun z => absurd z (by decide), fun _ => ⟨fun z => absurd z (by decide), fun _ => ⟨fun _ => ⟨0, rfl, by omega, this⟩, fun z => absurd rfl z⟩⟩⟩⟩
  · obtain ⟨v, v1, ev⟩ := inP_nI (n := 1) (by omega) (o2 0 (by decide))
    have n0 : nu 0 = nI v := (hn 0 (by decide)).trans ev
    rw [dlS_w4, dlA_w4, ev, nI_clamp (by omega), ← hn 1 (by decide), ← hn 2 (by decide), ← hn 3 (by decide)] at fin
    have call : AJ L mX4_doLine 3 0 0 Q (rdW fa li fr to n f t ta nu u ua).length (0, 0) 161 [some (.ref 0), some (.int (nI 4))] [.int (nu 3), .int (nu 2), .int (nu 1), .int (nI v), .ref 3] (rdW fa li fr to n f t ta nu u ua) := by
      refine AJ.callU kX4_doLine (cT_putTram L t ta v (by omega) (nu 1) (nu 2) (nu 3)) bX6_putTram rfl (by decide +kernel) [3, 4, 5, 6, 7, 8, 9, 10, 11, 12] [] rfl rfl rfl rfl rfl rfl rfl rfl rfl rfl ?_
      rintro r Y ⟨rfl, rfl⟩
      refine ⟨rdW fa li fr to n f (upd t 5 (t 5 ||| 1 <<< (nI v &&& 31))) (va_up (va_up (va_up ta 6 (upd (ta 6) v (nu 1))) 7 (upd (ta 7) v (nu 2))) 8 (upd (ta 8) v (nu 3))) nu u ua, rfl, rfl, ?_⟩
      refine AJ.run kX4_doLine [] 30 (fin _ _ m ⟨⟨e0, e1, e2, e3, e4, ?_, e7, e12⟩, fun k hk => ?_, t2, t3, t4⟩ m2 m1)
      · show t 5 ||| 1 <<< (nI v &&& 31) = s 5 ||| 1 <<< (nI v &&& 31)
        rw [e5]
      · show upd (ta 6) v (nu 1) k = upd (upd (upd (a 6) (3 * v) (nu 1)) (3 * v + 1) (nu 2)) (3 * v + 2) (nu 3) (3 * k) ∧ upd (ta 7) v (nu 2) k = upd (upd (upd (a 6) (3 * v) (nu 1)) (3 * v + 1) (nu 2)) (3 * v + 2) (nu 3) (3 * k + 1) ∧ upd (ta 8) v (nu 3) k = upd (upd (upd (a 6) (3 * v) (nu 1)) (3 * v + 1) (nu 2)) (3 * v + 2) (nu 3) (3 * k + 2)
        by_cases e : k = v
        · subst e
          refine ⟨?_, ?_, ?_⟩
          · rw [pk_us, pk_un (by omega), pk_un (by omega), pk_us]
          · rw [pk_us, pk_un (by omega), pk_us]
          · rw [pk_us, pk_us]
        · rw [pk_un e, pk_un e, pk_un e, pk_un (by omega), pk_un (by omega), pk_un (by omega), pk_un (by omega), pk_un (by omega), pk_un (by omega), pk_un (by omega), pk_un (by omega), pk_un (by omega)]
          exact t1 k hk
    rw [← n0] at call
    exact AJ.run kX4_doLine [] 60 ⟨fun z => absurd z (by decide), fun _ => ⟨fun z => absurd z (by decide), fun _ => ⟨fun z => absurd z (by decide), fun _ => ⟨fun z => absurd z (by decide), fun _ => ⟨fun _ => ⟨0, rfl, by omega, 1, rfl, by omega, 2, rfl, by omega, 3, rfl, by omega, call⟩, fun z => absurd rfl z⟩⟩⟩⟩⟩
  · obtain ⟨v, v1, ev⟩ := inP_nI (n := 7) (by omega) (o2 0 (by decide))
    have n0 : nu 0 = nI v := (hn 0 (by decide)).trans ev
    rw [dlS_w5, dlA_w5, ev, nI_clamp (by omega), ← hn 1 (by decide), ← hn 2 (by decide)] at fin
    have call : AJ L mX4_doLine 3 0 0 Q (rdW fa li fr to n f t ta nu u ua).length (0, 0) 189 [some (.ref 0), some (.int (nI 5))] [.int (nu 2), .int (nu 1), .int (nI v), .ref 3] (rdW fa li fr to n f t ta nu u ua) := by
      refine AJ.callU kX4_doLine (cT_putPerson L t ta v (by omega) (nu 1) (nu 2)) bX6_putPerson rfl (by decide +kernel) [3, 4, 5, 6, 7, 8, 9, 10, 11, 12] [] rfl rfl rfl rfl rfl rfl rfl rfl rfl rfl ?_
      rintro r Y ⟨rfl, rfl⟩
      refine ⟨rdW fa li fr to n f (upd t 9 (t 9 ||| 1 <<< (nI v &&& 31))) (va_up (va_up ta 10 (upd (ta 10) v (nu 1))) 11 (upd (ta 11) v (nu 2))) nu u ua, rfl, rfl, ?_⟩
      refine AJ.run kX4_doLine [] 30 (fin _ _ m ⟨⟨e0, e1, e2, e3, e4, e5, ?_, e12⟩, t1, fun k hk => ?_, t3, t4⟩ m2 m1)
      · show t 9 ||| 1 <<< (nI v &&& 31) = s 7 ||| 1 <<< (nI v &&& 31)
        rw [e7]
      · show upd (ta 10) v (nu 1) k = upd (upd (a 8) (2 * v) (nu 1)) (2 * v + 1) (nu 2) (2 * k) ∧ upd (ta 11) v (nu 2) k = upd (upd (a 8) (2 * v) (nu 1)) (2 * v + 1) (nu 2) (2 * k + 1)
        by_cases e : k = v
        · subst e
          refine ⟨?_, ?_⟩
          · rw [pk_us, pk_un (by omega), pk_us]
          · rw [pk_us, pk_us]
        · rw [pk_un e, pk_un e, pk_un (by omega), pk_un (by omega), pk_un (by omega), pk_un (by omega)]
          exact t2 k hk
    rw [← n0] at call
    exact AJ.run kX4_doLine [] 60 ⟨fun z => absurd z (by decide), fun _ => ⟨fun z => absurd z (by decide), fun _ => ⟨fun z => absurd z (by decide), fun _ => ⟨fun z => absurd z (by decide), fun _ => ⟨fun z => absurd z (by decide), fun _ => ⟨fun _ => ⟨0, rfl, by omega, 1, rfl, by omega, 2, rfl, by omega, call⟩, fun z => absurd rfl z⟩⟩⟩⟩⟩⟩
  · have hcn : cntN w = 2 := by rcases (show w = 6 ∨ w = 7 ∨ w = 8 by omega) with rfl | rfl | rfl <;> rfl
    have hm24 : m < 24 := by
      have h24 := o1 hw3
      rw [m2] at h24
      rcases Nat.lt_or_ge m 24 with z | z
      · exact z
      · exact absurd (by rw [show m = 24 by omega]; rfl) h24
    have hc : ∀ i ns v, cstP w i (s 0) (s 7) ns v = if i = 0 then inP v 0 7 && hasP (s 7) v else inP v 0 59 := by
      intro i ns v
      rcases (show w = 6 ∨ w = 7 ∨ w = 8 by omega) with rfl | rfl | rfl <;> rfl
    have b1 := o2 1 (by omega)
    rw [hc, if_neg (by decide)] at b1
    obtain ⟨g, q1, et⟩ := inP_nI (n := 59) (by omega) b1
    have n1 : nu 1 = nI g := (hn 1 (by omega)).trans et
    rw [dlS_wm hw3, dlA_wm hw3, m2, nI_clamp (by omega), et, ← hn 0 (by omega)] at fin
    have ht : upd t 12 (nI m) = t := upd_id e12
    have call : ∀ kd : Int32, kd = nI w - 6 → AJ L mX4_doLine 3 0 0 Q (rdW fa li fr to n f t ta nu u ua).length (0, 0) 225 [some (.ref 0), some (.int (nI w))] [.int (nI g), .int kd, .int (nu 0), .ref 3] (rdW fa li fr to n f t ta nu u ua) := by
      intro kd hkd
      rw [← hkd] at fin
      have fin2 := fin _ _ (m + 1) (RT_s (RT_add (w := nu 0) (kd := kd) (g := g) (by omega) (by omega) hT) (s' := upd s 9 (nI m + 1)) (a' := addP a m (nu 0) kd (nI g)) (fun i hi => pk_un (by omega)) rfl rfl (fun _ _ => rfl)) (by rw [pk_us]; exact nI_1 m) (by omega)
      have cc := cT_addMood L t ta m g (by omega) (by omega) (nu 0) kd
      rw [ht] at cc
      refine AJ.callU kX4_doLine cc bX6_addMood rfl (by decide +kernel) [3, 4, 5, 6, 7, 8, 9, 10, 11, 12] [] rfl rfl rfl rfl rfl rfl rfl rfl rfl rfl ?_
      rintro r Y ⟨rfl, rfl⟩
      refine ⟨rdW fa li fr to n f (upd t 12 (nI m + 1)) (tAdd ta m (nu 0) kd g) nu u ua, rfl, rfl, ?_⟩
      exact AJ.run kX4_doLine [] 30 fin2
    have c2 := call _ rfl
    rw [← n1] at c2
    rcases (show w = 6 ∨ w = 7 ∨ w = 8 by omega) with rfl | rfl | rfl
    · exact AJ.run kX4_doLine [] 60 ⟨fun z => absurd z (by decide), fun _ => ⟨fun z => absurd z (by decide), fun _ => ⟨fun z => absurd z (by decide), fun _ => ⟨fun z => absurd z (by decide), fun _ => ⟨fun z => absurd z (by decide), fun _ => ⟨fun z => absurd z (by decide), fun _ => ⟨fun _ => ⟨0, rfl, by omega, 1, rfl, by omega, c2⟩, fun z => absurd rfl z⟩⟩⟩⟩⟩⟩⟩
    · exact AJ.run kX4_doLine [] 60 ⟨fun z => absurd z (by decide), fun _ => ⟨fun z => absurd z (by decide), fun _ => ⟨fun z => absurd z (by decide), fun _ => ⟨fun z => absurd z (by decide), fun _ => ⟨fun z => absurd z (by decide), fun _ => ⟨fun z => absurd z (by decide), fun _ => ⟨fun z => absurd z (by decide), fun _ => ⟨fun _ => ⟨0, rfl, by omega, 1, rfl, by omega, c2⟩, fun z => absurd rfl z⟩⟩⟩⟩⟩⟩⟩⟩
    · exact AJ.run kX4_doLine [] 60 ⟨fun z => absurd z (by decide), fun _ => ⟨fun z => absurd z (by decide), fun _ => ⟨fun z => absurd z (by decide), fun _ => ⟨fun z => absurd z (by decide), fun _ => ⟨fun z => absurd z (by decide), fun _ => ⟨fun z => absurd z (by decide), fun _ => ⟨fun z => absurd z (by decide), fun _ => ⟨fun z => absurd z (by decide), fun _ => ⟨fun _ => ⟨0, rfl, by omega, 1, rfl, by omega, c2⟩, fun z => absurd rfl z⟩⟩⟩⟩⟩⟩⟩⟩⟩
  · rw [dlS_w9, dlA_w (by omega)] at fin
    refine AJ.run kX4_doLine [] 30 ⟨fun z => absurd z (by decide), fun _ => ⟨fun z => absurd z (by decide), fun _ => ⟨fun z => absurd z (by decide), fun _ => ⟨fun z => absurd z (by decide), fun _ => ⟨fun z => absurd z (by decide), fun _ => ⟨fun z => absurd z (by decide), fun _ => ⟨fun z => absurd z (by decide), fun _ => ⟨fun z => absurd z (by decide), fun _ => ⟨fun z => absurd z (by decide), fun _ => ⟨fun _ => ?_, fun z => absurd rfl z⟩⟩⟩⟩⟩⟩⟩⟩⟩⟩
    refine AJ.callU kX4_doLine (cT_clearMoods L t ta) bX6_clearMoods rfl (by decide +kernel) [3, 4, 5, 6, 7, 8, 9, 10, 11, 12] [] rfl rfl rfl rfl rfl rfl rfl rfl rfl rfl ?_
    rintro r Y ⟨rfl, g, hg, rfl⟩
    refine ⟨rdW fa li fr to n f (upd t 12 0) (va_up ta 16 g) nu u ua, rfl, rfl, ?_⟩
    refine AJ.run kX4_doLine [] 30 (fin _ _ 0 (RT_clear hg ⟨e0, e1, e2, e3, e4, e5, e7, rfl⟩ t1 t2) rfl (by omega))
theorem cst_m1 (w i : Nat) (hw : w < 10) (RP RF : Int32) (ns : xN) : cstP w i RP RF ns (-1) = false := by
  have h0 : ∀ b : Int32, inP (-1) 0 b = false := fun b => in_out (Or.inl (by decide))
  have h1 : ∀ b : Int32, inP (-1) 1 b = false := fun b => in_out (Or.inl (by decide))
  have h2 : ∀ b : Int32, inP (-1) 2 b = false := fun b => in_out (Or.inl (by decide))
  unfold cstP
  split
  · exact h2 _
  · split
    · exact h0 _
    · exact h1 _
  · exact h1 _
  · exact h0 _
  · split
    · exact h0 _
    · split
      · exact h0 _
      · split
        · exact h0 _
        · exact h0 _
  · split
    · exact h0 _
    · split
      · exact h0 _
      · rw [h0]; rfl
  · split
    · rw [h0]; rfl
    · exact h0 _
theorem xnum_ok : ∀ w : Fin 10, xnum.getD w.val 0 = nI (cntN w.val) := by decide +kernel
/-- how the Reader stands behind a line -/
def rlQ (li : Int32) (n : Nat) (f u : xN) (ua : Nat → xN) (o : Nat ⊕ (Nat × xN × Nat)) (s : xN) (a : Nat → xN) : Option Value → List xE → Prop := fun r Y => r = none ∧ ((∃ e li' fr to t ta nu, o = .inl e ∧ Y = rdW (nI e) li' fr to n f t ta nu u ua) ∨ (∃ w ns p t ta m nu, o = .inr (w, ns, p) ∧ RT m t ta (dlS w ns s) (dlA w ns s a) ∧ dlS w ns s 9 = nI m ∧ m ≤ 24 ∧ Y = rdW (-1) (li + 1) (nI (tkS f n p)) (nI (tkE f n p)) n f t ta nu u ua))
theorem lineP_no {f : xN} {n p : Nat} {RP RF RM : Int32} (h : wdN (tkJ f n p) = 10 ∨ (6 ≤ wdN (tkJ f n p) ∧ wdN (tkJ f n p) ≤ 8 ∧ RM = 24)) : lineP f n p RP RF RM = .inl (tkS f n p) := if_pos h
theorem lineP_go {f : xN} {n p : Nat} {RP RF RM : Int32} (h : ¬ (wdN (tkJ f n p) = 10 ∨ (6 ≤ wdN (tkJ f n p) ∧ wdN (tkJ f n p) ≤ 8 ∧ RM = 24))) : lineP f n p RP RF RM = match numsP f n (wdN (tkJ f n p)) RP RF (cntN (wdN (tkJ f n p))) 0 (fun _ => 0) (tkE f n p) with
  | .inl e => .inl e
  | .inr (ns, p') => .inr (wdN (tkJ f n p), ns, p') := if_neg h
theorem wdN_le (J : Int64) : wdN J ≤ 10 := by
  unfold wdN
  split <;> first | omega | (split <;> first | omega | (split <;> first | omega | (split <;> first | omega | (split <;> first | omega | (split <;> first | omega | (split <;> first | omega | (split <;> first | omega | (split <;> first | omega | (split <;> omega)))))))))
set_option maxHeartbeats 2000000 in
/-- the numbers behind the word -/
theorem cR_rl_nums (L : xLn) (Q : Option Value → List xE → Prop) (li : Int32) (n n0 w l m : Nat) (f t : xN) (ta : Nat → xN) (u : xN) (ua : Nat → xN) (s : xN) (a : Nat → xN) (p1 : Nat) (h200 : n ≤ 200) (hw : w < 10) (hT : RT m t ta s a) (hW : WT l m s a)
    (f0 : ∀ e fr to nu, numsP f n w (s 0) (s 7) (cntN w) 0 (fun _ => 0) p1 = .inl e → Q none (rdW (nI e) li fr to n f t ta nu u ua))
    (f1 : ∀ ns p nu, numsP f n w (s 0) (s 7) (cntN w) 0 (fun _ => 0) p1 = .inr (ns, p) → p ≤ n → (∀ k, k < cntN w → nu k = ns k) → ∀ x : Int32, AJ L mX4_readLine 7 0 0 Q n0 (0, 0) 80 [some (.ref 0), some (.int (nI w)), some (.int x)] [] (rdW (-1) li (nI (tkS f n p)) (nI (tkE f n p)) n f t ta nu u ua)) :
    ∀ (k i : Nat) (ns : xN) (p : Nat) (nu : xN), i + k = cntN w → p ≤ n → (∀ x, x < i → nu x = ns x) → numsP f n w (s 0) (s 7) (cntN w) 0 (fun _ => 0) p1 = numsP f n w (s 0) (s 7) k i ns p → AJ L mX4_readLine 7 0 0 Q n0 (0, 0) 28 [some (.ref 0), some (.int (nI w)), some (.int (nI i))] [] (rdW (-1) li (nI (tkS f n p)) (nI (tkE f n p)) n f t ta nu u ua) := by
  have hc4 := cntN_le w
  obtain ⟨⟨g1, g2, g3⟩, -⟩ := hW
  have t0 : t 0 = nI l := hT.1.1.trans g3
  have e0 : t 0 = s 0 := hT.1.1
  have e7 : t 9 = s 7 := hT.1.2.2.2.2.2.2.1
  have xn : xnum.getD w 0 = nI (cntN w) := xnum_ok ⟨w, hw⟩
  intro k
  induction k with
  | zero =>
    intro i ns p nu hi hp hx hN
    obtain rfl : i = cntN w := by omega
    refine AJ.run kX4_readLine [28, 80] 30 ⟨w, rfl, by omega, fun _ => f1 ns p nu hN hp hx _, fun z => absurd ?_ z⟩
    rw [xn]
    exact nI_le (Nat.le_refl _) (by omega)
  | succ k ih =>
    intro i ns p nu hi hp hx hN
    have hS := tkS_le (f := f) hp
    have hE := tkE_le (f := f) hp
    refine AJ.run kX4_readLine [28, 80] 30 ⟨w, rfl, by omega, fun z => absurd (xn ▸ z) (nI_ge (by omega) (by omega)), fun _ => ⟨fun z => absurd z (nI_ge (b := 4) (by omega) (by omega)), fun _ => ?_⟩⟩
    have cn := cR_numberInHand L (-1) li n (tkS f n p) (tkE f n p) f t ta nu u ua h200 hE.1 hE.2
    rw [nh_num hp] at cn
    obtain ⟨v, hv⟩ : ∃ v, v = (if tkJ f n p = -1 then tkN f n p else -1) := ⟨_, rfl⟩
    rw [← hv] at cn
    refine AJ.callF kX4_readLine cn bX4_numberInHand rfl (by decide +kernel) [.int (nI i), .ref 13] rfl rfl rfl rfl rfl rfl rfl rfl ?_
    rintro r Y ⟨rfl, rfl⟩
    refine ⟨rfl, rfl, ?_⟩
    refine AJ.run kX4_readLine [28, 80] 30 ⟨i, rfl, by omega, ?_⟩
    have cs := cR_canStand L (-1) li (nI (tkS f n p)) (nI (tkE f n p)) n f t ta (upd nu i v) u ua w i l hw (by omega) t0 g1 g2
    rw [e0, e7, pk_us, cstP_congr (ns' := ns) (fun x hx2 => (pk_un (by omega)).trans (hx x hx2))] at cs
    obtain ⟨b, hb⟩ : ∃ b, b = cstP w i (s 0) (s 7) ns v := ⟨_, rfl⟩
    rw [← hb] at cs
    refine AJ.callF kX4_readLine cs bX4_canStand rfl (by decide +kernel) [] rfl rfl rfl rfl rfl rfl rfl rfl ?_
    rintro r Y ⟨rfl, rfl⟩
    refine ⟨rfl, rfl, ?_⟩
    refine AJ.run kX4_readLine [28, 80] 30 ⟨fun z => ?_, fun z => ?_⟩
    · rw [bI_ne0] at z
      rw [z] at hb
      have hJ : tkJ f n p = -1 := by
        by_cases c : tkJ f n p = -1
        · exact c
        · rw [if_neg c] at hv
          rw [hv, cst_m1 w i hw] at hb
          cases hb
      rw [if_pos hJ] at hv
      rw [hv] at hb ⊢
      rw [numsP_ok w (s 0) (s 7) i ns hJ hb.symm] at hN
      refine AJ.callF kX4_readLine (cR_takeToken L (-1) li (nI (tkS f n p)) n (tkE f n p) f t ta (upd nu i (tkN f n p)) u ua h200 hE.2) bX4_takeToken rfl (by decide +kernel) [] rfl rfl rfl rfl rfl rfl rfl rfl ?_
      rintro r Y ⟨rfl, rfl⟩
      refine ⟨rfl, rfl, ?_⟩
      have nxt := ih (i + 1) (upd ns i (tkN f n p)) (tkE f n p) (upd nu i (tkN f n p)) (by omega) hE.2 (fun x hx2 => by
        by_cases ex : x = i
        · subst ex; rw [pk_us, pk_us]
        · rw [pk_un ex, pk_un ex]; exact hx x (by omega)) hN
      rw [nI_succ] at nxt
      exact AJ.run kX4_readLine [28, 80] 30 nxt
    · rw [bI_eq0] at z
      rw [z] at hb
      rw [numsP_no (fun hJ => by
        rw [if_pos hJ] at hv
        rw [← hv]; exact hb.symm)] at hN
      have := f0 _ (nI (tkS f n p)) (nI (tkE f n p)) (upd nu i v) hN
      exact this
set_option maxHeartbeats 2000000 in
theorem cR_readLine (L : xLn) (li : Int32) (n p l m : Nat) (f t : xN) (ta : Nat → xN) (nu u : xN) (ua : Nat → xN) (s : xN) (a : Nat → xN) (h200 : n ≤ 200) (hp : p ≤ n) (hT : RT m t ta s a) (hW : WT l m s a) : CT L mX4_readLine 7 0 0 [.ref 0] (rdW (-1) li (nI (tkS f n p)) (nI (tkE f n p)) n f t ta nu u ua) (rlQ li n f u ua (lineP f n p (s 0) (s 7) (s 9)) s a) := by
  obtain ⟨o, ho⟩ : ∃ o, o = lineP f n p (s 0) (s 7) (s 9) := ⟨_, rfl⟩
  rw [← ho]
  obtain ⟨Q, hQ⟩ : ∃ Q, Q = rlQ li n f u ua o s a := ⟨_, rfl⟩
  have q0 : ∀ e li' fr to t ta nu, o = .inl e → Q none (rdW (nI e) li' fr to n f t ta nu u ua) := fun e li' fr to t ta nu h => by rw [hQ]; exact ⟨rfl, Or.inl ⟨e, li', fr, to, t, ta, nu, h, rfl⟩⟩
  have q1 : ∀ w ns p t ta m nu, o = .inr (w, ns, p) → RT m t ta (dlS w ns s) (dlA w ns s a) → dlS w ns s 9 = nI m → m ≤ 24 → Q none (rdW (-1) (li + 1) (nI (tkS f n p)) (nI (tkE f n p)) n f t ta nu u ua) := fun w ns p t ta m nu h1 h2 h3 h4 => by rw [hQ]; exact ⟨rfl, Or.inr ⟨w, ns, p, t, ta, m, nu, h1, h2, h3, h4, rfl⟩⟩
  rw [← hQ]
  clear hQ
  have hS := tkS_le (f := f) hp
  have hE := tkE_le (f := f) hp
  have cw := cR_wordInHand L (-1) li n (tkS f n p) (tkE f n p) f t ta nu u ua h200 hE.1 (by omega)
  rw [wd_word hp] at cw
  obtain ⟨w, hw⟩ : ∃ w, w = wdN (tkJ f n p) := ⟨_, rfl⟩
  have w10' : w ≤ 10 := by rw [hw]; exact wdN_le _
  rw [← hw] at cw
  have e12 : t 12 = nI m := hT.1.2.2.2.2.2.2.2
  obtain ⟨m1, m2⟩ := hW.2.1
  refine CT.of rfl (Nat.le_of_ble_eq_true rfl) (Nat.le_of_ble_eq_true rfl) ?_
  refine AJ.run kX4_readLine [] 30 ?_
  refine AJ.callF kX4_readLine cw bX4_wordInHand rfl (by decide +kernel) [] rfl rfl rfl rfl rfl rfl rfl rfl ?_
  rintro r Y ⟨rfl, rfl⟩
  refine ⟨rfl, rfl, ?_⟩
  refine AJ.run kX4_readLine [] 30 ?_
  refine AJ.callF kX4_readLine (cR_canBegin L (-1) li (nI (tkS f n p)) (nI (tkE f n p)) n f t ta nu u ua w m w10' e12 (by omega)) bX4_canBegin rfl (by decide +kernel) [] rfl rfl rfl rfl rfl rfl rfl rfl ?_
  rintro r Y ⟨rfl, rfl⟩
  refine ⟨rfl, rfl, ?_⟩
  have c24 : (s 9 = 24) ↔ m = 24 := by
    rw [m2]
    exact nI_eq (b := 24) (by omega) (by omega)
  refine AJ.run kX4_readLine [] 30 ⟨fun z => ?_, fun z => ?_⟩
  · rw [bI_ne0, decide_eq_true_eq] at z
    have hw10 : w < 10 := z.1
    rw [lineP_go (by rw [← hw, c24]; omega), ← hw] at ho
    refine AJ.callF kX4_readLine (cR_takeToken L (-1) li (nI (tkS f n p)) n (tkE f n p) f t ta nu u ua h200 hE.2) bX4_takeToken rfl (by decide +kernel) [] rfl rfl rfl rfl rfl rfl rfl rfl ?_
    rintro r Y ⟨rfl, rfl⟩
    refine ⟨rfl, rfl, ?_⟩
    rw [wdI_lt hw10]
    refine AJ.run kX4_readLine [28] 30 ?_
    refine cR_rl_nums L Q li n _ w l m f t ta u ua s a (tkE f n p) h200 hw10 hT hW (fun e fr to nu hN => q0 e li fr to t ta nu (by rw [ho, hN])) (fun ns p' nu hN hp' hnu x => ?_) (cntN w) 0 (fun _ => 0) (tkE f n p) nu (by omega) hE.2 (fun x hx => by omega) rfl
    rw [hN] at ho
    have hl : lnOK w ns s := (lineP_ok (f := f) (n := n) (p := p) (s := s) (w := w) (ns := ns) (p' := p') (by
      rw [lineP_go (by rw [← hw, c24]; omega), ← hw, hN])).1
    refine AJ.run kX4_readLine [] 30 ?_
    refine AJ.callF kX4_readLine (cR_doLine L (-1) li (nI (tkS f n p')) (nI (tkE f n p')) n f t ta nu u ua w l m ns s a hT hW hl hnu) bX4_doLine rfl (by decide +kernel) [] rfl rfl rfl rfl rfl rfl rfl rfl ?_
    rintro r Y ⟨rfl, t', ta', m', hT', h9, h24, rfl⟩
    refine ⟨rfl, rfl, ?_⟩
    have := q1 w ns p' t' ta' m' nu ho hT' h9 h24
    exact AJ.run kX4_readLine [] 30 this
  · rw [bI_eq0, decide_eq_false_iff_not] at z
    rw [lineP_no (by rw [← hw, c24]; omega)] at ho
    have := q0 _ li (nI (tkS f n p)) (nI (tkE f n p)) t ta nu ho
    exact this
theorem numsP_le {f : xN} {n w : Nat} {RP RF : Int32} : ∀ (k i : Nat) (ns : xN) (p e : Nat), p ≤ n → numsP f n w RP RF k i ns p = .inl e → e ≤ n
  | 0, _, _, _, _, _, h => by rw [numsP] at h; cases h
  | k + 1, i, ns, p, e, hp, h => by
    rw [numsP] at h
    split at h
    · exact numsP_le k _ _ _ _ (tkE_le hp).2 h
    · cases h; exact (tkS_le hp).2
theorem lineP_le {f : xN} {n p e : Nat} {RP RF RM : Int32} (hp : p ≤ n) (h : lineP f n p RP RF RM = .inl e) : e ≤ n := by
  unfold lineP at h
  split at h
  · cases h; exact (tkS_le hp).2
  · split at h
    · next hN => cases h; exact numsP_le _ _ _ _ _ (tkE_le hp).2 hN
    · cases h
/-- how the Reader stands behind the whole text -/
def rsQ (n : Nat) (f u : xN) (ua : Nat → xN) (o : Nat ⊕ (Nat × xN × (Nat → xN))) : Option Value → List xE → Prop := fun r Y => r = none ∧ ((∃ e li fr to t ta nu, o = .inl e ∧ e ≤ n ∧ Y = rdW (nI e) li fr to n f t ta nu u ua) ∨ (∃ c S A fr to t ta m nu, o = .inr (c, S, A) ∧ RT m t ta S A ∧ S 9 = nI m ∧ m ≤ 24 ∧ Y = rdW (-1) (nI c) fr to n f t ta nu u ua))
set_option maxHeartbeats 2000000 in
theorem cR_rs_loop (L : xLn) (Q : Option Value → List xE → Prop) (n n0 : Nat) (f u : xN) (ua : Nat → xN) (h200 : n ≤ 200) (o : Nat ⊕ (Nat × xN × (Nat → xN)))
    (q0 : ∀ e li fr to t ta nu, o = .inl e → e ≤ n → Q none (rdW (nI e) li fr to n f t ta nu u ua)) (q1 : ∀ c S A fr to t ta m nu, o = .inr (c, S, A) → RT m t ta S A → S 9 = nI m → m ≤ 24 → Q none (rdW (-1) (nI c) fr to n f t ta nu u ua)) :
    ∀ (k i p l m : Nat) (s : xN) (a : Nat → xN) (fr : Int32) (t : xN) (ta : Nat → xN) (nu : xN), i + k = 10 → i < 10 → p ≤ n → RT m t ta s a → WT l m s a → rdL f n k i p s a = o → AJ L mX4_readLines 8 0 0 Q n0 (0, 0) 30 [some (.ref 0), some (.int 1), some (.int (nI i))] [] (rdW (-1) (nI i) fr (nI p) n f t ta nu u ua) := by
  intro k
  induction k with
  | zero => intro i p l m s a fr t ta nu hk hi; omega
  | succ k ih =>
    intro i p l m s a fr t ta nu hk hi hp hT hW ho
    refine AJ.run kX4_readLines [30] 30 ⟨fun z => absurd z (nI_ge (b := 10) (by omega) (by omega)), fun _ => ⟨fun z => absurd z (by decide), fun _ => ?_⟩⟩
    refine AJ.callF kX4_readLines (cR_takeToken L (-1) (nI i) fr n p f t ta nu u ua h200 hp) bX4_takeToken rfl (by decide +kernel) [] rfl rfl rfl rfl rfl rfl rfl rfl ?_
    rintro r Y ⟨rfl, rfl⟩
    refine ⟨rfl, rfl, ?_⟩
    refine AJ.run kX4_readLines [30] 30 ?_
    refine AJ.callF kX4_readLines (cR_readLine L (nI i) n p l m f t ta nu u ua s a h200 hp hT hW) bX4_readLine rfl (by decide +kernel) [] rfl rfl rfl rfl rfl rfl rfl rfl ?_
    rintro r Y ⟨rfl, ⟨e, li, fr', to', t', ta', nu', hl, rfl⟩ | ⟨w, ns, p', t', ta', m', nu', hl, hT', h9, hm24, rfl⟩⟩
    · refine ⟨rfl, rfl, ?_⟩
      rw [rdL_er hl] at ho
      have he := lineP_le hp hl
      have fin := q0 e li fr' to' t' ta' nu' ho.symm he
      have hne : ¬ nI e = -1 := nI_m1 (by omega)
      have g84 : AJ L mX4_readLines 8 0 0 Q n0 (0, 0) 84 [some (.ref 0), some (.int 0), some (.int (nI i + 1))] [] (rdW (nI e) li fr' to' n f t' ta' nu' u ua) := AJ.run kX4_readLines [] 30 ⟨fun _ => fin, fun z => absurd z hne⟩
      have g30 : AJ L mX4_readLines 8 0 0 Q n0 (0, 0) 30 [some (.ref 0), some (.int 0), some (.int (nI i + 1))] [] (rdW (nI e) li fr' to' n f t' ta' nu' u ua) := AJ.run kX4_readLines [84] 30 ⟨fun _ => g84, fun _ => ⟨fun _ => g84, fun z => absurd rfl z⟩⟩
      exact AJ.run kX4_readLines [30] 30 ⟨fun _ => g30, fun z => absurd z hne⟩
    · refine ⟨rfl, rfl, ?_⟩
      rw [rdL_go hl] at ho
      have hp' := (lineP_ok hl).2 hp
      obtain ⟨sep, fin⟩ := tk_sep (f := f) hp'
      have hS := tkS_le (f := f) hp'
      have hE := tkE_le (f := f) hp'
      obtain ⟨l', m'', hW'⟩ := WT_dl hW (lineP_ok hl).1
      have em : m'' = m' := by
        have := hW'.2.1.2.symm.trans h9
        exact (nI_eq (by have := hW'.2.1.1; omega) (by
          omega)).mp this
      subst em
      -- behind the last line
      have g84 : ∀ x : Int32, ¬ (tkJ f n p' = -3 ∧ i + 1 < 10) → AJ L mX4_readLines 8 0 0 Q n0 (0, 0) 84 [some (.ref 0), some (.int x), some (.int (nI i + 1))] [] (rdW (-1) (nI i + 1) (nI (tkS f n p')) (nI (tkE f n p')) n f t' ta' nu' u ua) := by
        intro x hx
        rw [if_neg hx] at ho
        refine AJ.run kX4_readLines [] 60 ⟨fun z => absurd rfl z, fun _ => ⟨fun z => ?_, fun z => ?_⟩⟩
        · have hn : tkS f n p' = n := by
            rcases Nat.lt_or_ge (tkS f n p') n with y | y
            · exact absurd z (nI_ge y (by omega))
            · omega
          rw [if_pos (fin.mpr hn)] at ho
          have := q1 (i + 1) _ _ (nI (tkS f n p')) (nI (tkE f n p')) t' ta' m'' nu' ho.symm hT' h9 hm24
          rw [nI_succ] at this
          exact this
        · have hn : ¬ tkS f n p' = n := fun y => z (by rw [y]; exact nI_le (Nat.le_refl _) (by omega))
          rw [if_neg (fun y => hn (fin.mp y))] at ho
          exact q0 _ (nI i + 1) (nI (tkS f n p')) (nI (tkE f n p')) t' ta' nu' ho.symm hS.2
      refine AJ.run kX4_readLines [30] 30 ⟨fun z => absurd rfl z, fun _ => ?_⟩
      refine AJ.callP kX4_readLines (cX_signAt L f n (tkS f n p') h200 (by omega)) bX5_signAt rfl (by decide +kernel) [1, 2] [] rfl rfl rfl rfl rfl rfl rfl rfl rfl rfl ?_
      rintro r rfl
      refine AJ.run kX4_readLines [30] 30 ⟨fun z => ?_, fun z => ?_⟩
      · have z : ¬ sgP f n (tkS f n p') = 59 := z
        have hx : ¬ (tkJ f n p' = -3 ∧ i + 1 < 10) := fun y => z (sep.mp y.1)
        exact AJ.run kX4_readLines [84] 30 ⟨fun _ => g84 _ hx, fun _ => ⟨fun _ => g84 _ hx, fun y => absurd rfl y⟩⟩
      · have z : sgP f n (tkS f n p') = 59 := z
        by_cases h10 : i + 1 < 10
        · rw [if_pos ⟨sep.mpr z, h10⟩] at ho
          have nxt := ih (i + 1) (tkE f n p') l' m'' _ _ (nI (tkS f n p')) t' ta' nu' (by omega) h10 hE.2 hT' hW' ho
          rw [nI_succ] at nxt
          exact nxt
        · refine AJ.run kX4_readLines [84] 30 ⟨fun _ => g84 _ (fun y => h10 y.2), fun y => absurd ?_ y⟩
          show nI 10 ≤ nI i + 1
          rw [nI_1]
          exact nI_le (by omega) (by omega)
