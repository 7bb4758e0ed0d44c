/-! ===== the reference: the whole text ===== -/
def rdQ (f : xN) (n : Nat) (s : xN) (a : Nat → xN) : Option Value → List xE → Prop := fun r Y => (∃ e, rdL f n 10 0 0 s a = .inl e ∧ r = some (.int 0) ∧ ∃ s' j' a', Y = modW s' j' a' ∧ (∀ x, x < 15 → s' x = s x) ∧ (∀ x, x ≠ 25 → a' x = a x) ∧ s' 20 = nI e) ∨ (∃ l S A, rdL f n 10 0 0 s a = .inr (l, S, A) ∧ r = some (.int 1) ∧ ∃ s' j' a', Y = modW s' j' a' ∧ (∀ x, x < 15 → s' x = s x) ∧ (∀ x, x ≠ 25 → a' x = a x) ∧ s' 21 = nI l ∧ l ≤ 10 ∧ rdOK (a' 25) s a l ∧ dlR (a' 25) s a l = (S, A))
/-- how it stands ahead of line i, from p on -/
def rdI (f : xN) (n k i p : Nat) (s : xN) (a : Nat → xN) (s1 : xN) (a1 : Nat → xN) : Prop := (∀ x, x < 15 → s1 x = s x) ∧ (∀ x, x ≠ 25 → a1 x = a x) ∧ s1 15 = nI p ∧ p ≤ n ∧ s1 21 = nI i ∧ rdOK (a1 25) s a i ∧ s1 22 = (dlR (a1 25) s a i).1 0 ∧ s1 23 = (dlR (a1 25) s a i).1 7 ∧ s1 24 = (dlR (a1 25) s a i).1 9 ∧ rdL f n 10 0 0 s a = rdL f n k i p (dlR (a1 25) s a i).1 (dlR (a1 25) s a i).2
/-- one line more: what is told then -/
theorem rd_step {n i w p' : Nat} {ns s : xN} {a : Nat → xN} {s1 s2 : xN} {a1 a2 : Nat → xN} (hO : rdOK (a1 25) s a i) (h : okL n i w s1 a1 s2 a2 ns p') (hl : lnOK w ns (dlR (a1 25) s a i).1) : rdOK (a2 25) s a (i + 1) ∧ dlR (a2 25) s a (i + 1) = (dlS w ns (dlR (a1 25) s a i).1, dlA w ns (dlR (a1 25) s a i).1 (dlR (a1 25) s a i).2) := by
  obtain ⟨k1, k2, k3, k4, k5, k6, k7, -⟩ := h
  have hd := dlR_congr (rd' := a2 25) s a i hO k3
  have hO2 := rdOK_congr hO k3
  have ew : (a2 25 (5 * i)).toNatClampNeg = w := by rw [k4, nI_clamp (by have := hl.1; omega)]
  refine ⟨fun q hq => ?_, ?_⟩
  · by_cases e : q = i
    · subst e
      refine ⟨⟨w, hl.1, k4⟩, ?_⟩
      rw [ew, hd]
      exact lnOK_congr hl k7 (fun _ _ => rfl)
    · exact hO2 q (by omega)
  · have hc := dl_congr hl.1 (ns := fun k => a2 25 (5 * i + 1 + k)) (ns' := ns) k7 (dlR (a1 25) s a i).1 (dlR (a1 25) s a i).2
    rw [dlR, ew, hd, hc.1, hc.2]
theorem rdL_er {f : xN} {n k i p : Nat} {s : xN} {a : Nat → xN} {e : Nat} (hl : lineP f n p (s 0) (s 7) (s 9) = .inl e) : rdL f n (k + 1) i p s a = .inl e := by
  rw [rdL, hl]
theorem rdL_go {f : xN} {n k i p : Nat} {s : xN} {a : Nat → xN} {w : Nat} {ns : xN} {p' : Nat} (hl : lineP f n p (s 0) (s 7) (s 9) = .inr (w, ns, p')) : rdL f n (k + 1) i p s a = if tkJ f n p' = -3 ∧ i + 1 < 10 then rdL f n k (i + 1) (tkE f n p') (dlS w ns s) (dlA w ns s a) else if tkJ f n p' = -2 then .inr (i + 1, dlS w ns s, dlA w ns s a) else .inl (tkS f n p') := by
  rw [rdL, hl]
set_option maxHeartbeats 1000000 in
theorem c8_isRead_loop (L : xLn) (Q : Option Value → List xE → Prop) (s : xN) (a : Nat → xN) (n n0 : Nat) (hn : s 13 = nI n) (h200 : n ≤ 200) (nxt : ∀ r Y, rdQ (a 14) n s a r Y → Q r Y) :
    ∀ (k i p : Nat) (s1 : xN) (j1 : Int64) (a1 : Nat → xN), k + i = 10 → i < 10 → rdI (a 14) n k i p s a s1 a1 → AJ L mX8_isRead 5 0 0 Q n0 (0, 0) 36 [some (.ref 0), some (.int 1)] [] (modW s1 j1 a1) := by
  intro k
  induction k with
  | zero => intro i p s1 j1 a1 h1 h2; omega
  | succ k ih =>
    intro i p s1 j1 a1 hki hi hI
    obtain ⟨f1, f2, f3, f4, f5, f6, f7, f8, f9, f10⟩ := hI
    have c := c8_isLine L s1 j1 a1 n i p hi ((f1 13 (by omega)).trans hn) h200 f3 f4
    rw [show nI (5 * i) = 5 * s1 21 by rw [f5]; exact (pk_mul 5 i).symm] at c
    refine AJ.run kX8_isRead [47] 60 ⟨fun hz => absurd hz (by decide), fun _ => ?_⟩
    refine AJ.callF kX8_isRead c bX8_isLine rfl (by decide +kernel) [] rfl rfl rfl rfl rfl rfl rfl rfl ?_
    unfold liQ
    rw [f2 14 (by omega), f7, f8, f9]
    rintro r Y (⟨e, hl, rfl, s2, j2, a2, rfl, g1, g2, g3, g4⟩ | ⟨w, ns, p', hl, hw, rfl, s2, j2, a2, rfl, hok⟩)
    · have fin := nxt (some (.int 0)) (modW s2 j2 a2) (Or.inl ⟨e, f10.trans (rdL_er hl), rfl, s2, j2, a2, rfl, fun x hx => (g1 x (by omega)).trans (f1 x hx), fun x hx => (g2 x hx).trans (f2 x hx), g4⟩)
      exact ⟨rfl, rfl, AJ.run kX8_isRead [] 60 ⟨fun hz => absurd rfl hz, fun _ => ⟨Or.inl rfl, fin⟩⟩⟩
    obtain ⟨hlo, hpp⟩ := lineP_ok hl
    have hp' := hpp f4
    obtain ⟨o1, o2⟩ := rd_step f6 hok hlo
    have hS0 := dlS_0 hlo.1 ns (dlR (a1 25) s a i).1
    obtain ⟨k1, k2, k3, k4, k5, k6, k7, k8, k9, k10⟩ := hok
    have f10 := f10.trans (rdL_go hl)
    have f10 : rdL (a 14) n 10 0 0 s a = if tkJ (a 14) n p' = -3 ∧ i + 1 < 10 then rdL (a 14) n k (i + 1) (tkE (a 14) n p') (dlR (a2 25) s a (i + 1)).1 (dlR (a2 25) s a (i + 1)).2 else if tkJ (a 14) n p' = -2 then .inr (i + 1, (dlR (a2 25) s a (i + 1)).1, (dlR (a2 25) s a (i + 1)).2) else .inl (tkS (a 14) n p') := by rw [f10, o2]
    rw [f7] at k8
    rw [f8] at k9
    rw [f9] at k10
    rw [← hS0.1, show dlS w ns (dlR (a1 25) s a i).1 = (dlR (a2 25) s a (i + 1)).1 by rw [o2]] at k8
    rw [← hS0.2.1, show dlS w ns (dlR (a1 25) s a i).1 = (dlR (a2 25) s a (i + 1)).1 by rw [o2]] at k9
    rw [← hS0.2.2, show dlS w ns (dlR (a1 25) s a i).1 = (dlR (a2 25) s a (i + 1)).1 by rw [o2]] at k10
    have a14 : a2 14 = a 14 := (k2 14 (by omega)).trans (f2 14 (by omega))
    have s13 : s2 13 = nI n := (k1 13 (by omega)).trans ((f1 13 (by omega)).trans hn)
    have s21 : s2 21 + 1 = nI (i + 1) := by rw [k1 21 (by omega), f5, nI_1]
    have c2 := c8_nextToken L (upd s2 21 (s2 21 + 1)) j2 a2 n p' s13 h200 k5 k6
    refine ⟨rfl, rfl, AJ.run kX8_isRead [66] 60 ⟨fun _ => ?_, fun hz => absurd hz (by decide)⟩⟩
    refine AJ.callF kX8_isRead c2 bX8_nextToken rfl (by decide +kernel) [] rfl rfl rfl rfl rfl rfl rfl rfl ?_
    rw [a14]
    rintro r Y ⟨rfl, s3, j3, rfl, t1, t2, t3, t4, t5⟩
    have F1 : ∀ x, x < 15 → s3 x = s x := fun x hx => (t1 x (by omega) (by omega) (by omega) (by omega)).trans ((pk_un (by omega)).trans ((k1 x (by omega)).trans (f1 x hx)))
    have F2 : ∀ x, x ≠ 25 → a2 x = a x := fun x hx => (k2 x hx).trans (f2 x hx)
    have e21 : s3 21 = nI (i + 1) := (t1 21 (by omega) (by omega) (by omega) (by omega)).trans (pk_us.trans s21)
    have e22 := (t1 22 (by omega) (by omega) (by omega) (by omega)).trans ((pk_un (by omega)).trans k8)
    have e23 := (t1 23 (by omega) (by omega) (by omega) (by omega)).trans ((pk_un (by omega)).trans k9)
    have e24 := (t1 24 (by omega) (by omega) (by omega) (by omega)).trans ((pk_un (by omega)).trans k10)
    have hE := tkE_le (f := a 14) hp'
    rw [← t4] at f10
    clear t1 t5 k1 k2 k3 k4 k5 k6 k7 k8 k9 k10 c c2 hS0
    -- the text's end, or what stands behind the last line
    have at93 : ¬ (j3 = -3 ∧ i + 1 < 10) → AJ L mX8_isRead 5 0 0 Q n0 (0, 0) 93 [some (.ref 0), some (.int 1)] [] (modW s3 j3 a2) := by
      intro hc
      rw [if_neg hc] at f10
      refine AJ.run kX8_isRead [] 60 ⟨fun _ => ⟨fun h2 => ⟨Or.inr rfl, ?_⟩, fun h2 => ?_⟩, fun hz => absurd rfl hz⟩
      · rw [lg_cmp_eq] at h2
        rw [if_pos h2] at f10
        exact nxt _ _ (Or.inr ⟨i + 1, _, _, f10, rfl, s3, j3, a2, rfl, F1, F2, e21, by omega, o1, rfl⟩)
      · rw [lg_cmp_eq] at h2
        rw [if_neg h2] at f10
        refine AJ.callF kX8_isRead (c8_fails L s3 j3 a2) bX8_fails rfl (by decide +kernel) [] rfl rfl rfl rfl rfl rfl rfl rfl ?_
        rintro r Y ⟨rfl, rfl⟩
        have fin := nxt _ _ (Or.inl ⟨_, f10, rfl, upd s3 20 (s3 16), j3, a2, rfl, fun x hx => (pk_un (by omega)).trans (F1 x hx), F2, t3⟩)
        exact ⟨rfl, rfl, AJ.run kX8_isRead [] 60 ⟨fun _ => ⟨Or.inl rfl, fin⟩, fun hz => absurd rfl hz⟩⟩
    refine ⟨rfl, rfl, AJ.run kX8_isRead [36, 93] 60 ⟨fun h2 => at93 ?_, fun h2 => ⟨fun h3 => at93 ?_, fun h3 => ?_⟩⟩⟩
    · rw [lg_cmp_eq] at h2
      exact fun z => h2 z.1
    · have h3 : nI 10 ≤ s3 21 := h3
      rw [e21, nI_leI (by omega) (by omega)] at h3
      omega
    · rw [lg_cmp_eq] at h2
      have h3 : ¬ nI 10 ≤ s3 21 := h3
      rw [e21, nI_leI (by omega) (by omega)] at h3
      rw [if_pos ⟨h2, by omega⟩] at f10
      exact ih (i + 1) (tkE (a 14) n p') s3 j3 a2 (by omega) (by omega) ⟨F1, F2, t2, hE.2, e21, o1, e22, e23, e24, f10⟩
theorem c8_isRead (L : xLn) (s : xN) (j : Int64) (a : Nat → xN) (n : Nat) (hn : s 13 = nI n) (h200 : n ≤ 200) : CT L mX8_isRead 5 0 0 [.ref 0] (modW s j a) (rdQ (a 14) n s a) := by
  refine CT.of rfl (Nat.le_of_ble_eq_true rfl) (Nat.le_of_ble_eq_true rfl) ?_
  have nxt : ∀ r Y, rdQ (a 14) n s a r Y → rdQ (a 14) n s a r Y := fun _ _ h => h
  have key := c8_isRead_loop L (rdQ (a 14) n s a) s a n (modW s j a).length hn h200 nxt 10 0 0 (upd (upd (upd (upd (upd s 15 0) 21 0) 22 (s 0)) 23 (s 7)) 24 (s 9)) j a rfl (by omega) ⟨fun x hx => by rw [pk_un (by omega), pk_un (by omega), pk_un (by omega), pk_un (by omega), pk_un (by omega)], fun _ _ => rfl, rfl, by omega, rfl, fun i hi => by omega, rfl, rfl, rfl, rfl⟩
  generalize rdQ (a 14) n s a = Q at key ⊢
  exact AJ.run kX8_isRead [36] 60 key
def fauP (f : xN) (n : Nat) (s : xN) (a : Nat → xN) : Int32 := match rdL f n 10 0 0 s a with
  | .inl e => nI e
  | .inr _ => -1
theorem c8_fault (L : xLn) (s : xN) (j : Int64) (a : Nat → xN) (n m : Nat) (hn : s 13 = nI n) (h200 : n ≤ 200) : CT L mX8_fault 6 0 0 [.ref 0] (modW s j a) (kpQ m s a (fauP (a 14) n s a)) := by
  refine CT.of rfl (Nat.le_of_ble_eq_true rfl) (Nat.le_of_ble_eq_true rfl) ?_
  refine AJ.run kX8_fault [] 60 ?_
  have kept : ∀ s' a', (∀ x, x < 15 → s' x = s x) → (∀ x, x ≠ 25 → a' x = a x) → keptM m s a s' a' := fun s' a' h1 h2 => ⟨h1, ⟨h2 6 (by omega), h2 8 (by omega), h2 12 (by omega), h2 14 (by omega), h2 28 (by omega), h2 29 (by omega)⟩, fun i hi => by rw [h2 10 (by omega)], fun i hi => by rw [h2 26 (by omega)]⟩
  refine AJ.callF kX8_fault (c8_isRead L s j a n hn h200) bX8_isRead rfl (by decide +kernel) [] rfl rfl rfl rfl rfl rfl rfl rfl ?_
  rintro r Y (⟨e, hl, rfl, s2, j2, a2, rfl, g1, g2, g3⟩ | ⟨l, S, A, hl, rfl, s2, j2, a2, rfl, g1, g2, -⟩)
  · have fin : kpQ m s a (fauP (a 14) n s a) (some (.int (s2 20))) (modW s2 j2 a2) := ⟨by rw [g3, fauP, hl], s2, j2, a2, rfl, kept _ _ g1 g2⟩
    generalize kpQ m s a (fauP (a 14) n s a) = Q at fin ⊢
    exact ⟨rfl, rfl, AJ.run kX8_fault [] 60 ⟨fun _ => fin, fun hz => absurd rfl hz⟩⟩
  · have fin : kpQ m s a (fauP (a 14) n s a) (some (.int (-1))) (modW s2 j2 a2) := ⟨by rw [fauP, hl], s2, j2, a2, rfl, kept _ _ g1 g2⟩
    generalize kpQ m s a (fauP (a 14) n s a) = Q at fin ⊢
    exact ⟨rfl, rfl, AJ.run kX8_fault [] 60 ⟨fun hz => absurd hz (by decide), fun _ => fin⟩⟩
