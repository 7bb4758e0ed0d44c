/-! ===== the text: lines ===== -/
/-- may the number v stand as the i-th behind the word w -/
def cstP (w i : Nat) (RP RF : Int32) (ns : xN) (v : Int32) : Bool :=
  match w with
  | 0 => inP v 2 12
  | 1 => if i = 0 then inP v 0 7 else inP v 1 30
  | 2 => inP v 1 6
  | 3 => inP v 0 99
  | 4 => if i = 0 then inP v 0 1 else if i = 1 then inP v 0 (RP - 1) else if i = 2 then inP v 0 59 else inP v 0 1
  | 5 => if i = 0 then inP v 0 7 else if i = 1 then inP v 0 (RP - 1) else inP v 0 (RP - 1) && decide (¬ ns 1 = v)
  | _ => if i = 0 then inP v 0 7 && hasP RF v else inP v 0 59
def cntN (w : Nat) : Nat := match w with
  | 0 => 1
  | 1 => 2
  | 2 => 1
  | 3 => 1
  | 4 => 4
  | 5 => 3
  | 6 => 2
  | 7 => 2
  | 8 => 2
  | _ => 0
/-- the numbers behind a word: a fault's place, or the numbers and the place behind them -/
def numsP (f : xN) (n w : Nat) (RP RF : Int32) : Nat → Nat → xN → Nat → Nat ⊕ (xN × Nat)
  | 0, _, ns, p => .inr (ns, p)
  | k + 1, i, ns, p => if tkJ f n p = -1 ∧ cstP w i RP RF ns (tkN f n p) = true then numsP f n w RP RF k (i + 1) (upd ns i (tkN f n p)) (tkE f n p) else .inl (tkS f n p)
theorem numsP_ok {f : xN} {n : Nat} (w : Nat) (RP RF : Int32) {k : Nat} (i : Nat) (ns : xN) {p : Nat} (h1 : tkJ f n p = -1) (h2 : cstP w i RP RF ns (tkN f n p) = true) : numsP f n w RP RF (k + 1) i ns p = numsP f n w RP RF k (i + 1) (upd ns i (tkN f n p)) (tkE f n p) := if_pos ⟨h1, h2⟩
theorem numsP_no {f : xN} {n w : Nat} {RP RF : Int32} {k i : Nat} {ns : xN} {p : Nat} (h : tkJ f n p = -1 → cstP w i RP RF ns (tkN f n p) = false) : numsP f n w RP RF (k + 1) i ns p = .inl (tkS f n p) := if_neg (fun z => by rw [h z.1] at z; cases z.2)
theorem nuP_t {f : xN} {n p : Nat} {lo hi : Int32} (h : nuP f n p lo hi = true) : tkJ f n p = -1 ∧ inP (tkN f n p) lo hi = true := by
  simpa [nuP] using h
theorem nuP_f {f : xN} {n p : Nat} {lo hi : Int32} (h : nuP f n p lo hi = false) : tkJ f n p = -1 → inP (tkN f n p) lo hi = false := by
  intro h1
  rw [nuP, h1] at h
  simpa using h
def lpP (w : Nat) (ns : xN) (RP : Int32) : Int32 := if w = 0 then ns 0 else RP
def lfP (w : Nat) (ns : xN) (RF : Int32) : Int32 := if w = 0 then 0 else if w = 5 then RF ||| 1 <<< (ns 0 &&& 31) else RF
def lmP (w : Nat) (RM : Int32) : Int32 := if w = 0 ∨ w = 9 then 0 else if 6 ≤ w ∧ w ≤ 8 then RM + 1 else RM
/-- k numbers of line i are read, and the place is p -/
def nsR (n i k p : Nat) (ns : xN) (s : xN) (a : Nat → xN) (s' : xN) (a' : Nat → xN) : Prop := (∀ x, x ≠ 15 → x ≠ 16 → x ≠ 18 → x ≠ 19 → x ≠ 20 → s' x = s x) ∧ s' 15 = nI p ∧ p ≤ n ∧ (∀ x, x ≠ 25 → a' x = a x) ∧ (∀ x, x < 5 * i + 1 → a' 25 x = a 25 x) ∧ ∀ q, q < k → a' 25 (5 * i + 1 + q) = ns q
/-- a fault at e in line i -/
def flR (i : Nat) (s : xN) (a : Nat → xN) (s' : xN) (a' : Nat → xN) (e : Nat) : Prop := (∀ x, x < 15 ∨ x = 21 ∨ 25 ≤ x → s' x = s x) ∧ (∀ x, x ≠ 25 → a' x = a x) ∧ (∀ x, x < 5 * i → a' 25 x = a 25 x) ∧ s' 20 = nI e
/-- line i is read: the word w, its numbers, the place behind it -/
def okR (n i w : Nat) (s : xN) (a : Nat → xN) (s' : xN) (a' : Nat → xN) (ns : xN) (p : Nat) : Prop := (∀ x, x < 15 ∨ x = 21 ∨ 25 ≤ x → s' x = s x) ∧ (∀ x, x ≠ 25 → a' x = a x) ∧ (∀ x, x < 5 * i + 1 → a' 25 x = a 25 x) ∧ s' 15 = nI p ∧ p ≤ n ∧ (∀ k, k < cntN w → a' 25 (5 * i + 1 + k) = ns k) ∧ s' 22 = lpP w ns (s 22) ∧ s' 23 = lfP w ns (s 23) ∧ s' 24 = lmP w (s 24)
def lnQ (f : xN) (n i w p : Nat) (s : xN) (a : Nat → xN) : Option Value → List xE → Prop := fun r Y => (∃ e, numsP f n w (s 22) (s 23) (cntN w) 0 (fun _ => 0) p = .inl e ∧ r = some (.int 0) ∧ ∃ s' j' a', Y = modW s' j' a' ∧ flR i s a s' a' e) ∨ (∃ ns p', numsP f n w (s 22) (s 23) (cntN w) 0 (fun _ => 0) p = .inr (ns, p') ∧ r = some (.int 1) ∧ ∃ s' j' a', Y = modW s' j' a' ∧ okR n i w s a s' a' ns p')
theorem nsR.fl {n i k p : Nat} {ns : xN} {s : xN} {a : Nat → xN} {s' : xN} {a' : Nat → xN} (h : nsR n i k p ns s a s' a') {s'' : xN} {a'' : Nat → xN} {e : Nat} (h1 : ∀ x, x ≠ 15 → x ≠ 16 → x ≠ 18 → x ≠ 19 → x ≠ 20 → s'' x = s' x) (h2 : a'' = a') (h3 : s'' 20 = nI e) : flR i s a s'' a'' e := by
  subst h2
  obtain ⟨k1, k2, k3, k4, k5, k6⟩ := h
  exact ⟨fun x hx => (h1 x (by omega) (by omega) (by omega) (by omega) (by omega)).trans (k1 x (by omega) (by omega) (by omega) (by omega) (by omega)), k4, fun x hx => k5 x (by omega), h3⟩
theorem nsR.ok {n i k p w : Nat} {ns : xN} {s : xN} {a : Nat → xN} {s' : xN} {a' : Nat → xN} (h : nsR n i k p ns s a s' a') (hk : k = cntN w) (h22 : s 22 = lpP w ns (s 22)) (h23 : s 23 = lfP w ns (s 23)) (h24 : s 24 = lmP w (s 24)) : okR n i w s a s' a' ns p := by
  subst hk
  obtain ⟨k1, k2, k3, k4, k5, k6⟩ := h
  exact ⟨fun x hx => k1 x (by omega) (by omega) (by omega) (by omega) (by omega), k4, k5, k2, k3, k6, (k1 22 (by omega) (by omega) (by omega) (by omega) (by omega)).trans h22, (k1 23 (by omega) (by omega) (by omega) (by omega) (by omega)).trans h23, (k1 24 (by omega) (by omega) (by omega) (by omega) (by omega)).trans h24⟩
def numQ (f : xN) (n i k p : Nat) (ns : xN) (lo hi : Int32) (s : xN) (a : Nat → xN) : Option Value → List xE → Prop := fun r Y => (nuP f n p lo hi = true ∧ r = some (.int 1) ∧ ∃ s' j' a', Y = modW s' j' a' ∧ s' 16 = nI (tkS f n p) ∧ nsR n i (k + 1) (tkE f n p) (upd ns k (tkN f n p)) s a s' a') ∨ (nuP f n p lo hi = false ∧ r = some (.int 0) ∧ ∃ s' j' a', Y = modW s' j' a' ∧ flR i s a s' a' (tkS f n p))
theorem c8_num (L : xLn) (s : xN) (a : Nat → xN) (n i k p : Nat) (ns : xN) (lo hi : Int32) (s1 : xN) (j1 : Int64) (a1 : Nat → xN) (hw : 5 * i + 1 + k < 50) (hn : s 13 = nI n) (h200 : n ≤ 200) (h : nsR n i k p ns s a s1 a1) : CT L mX8_isNumber 2 0 0 [.ref 0, .int (nI (5 * i + 1 + k)), .int lo, .int hi] (modW s1 j1 a1) (numQ (a 14) n i k p ns lo hi s a) := by
  have h0 := h
  obtain ⟨k1, k2, k3, k4, k5, k6⟩ := h
  refine (c8_isNumber L s1 j1 a1 n p (5 * i + 1 + k) lo hi hw ((k1 13 (by omega) (by omega) (by omega) (by omega) (by omega)).trans hn) h200 k2 k3).mono ?_
  rintro r Y ⟨rfl, s2, j2, a2, rfl, u1, u2, u3, u4, u5⟩
  rw [k4 14 (by omega)] at u2 u3 u4 u5 ⊢
  cases hb : nuP (a 14) n p lo hi with
  | true =>
    obtain ⟨e1, e2⟩ := u4 hb
    refine Or.inl ⟨hb, rfl, s2, j2, a2, rfl, u2, fun x h1 h2 h3 h4 h5 => (u1 x h1 h2 h3 h4 h5).trans (k1 x h1 h2 h3 h4 h5), u3, (tkE_le k3).2, fun x hx => ?_, fun x hx => ?_, fun q hq => ?_⟩
    · subst e1
      show va_up a1 25 _ x = _
      unfold va_up
      rw [if_neg hx]; exact k4 x hx
    · subst e1
      show upd (a1 25) (5 * i + 1 + k) _ x = _
      rw [pk_un (by omega)]; exact k5 x hx
    · subst e1
      show upd (a1 25) (5 * i + 1 + k) _ (5 * i + 1 + q) = _
      by_cases e : q = k
      · subst e
        rw [pk_us, pk_us]
      · rw [pk_un (by omega), pk_un e]; exact k6 q (by omega)
  | false =>
    obtain ⟨e1, e2⟩ := u5 hb
    exact Or.inr ⟨hb, rfl, s2, j2, a2, rfl, h0.fl u1 e1 e2⟩
theorem nsR.rf {n i p : Nat} {s : xN} {a : Nat → xN} (hs : s 15 = nI p) (hp : p ≤ n) (ns : xN) : nsR n i 0 p ns s a s a := ⟨fun _ _ _ _ _ _ => rfl, hs, hp, fun _ _ => rfl, fun _ _ => rfl, fun q hq => by omega⟩
set_option maxHeartbeats 400000 in
theorem c8_isRail (L : xLn) (s : xN) (j : Int64) (a : Nat → xN) (n i p : Nat) (hi : i < 10) (hn : s 13 = nI n) (h200 : n ≤ 200) (hs : s 15 = nI p) (hp : p ≤ n) : CT L mX8_isRail 3 0 0 [.ref 0, .int (nI (5 * i))] (modW s j a) (lnQ (a 14) n i 0 p s a) := by
  refine CT.of rfl (Nat.le_of_ble_eq_true rfl) (Nat.le_of_ble_eq_true rfl) ?_
  have nx1 : ∀ e s' j' a', numsP (a 14) n 0 (s 22) (s 23) (cntN 0) 0 (fun _ => 0) p = .inl e → flR i s a s' a' e → lnQ (a 14) n i 0 p s a (some (.int 0)) (modW s' j' a') := fun e s' j' a' h1 h2 => Or.inl ⟨e, h1, rfl, s', j', a', rfl, h2⟩
  have nx2 : ∀ ns p' s' j' a', numsP (a 14) n 0 (s 22) (s 23) (cntN 0) 0 (fun _ => 0) p = .inr (ns, p') → okR n i 0 s a s' a' ns p' → lnQ (a 14) n i 0 p s a (some (.int 1)) (modW s' j' a') := fun ns p' s' j' a' h1 h2 => Or.inr ⟨ns, p', h1, rfl, s', j', a', rfl, h2⟩
  generalize lnQ (a 14) n i 0 p s a = Q at nx1 nx2 ⊢
  have c1 := c8_num L s a n i 0 p (fun _ => 0) 2 12 s j a (by omega) hn h200 (nsR.rf hs hp _)
  rw [Nat.add_zero, ← nI_1] at c1
  refine AJ.run kX8_isRail [] 60 ?_
  refine AJ.callF kX8_isRail c1 bX8_isNumber rfl (by decide +kernel) [] rfl rfl rfl rfl rfl rfl rfl rfl ?_
  rintro r Y (⟨hb, rfl, s1, j1, a1, rfl, u1, u2⟩ | ⟨hb, rfl, s1, j1, a1, rfl, u2⟩)
  · obtain ⟨t1, t2⟩ := nuP_t hb
    have hN : numsP (a 14) n 0 (s 22) (s 23) (cntN 0) 0 (fun _ => 0) p = .inr (upd (fun _ => 0) 0 (tkN (a 14) n p), tkE (a 14) n p) := by
      show numsP (a 14) n 0 (s 22) (s 23) (0 + 1) 0 (fun _ => 0) p = _
      rw [numsP_ok 0 (s 22) (s 23) 0 (fun _ => 0) t1 t2]; rfl
    obtain ⟨k1, k2, k3, k4, k5, k6⟩ := u2
    refine ⟨rfl, rfl, AJ.run kX8_isRail [] 60 ⟨fun _ => ⟨5 * i + 1, nI_1 _, by omega, Or.inr rfl, ?_⟩, fun hz => absurd hz (by decide)⟩⟩
    refine nx2 _ _ (upd (upd (upd s1 22 (a1 25 (5 * i + 1))) 23 0) 24 0) j1 a1 hN ⟨fun x hx => ?_, k4, k5, k2, k3, k6, ?_, rfl, rfl⟩
    · rw [pk_un (by omega), pk_un (by omega), pk_un (by omega)]
      exact k1 x (by omega) (by omega) (by omega) (by omega) (by omega)
    · exact k6 0 (by omega)
  · have hN : numsP (a 14) n 0 (s 22) (s 23) (cntN 0) 0 (fun _ => 0) p = .inl (tkS (a 14) n p) := numsP_no (nuP_f hb)
    exact ⟨rfl, rfl, AJ.run kX8_isRail [] 60 ⟨fun hz => absurd rfl hz, fun _ => ⟨Or.inl rfl, nx1 _ s1 j1 a1 hN u2⟩⟩⟩
