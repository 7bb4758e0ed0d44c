/-! ===== what the lines do ===== -/
def dlS (w : Nat) (ns s : xN) : xN := if w = 0 then upd (upd (upd (upd s 0 (ns 0)) 5 0) 7 0) 9 0 else if w = 1 then upd (upd s 1 (ns 0)) 2 (ns 1) else if w = 2 then upd s 3 (ns 0) else if w = 3 then upd s 4 (ns 0) else if w = 4 then upd s 5 (s 5 ||| 1 <<< (ns 0 &&& 31)) else if w = 5 then upd s 7 (s 7 ||| 1 <<< (ns 0 &&& 31)) else if w = 9 then upd s 9 0 else if w < 9 then upd s 9 (s 9 + 1) else s
def dlA (w : Nat) (ns s : xN) (a : Nat → xN) : Nat → xN := if w = 4 then va_up a 6 (upd (upd (upd (a 6) (3 * (ns 0).toNatClampNeg) (ns 1)) (3 * (ns 0).toNatClampNeg + 1) (ns 2)) (3 * (ns 0).toNatClampNeg + 2) (ns 3)) else if w = 5 then va_up a 8 (upd (upd (a 8) (2 * (ns 0).toNatClampNeg) (ns 1)) (2 * (ns 0).toNatClampNeg + 1) (ns 2)) else if 6 ≤ w ∧ w ≤ 8 then addP a (s 9).toNatClampNeg (ns 0) (nI w - 6) (ns 1) else a
theorem w10 {w : Nat} (h : w < 10) : w = 0 ∨ w = 1 ∨ w = 2 ∨ w = 3 ∨ w = 4 ∨ w = 5 ∨ w = 6 ∨ w = 7 ∨ w = 8 ∨ w = 9 := by omega
theorem dl_congr {w : Nat} (hw : w < 10) {ns ns' : xN} (h : ∀ k, k < cntN w → ns k = ns' k) (s : xN) (a : Nat → xN) : dlS w ns s = dlS w ns' s ∧ dlA w ns s a = dlA w ns' s a := by
  rcases w10 hw with rfl | rfl | rfl | rfl | rfl | rfl | rfl | rfl | rfl | rfl
  · have h0 := h 0 (by decide)
    constructor <;> simp [dlS, dlA, h0]
  · have h0 := h 0 (by decide)
    have h1 := h 1 (by decide)
    constructor <;> simp [dlS, dlA, h0, h1]
  · have h0 := h 0 (by decide)
    constructor <;> simp [dlS, dlA, h0]
  · have h0 := h 0 (by decide)
    constructor <;> simp [dlS, dlA, h0]
  · have h0 := h 0 (by decide)
    have h1 := h 1 (by decide)
    have h2 := h 2 (by decide)
    have h3 := h 3 (by decide)
    constructor <;> simp [dlS, dlA, h0, h1, h2, h3]
  · have h0 := h 0 (by decide)
    have h1 := h 1 (by decide)
    have h2 := h 2 (by decide)
    constructor <;> simp [dlS, dlA, h0, h1, h2]
  · have h0 := h 0 (by decide)
    have h1 := h 1 (by decide)
    constructor <;> simp [dlS, dlA, h0, h1]
  · have h0 := h 0 (by decide)
    have h1 := h 1 (by decide)
    constructor <;> simp [dlS, dlA, h0, h1]
  · have h0 := h 0 (by decide)
    have h1 := h 1 (by decide)
    constructor <;> simp [dlS, dlA, h0, h1]
  · constructor <;> simp [dlS, dlA]
theorem dlS_0 {w : Nat} (hw : w < 10) (ns s : xN) : dlS w ns s 0 = lpP w ns (s 0) ∧ dlS w ns s 7 = lfP w ns (s 7) ∧ dlS w ns s 9 = lmP w (s 9) := by
  rcases w10 hw with rfl | rfl | rfl | rfl | rfl | rfl | rfl | rfl | rfl | rfl <;> exact ⟨rfl, rfl, rfl⟩
/-- only what is told counts -/
def eqL (s : xN) (a : Nat → xN) (s' : xN) (a' : Nat → xN) : Prop := (∀ i, i < 10 → s' i = s i) ∧ a' 6 = a 6 ∧ a' 8 = a 8 ∧ a' 10 = a 10
theorem upd_lo {f g : xN} {b : Nat} (h : ∀ i, i < b → f i = g i) {k : Nat} {v w : Int32} (hv : v = w) : ∀ i, i < b → upd f k v i = upd g k w i := by
  intro i hi
  unfold upd
  split
  · exact hv
  · exact h i hi
theorem dl_eqL {w : Nat} (hw : w < 10) (ns : xN) {s s' : xN} {a a' : Nat → xN} (h : eqL s a s' a') : eqL (dlS w ns s) (dlA w ns s a) (dlS w ns s') (dlA w ns s' a') := by
  obtain ⟨h1, h6, h8, h10⟩ := h
  have e5 := h1 5 (by omega)
  have e7 := h1 7 (by omega)
  have e9 := h1 9 (by omega)
  rcases w10 hw with rfl | rfl | rfl | rfl | rfl | rfl | rfl | rfl | rfl | rfl
  · exact ⟨upd_lo (upd_lo (upd_lo (upd_lo h1 rfl) rfl) rfl) rfl, h6, h8, h10⟩
  · exact ⟨upd_lo (upd_lo h1 rfl) rfl, h6, h8, h10⟩
  · exact ⟨upd_lo h1 rfl, h6, h8, h10⟩
  · exact ⟨upd_lo h1 rfl, h6, h8, h10⟩
  · refine ⟨upd_lo h1 (by rw [e5]), ?_, h8, h10⟩
    show upd (upd (upd (a' 6) _ _) _ _) _ _ = upd (upd (upd (a 6) _ _) _ _) _ _
    rw [h6]
  · refine ⟨upd_lo h1 (by rw [e7]), h6, ?_, h10⟩
    show upd (upd (a' 8) _ _) _ _ = upd (upd (a 8) _ _) _ _
    rw [h8]
  · refine ⟨upd_lo h1 (by rw [e9]), h6, h8, ?_⟩
    show upd (upd (upd (a' 10) (3 * (s' 9).toNatClampNeg) _) _ _) _ _ = upd (upd (upd (a 10) (3 * (s 9).toNatClampNeg) _) _ _) _ _
    rw [h10, e9]
  · refine ⟨upd_lo h1 (by rw [e9]), h6, h8, ?_⟩
    show upd (upd (upd (a' 10) (3 * (s' 9).toNatClampNeg) _) _ _) _ _ = upd (upd (upd (a 10) (3 * (s 9).toNatClampNeg) _) _ _) _ _
    rw [h10, e9]
  · refine ⟨upd_lo h1 (by rw [e9]), h6, h8, ?_⟩
    show upd (upd (upd (a' 10) (3 * (s' 9).toNatClampNeg) _) _ _) _ _ = upd (upd (upd (a 10) (3 * (s 9).toNatClampNeg) _) _ _) _ _
    rw [h10, e9]
  · exact ⟨upd_lo h1 rfl, h6, h8, h10⟩
theorem cstP_congr {w i : Nat} {RP RF : Int32} {ns ns' : xN} (h : ∀ x, x < i → ns x = ns' x) (v : Int32) : cstP w i RP RF ns v = cstP w i RP RF ns' v := by
  unfold cstP
  split <;> try rfl
  split
  · rfl
  split
  · rfl
  rw [h 1 (by omega)]
theorem numsP_all {f : xN} {n w : Nat} {RP RF : Int32} : ∀ (k i : Nat) (ns : xN) (p : Nat) (ns' : xN) (p' : Nat), numsP f n w RP RF k i ns p = .inr (ns', p') → (∀ q, q < i → ns' q = ns q) ∧ (∀ q, i ≤ q → q < i + k → cstP w q RP RF ns' (ns' q) = true) ∧ (p ≤ n → p' ≤ n) := by
  intro k
  induction k with
  | zero =>
    intro i ns p ns' p' h
    rw [numsP] at h
    cases h
    exact ⟨fun _ _ => rfl, fun q h1 h2 => by omega, fun h => h⟩
  | succ k ih =>
    intro i ns p ns' p' h
    rw [numsP] at h
    split at h
    · next hc =>
      obtain ⟨h1, h2, h3⟩ := ih _ _ _ _ _ h
      refine ⟨fun q hq => (h1 q (by omega)).trans (pk_un (by omega)), fun q hq1 hq2 => ?_, fun hp => h3 (tkE_le hp).2⟩
      by_cases e : q = i
      · subst e
        have e1 : ns' q = tkN f n p := (h1 q (by omega)).trans pk_us
        rw [e1, cstP_congr (ns' := ns) (fun x hx => (h1 x (by omega)).trans (pk_un (by omega)))]
        exact hc.2
      · exact h2 q (by omega) (by omega)
    · cases h
/-- a line that may stand -/
def lnOK (w : Nat) (ns s : xN) : Prop := w < 10 ∧ (6 ≤ w ∧ w ≤ 8 → ¬ s 9 = 24) ∧ ∀ k, k < cntN w → cstP w k (s 0) (s 7) ns (ns k) = true
theorem lnOK_congr {w : Nat} {ns ns' s s' : xN} (h : lnOK w ns s) (hn : ∀ k, k < cntN w → ns' k = ns k) (hs : ∀ i, i < 10 → s' i = s i) : lnOK w ns' s' := by
  refine ⟨h.1, fun hw => by rw [hs 9 (by omega)]; exact h.2.1 hw, fun k hk => ?_⟩
  rw [hs 0 (by omega), hs 7 (by omega), hn k hk, cstP_congr (fun x hx => hn x (by omega))]
  exact h.2.2 k hk
theorem lineP_ok {f : xN} {n p : Nat} {s : xN} {w : Nat} {ns : xN} {p' : Nat} (h : lineP f n p (s 0) (s 7) (s 9) = .inr (w, ns, p')) : lnOK w ns s ∧ (p ≤ n → p' ≤ n) := by
  unfold lineP at h
  split at h
  · cases h
  next hc =>
  split at h
  · cases h
  next ns1 p1 hN =>
  cases h
  obtain ⟨h1, h2, h3⟩ := numsP_all _ _ _ _ _ _ hN
  refine ⟨⟨?_, fun hw hz => hc (Or.inr ⟨hw.1, hw.2, hz⟩), fun k hk => h2 k (by omega) (by omega)⟩, fun hp => h3 (tkE_le hp).2⟩
  have : wdN (tkJ f n p) ≤ 10 := by
    unfold wdN
    split <;> first | omega | (split <;> first | omega | (split <;> first | omega | (split <;> first | omega | (split <;> first | omega | (split <;> first | omega | (split <;> first | omega | (split <;> first | omega | (split <;> first | omega | (split <;> omega)))))))))
  have : ¬ wdN (tkJ f n p) = 10 := fun z => hc (Or.inl z)
  omega
/-- the lines from p on: a fault's place, or how many, and what is told then -/
def rdL (f : xN) (n : Nat) : Nat → Nat → Nat → xN → (Nat → xN) → Nat ⊕ (Nat × xN × (Nat → xN))
  | 0, _, _, _, _ => .inl 0
  | k + 1, i, p, s, a => match lineP f n p (s 0) (s 7) (s 9) with
    | .inl e => .inl e
    | .inr (w, ns, p') => if tkJ f n p' = -3 ∧ i + 1 < 10 then rdL f n k (i + 1) (tkE f n p') (dlS w ns s) (dlA w ns s a) else if tkJ f n p' = -2 then .inr (i + 1, dlS w ns s, dlA w ns s a) else .inl (tkS f n p')
/-- the lines as the reference keeps them -/
def dlR (rd : xN) (s : xN) (a : Nat → xN) : Nat → xN × (Nat → xN)
  | 0 => (s, a)
  | i + 1 => (dlS (rd (5 * i)).toNatClampNeg (fun k => rd (5 * i + 1 + k)) (dlR rd s a i).1, dlA (rd (5 * i)).toNatClampNeg (fun k => rd (5 * i + 1 + k)) (dlR rd s a i).1 (dlR rd s a i).2)
/-- each kept line may stand where it stands -/
def rdOK (rd : xN) (s : xN) (a : Nat → xN) (l : Nat) : Prop := ∀ i, i < l → (∃ w, w < 10 ∧ rd (5 * i) = nI w) ∧ lnOK (rd (5 * i)).toNatClampNeg (fun k => rd (5 * i + 1 + k)) (dlR rd s a i).1
theorem cntN_le (w : Nat) : cntN w ≤ 4 := by
  unfold cntN
  split <;> omega
theorem dlR_congr {rd rd' : xN} (s : xN) (a : Nat → xN) : ∀ l, rdOK rd s a l → (∀ x, x < 5 * l → rd' x = rd x) → dlR rd' s a l = dlR rd s a l
  | 0, _, _ => rfl
  | l + 1, h, e => by
    have ih := dlR_congr s a l (fun i hi => h i (by omega)) (fun x hx => e x (by omega))
    obtain ⟨-, h2, h3, h4⟩ := h l (by omega)
    have hc := cntN_le (rd (5 * l)).toNatClampNeg
    have hd := dl_congr h2 (ns := fun k => rd' (5 * l + 1 + k)) (ns' := fun k => rd (5 * l + 1 + k)) (fun k hk => e _ (by omega)) (dlR rd s a l).1 (dlR rd s a l).2
    rw [dlR, dlR, ih, e (5 * l) (by omega), hd.1, hd.2]
theorem rdOK_congr {rd rd' : xN} {s : xN} {a : Nat → xN} {l : Nat} (h : rdOK rd s a l) (e : ∀ x, x < 5 * l → rd' x = rd x) : rdOK rd' s a l := by
  intro i hi
  obtain ⟨h1, h2⟩ := h i hi
  have hd := dlR_congr (rd' := rd') s a i (fun k hk => h k (by omega)) (fun x hx => e x (by omega))
  rw [e (5 * i) (by omega), hd]
  have hc := cntN_le (rd (5 * i)).toNatClampNeg
  exact ⟨h1, lnOK_congr h2 (fun k hk => e _ (by omega)) (fun _ _ => rfl)⟩
