/-! ===== the class: a tram goes on; halts; people get off and on ===== -/
theorem oweL_at (fo fa : Int32) (k : Nat) (N : xN) {q : Nat} (hq : q < 8) : ∀ n, n ≤ 8 → oweL fo fa k N n (33 + q) = if q < n then N (33 + q) + (if hasP fo (nI q) = true ∧ N (17 + q) = nI k then fa else 0) else N (33 + q)
  | 0, _ => by rw [oweL, if_neg (by omega)]
  | n + 1, hn => by
    have ih := oweL_at fo fa k N hq n (by omega)
    rw [oweL]
    by_cases e : q = n
    · subst e
      rw [pk_us, if_pos (show q < q + 1 by omega), ih, if_neg (by omega), oweL_out fo fa k N q (by omega) (Or.inl (by omega))]
    · rw [pk_un (by omega), ih]
      by_cases h : q < n
      · rw [if_pos h, if_pos (show q < n + 1 by omega)]
      · rw [if_neg h, if_neg (show ¬ q < n + 1 by omega)]
/-- the tram's part alone may have changed -/
def smA (d d' : xN) (da da' : Nat → xN) : Prop := (∀ i, i ≠ 4 → i ≠ 5 → i ≠ 9 → da' i = da i) ∧ ∀ i, i ≠ 7 → d' i = d i
theorem RA_move {l k v pl : Nat} {N d d' : xN} {da da' : Nat → xN} (hk : k < 2) (hl : 2 ≤ l) (h12 : l ≤ 12) (hv : v < l) (hp : nI pl = nI l) (h1 : N (1 + k) = nI v) (h3 : N (3 + k) = 0 ∨ N (3 + k) = 1) (hA : RA d da N) (d3 : d' 3 = d 3) (d7 : d' 7 = d 7 &&& (1 <<< (nI k &&& 31) ^^^ -1)) {w : Int32}
    (hw : (v = 0 ∧ w = 0) ∨ (0 < v ∧ v + 1 = l ∧ w = 1) ∨ (0 < v ∧ v + 1 < l ∧ w = N (3 + k))) (h5 : ∀ i, i < 2 → da' 5 i = upd (da 5) k w i) (h4 : da' 4 = upd (da 4) k (nI v + (if w = 0 then 1 else -1))) : RA d' da' (onA (nI l) N k) := by
  have hwy : wayP (nI l) N k = w := by
    unfold wayP
    rw [h1]
    have e1 : nI l - 1 = nI (l - 1) := by
      have := pk_sub (a := l) (b := 1) (by omega)
      rw [← this]; rfl
    rw [e1]
    have e2 : (nI v = nI (l - 1)) ↔ v = l - 1 := nI_eq (by omega) (by omega)
    have e3 : (nI v = 0) ↔ v = 0 := nI_eq (b := 0) (by omega) (by omega)
    simp only [e2, e3]
    rcases hw with ⟨a1, rfl⟩ | ⟨a1, a2, rfl⟩ | ⟨a1, a2, rfl⟩ <;> rcases h3 with h3 | h3 <;> rw [h3]
    · rw [if_neg (by rw [if_pos rfl]; omega)]
    · rw [if_pos (by rw [if_neg (by decide)]; exact a1)]; rfl
    · rw [if_pos (by rw [if_pos rfl]; omega)]; rfl
    · rw [if_neg (by rw [if_neg (by decide)]; omega)]
    · rw [if_neg (by rw [if_pos rfl]; omega)]
    · rw [if_neg (by rw [if_neg (by decide)]; omega)]
  unfold onA
  rw [hwy, h1]
  refine ⟨?_, fun j hj => ?_⟩
  · rw [d3, pk_un (by omega), pk_un (by omega), pk_un (by omega)]; exact hA.1
  obtain ⟨a1, a2, a3⟩ := hA.2 j hj
  rw [h4, h5 j hj, d7, clr_bit _ (by omega) (by omega)]
  by_cases e : j = k
  · subst e
    refine ⟨?_, ?_, ?_⟩
    · rw [pk_us, pk_un (by omega), pk_us]
    · rw [pk_us, pk_un (by omega), pk_un (by omega), pk_us]
    · rw [pk_us]; simp [bI]
  · refine ⟨?_, ?_, ?_⟩
    · rw [pk_un e, pk_un (by omega), pk_un (by omega), pk_un (by omega), a1]
    · rw [pk_un e, pk_un (by omega), pk_un (by omega), pk_un (by omega), a2]
    · rw [pk_un (by omega), pk_un (by omega), pk_un (by omega), a3]
      simp [e]
/-- what those aboard owe -/
theorem cD_mv_loop (L : xLn) (Q : Option Value → List xE → Prop) (d : xN) (da : Nat → xN) (t : xN) (ta : Nat → xN) (k n0 : Nat) (hk : k < 2) (F : xN) (B : Nat → Prop) (hB : ∀ q, q < 8 → (hasP (da 6 k) (nI q) = true ↔ B q))
    (fin : ∀ f9 : xN, (∀ q, q < 8 → (B q → f9 q = F q + t 4) ∧ (¬ B q → f9 q = F q)) → Q none (dtW d (va_up da 9 f9) t ta)) :
    ∀ (n q : Nat) (f9 : xN), q + n = 8 → (∀ i, i < 8 → (i < q ∧ B i → f9 i = F i + t 4) ∧ (¬ (i < q ∧ B i) → f9 i = F i)) → AJ L mX0_moveOn 0 0 0 Q n0 (0, 0) 93 [some (.ref 0), some (.int (nI k)), some (.int (nI q))] [] (dtW d (va_up da 9 f9) t ta) := by
  intro n
  induction n with
  | zero =>
    intro q f9 hq h9
    obtain rfl : q = 8 := by omega
    exact AJ.run kX0_moveOn [93] 30 ⟨fun _ => fin f9 (fun i hi => ⟨fun z => (h9 i hi).1 ⟨hi, z⟩, fun z => (h9 i hi).2 (fun y => z y.2)⟩), fun hz => absurd (by decide) hz⟩
  | succ n ih =>
    intro q f9 hq h9
    have nxt := fun f h => ih (q + 1) f (by omega) h
    rw [nI_succ] at nxt
    refine AJ.run kX0_moveOn [93] 60 ⟨fun hz => absurd hz (nI_ge (b := 8) (by omega) (by omega)), fun hz => ⟨k, rfl, by omega, fun h5 => ?_, fun h5 => ⟨q, rfl, by omega, q, rfl, by omega, ?_⟩⟩⟩
    · have h5 : ¬ da 6 k >>> (nI q &&& 31) &&& 1 = 1 := h5
      rw [hasP_iff, hB q (by omega)] at h5
      refine nxt f9 (fun i hi => ?_)
      by_cases e : i = q
      · subst e
        exact ⟨fun z => absurd z.2 h5, fun _ => (h9 i hi).2 (fun y => h5 y.2)⟩
      · exact ⟨fun z => (h9 i hi).1 ⟨by omega, z.2⟩, fun z => (h9 i hi).2 (fun y => z ⟨by omega, y.2⟩)⟩
    · have h5 : da 6 k >>> (nI q &&& 31) &&& 1 = 1 := h5
      rw [hasP_iff, hB q (by omega)] at h5
      refine nxt (upd f9 q (f9 q + t 4)) (fun i hi => ?_)
      by_cases e : i = q
      · subst e
        rw [pk_us]
        refine ⟨fun _ => ?_, fun z => absurd ⟨by omega, h5⟩ z⟩
        rw [(h9 i hi).2 (fun y => by omega)]
      · rw [pk_un e]
        exact ⟨fun z => (h9 i hi).1 ⟨by omega, z.2⟩, fun z => (h9 i hi).2 (fun y => z ⟨by omega, y.2⟩)⟩
/-- the tram's step, by its way -/
theorem cD_mv_step (L : xLn) (Q : Option Value → List xE → Prop) (d : xN) (da : Nat → xN) (t : xN) (ta : Nat → xN) (k n0 : Nat) (hk : k < 2)
    (nxt : ∀ x : Int32, (da 5 k = 0 ∧ x = 1 ∨ ¬ da 5 k = 0 ∧ x = -1) → (da 6 k = 0 → Q none (dtW (upd d 7 (d 7 &&& (1 <<< (nI k &&& 31) ^^^ -1))) (va_up da 4 (upd (da 4) k (da 4 k + x))) t ta)) ∧ AJ L mX0_moveOn 0 0 0 Q n0 (0, 0) 93 [some (.ref 0), some (.int (nI k)), some (.int (nI 0))] [] (dtW (upd d 7 (d 7 &&& (1 <<< (nI k &&& 31) ^^^ -1))) (va_up da 4 (upd (da 4) k (da 4 k + x))) t ta)) :
    AJ L mX0_moveOn 0 0 0 Q n0 (0, 0) 44 [some (.ref 0), some (.int (nI k)), none] [] (dtW d da t ta) := by
  refine AJ.run kX0_moveOn [93, 65] 100 ⟨k, rfl, by omega, k, rfl, by omega, fun h5 => ?_, fun h5 => ?_⟩
  · have n1 := nxt (-1) (Or.inr ⟨h5, rfl⟩)
    exact AJ.run kX0_moveOn [93] 100 ⟨k, rfl, by omega, k, rfl, by omega, fun h6 => n1.2, fun h6 => n1.1 h6⟩
  · have n1 := nxt 1 (Or.inl ⟨h5, rfl⟩)
    exact AJ.run kX0_moveOn [93] 100 ⟨k, rfl, by omega, k, rfl, by omega, fun h6 => n1.2, fun h6 => n1.1 h6⟩
