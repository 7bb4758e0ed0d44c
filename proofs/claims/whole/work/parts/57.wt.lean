/-! ===== what is told is as it can be ===== -/
def WT (l m : Nat) (s : xN) (a : Nat → xN) : Prop :=
  (2 ≤ l ∧ l ≤ 12 ∧ s 0 = nI l) ∧ (m ≤ 24 ∧ s 9 = nI m) ∧
  ((∃ v, v < 8 ∧ s 1 = nI v) ∧ (∃ v, 1 ≤ v ∧ v ≤ 30 ∧ s 2 = nI v) ∧ (∃ v, 1 ≤ v ∧ v ≤ 6 ∧ s 3 = nI v) ∧ (∃ v, v ≤ 99 ∧ s 4 = nI v)) ∧
  (∀ k, k < 2 → hasP (s 5) (nI k) = true → (∃ v, v < l ∧ a 6 (3 * k) = nI v) ∧ (∃ v, v < 60 ∧ a 6 (3 * k + 1) = nI v)) ∧
  (∀ k, k < 2 → ∃ v, v < 2 ∧ a 6 (3 * k + 2) = nI v) ∧
  (∀ q, 8 ≤ q → q < 32 → hasP (s 7) (nI q) = false) ∧
  (∀ q, q < 8 → hasP (s 7) (nI q) = true → ∃ b h, b < l ∧ h < l ∧ a 8 (2 * q) = nI b ∧ a 8 (2 * q + 1) = nI h) ∧
  (∀ k, k < m → ∃ p kd t, p < 8 ∧ hasP (s 7) (nI p) = true ∧ kd < 3 ∧ t < 60 ∧ a 10 (3 * k) = nI p ∧ a 10 (3 * k + 1) = nI kd ∧ a 10 (3 * k + 2) = nI t)
theorem WT.t {l m : Nat} {s : xN} {a : Nat → xN} (h : WT l m s a) : okT s a m := by
  obtain ⟨-, ⟨h1, h2⟩, -, -, -, -, -, h3⟩ := h
  refine ⟨h2, h1, fun k hk => ?_⟩
  obtain ⟨p, kd, t, hp, -, -, -, e, -⟩ := h3 k hk
  exact ⟨p, hp, e⟩
theorem WT_congr {l m : Nat} {s s' : xN} {a a' : Nat → xN} (h : WT l m s a) (hs : ∀ i, i < 10 → s' i = s i) (h6 : a' 6 = a 6) (h8 : a' 8 = a 8) (h10 : ∀ i, i < 3 * m → a' 10 i = a 10 i) : WT l m s' a' := by
  unfold WT at h ⊢
  rw [hs 0 (by omega), hs 9 (by omega), hs 1 (by omega), hs 2 (by omega), hs 3 (by omega), hs 4 (by omega), hs 5 (by omega), hs 7 (by omega), h6, h8]
  refine ⟨h.1, h.2.1, h.2.2.1, h.2.2.2.1, h.2.2.2.2.1, h.2.2.2.2.2.1, h.2.2.2.2.2.2.1, fun k hk => ?_⟩
  rw [h10 (3 * k) (by omega), h10 (3 * k + 1) (by omega), h10 (3 * k + 2) (by omega)]
  exact h.2.2.2.2.2.2.2 k hk
theorem inP_1 {k : Int32} {n : Nat} (hn : n < 1000) (h : inP k 1 (nI n) = true) : ∃ p, 1 ≤ p ∧ p ≤ n ∧ k = nI p := by
  have h := of_decide_eq_true h
  have h1 := h.1
  simp only [i32_le] at h1
  have e1 : (1 : Int32).toInt = 1 := rfl
  obtain ⟨p, hp, e⟩ := nI_of2 (M := nI n) (nI_toInt (by omega)) (by rw [i32_lt]; have e0 : (0 : Int32).toInt = 0 := rfl; omega) h.2
  rw [e, nI_toInt (by omega)] at h1
  exact ⟨p, by omega, hp, e⟩
theorem inP_2 {k : Int32} {n : Nat} (hn : n < 1000) (h : inP k 2 (nI n) = true) : ∃ p, 2 ≤ p ∧ p ≤ n ∧ k = nI p := by
  have h := of_decide_eq_true h
  have h1 := h.1
  simp only [i32_le] at h1
  have e1 : (2 : Int32).toInt = 2 := rfl
  obtain ⟨p, hp, e⟩ := nI_of2 (M := nI n) (nI_toInt (by omega)) (by rw [i32_lt]; have e0 : (0 : Int32).toInt = 0 := rfl; omega) h.2
  rw [e, nI_toInt (by omega)] at h1
  exact ⟨p, by omega, hp, e⟩
theorem inP_l {k : Int32} {l : Nat} (hl : 1 ≤ l) (hn : l < 1000) (h : inP k 0 (nI l - 1) = true) : ∃ p, p < l ∧ k = nI p := in_lt hn h
set_option maxHeartbeats 1000000 in
theorem WT_dl {l m w : Nat} {ns s : xN} {a : Nat → xN} (h : WT l m s a) (hl : lnOK w ns s) : ∃ l' m', WT l' m' (dlS w ns s) (dlA w ns s a) := by
  obtain ⟨⟨g1, g2, g3⟩, ⟨m1, m2⟩, ⟨n1, n2, n3, n4⟩, t1, t2, f1, f2, d1⟩ := h
  obtain ⟨hw, o1, o2⟩ := hl
  rcases (show w = 0 ∨ w = 1 ∨ w = 2 ∨ w = 3 ∨ w = 4 ∨ w = 5 ∨ (6 ≤ w ∧ w ≤ 8) ∨ w = 9 by omega) with rfl | rfl | rfl | rfl | rfl | rfl | hw3 | rfl
  · obtain ⟨v, v1, v2, ev⟩ := inP_2 (n := 12) (by omega) (o2 0 (by decide))
    rw [dlS_w0, dlA_w (by omega)]
    refine ⟨v, 0, ⟨v1, v2, ev⟩, ⟨by omega, rfl⟩, ⟨n1, n2, n3, n4⟩, fun k hk hz => ?_, t2, fun q h1 h2 => zero_bit h2, fun q hq hz => ?_, fun k hk => by omega⟩
    · exact absurd hz (by rw [show (upd (upd (upd (upd s 0 (ns 0)) 5 0) 7 0) 9 0) 5 = 0 from rfl, zero_bit (by omega)]; simp)
    · exact absurd hz (by rw [show (upd (upd (upd (upd s 0 (ns 0)) 5 0) 7 0) 9 0) 7 = 0 from rfl, zero_bit (by omega)]; simp)
  · obtain ⟨v, v1, ev⟩ := inP_nI (n := 7) (by omega) (o2 0 (by decide))
    obtain ⟨u, u1, u2, eu⟩ := inP_1 (n := 30) (by omega) (o2 1 (by decide))
    rw [dlS_w1, dlA_w (by omega)]
    exact ⟨l, m, ⟨g1, g2, g3⟩, ⟨m1, m2⟩, ⟨⟨v, by omega, ev⟩, ⟨u, u1, u2, eu⟩, n3, n4⟩, t1, t2, f1, f2, d1⟩
  · obtain ⟨u, u1, u2, eu⟩ := inP_1 (n := 6) (by omega) (o2 0 (by decide))
    rw [dlS_w2, dlA_w (by omega)]
    exact ⟨l, m, ⟨g1, g2, g3⟩, ⟨m1, m2⟩, ⟨n1, n2, ⟨u, u1, u2, eu⟩, n4⟩, t1, t2, f1, f2, d1⟩
  · obtain ⟨v, v1, ev⟩ := inP_nI (n := 99) (by omega) (o2 0 (by decide))
    rw [dlS_w3, dlA_w (by omega)]
    exact ⟨l, m, ⟨g1, g2, g3⟩, ⟨m1, m2⟩, ⟨n1, n2, n3, ⟨v, v1, ev⟩⟩, t1, t2, f1, f2, d1⟩
  · obtain ⟨v, v1, ev⟩ := inP_nI (n := 1) (by omega) (o2 0 (by decide))
    have b1 := o2 1 (by decide)
    have b2 := o2 2 (by decide)
    have b3 := o2 3 (by decide)
    rw [g3] at b1
    obtain ⟨p, p1, ep⟩ := inP_l (by omega) (by omega) b1
    obtain ⟨t, q1, et⟩ := inP_nI (n := 59) (by omega) b2
    obtain ⟨y, y1, ey⟩ := inP_nI (n := 1) (by omega) b3
    rw [dlS_w4, dlA_w4, ev, nI_clamp (by omega), ep, et, ey]
    refine ⟨l, m, ⟨g1, g2, g3⟩, ⟨m1, m2⟩, ⟨n1, n2, n3, n4⟩, fun k hk hz => ?_, fun k hk => ?_, f1, f2, d1⟩
    · show (∃ v', v' < l ∧ upd (upd (upd (a 6) (3 * v) (nI p)) (3 * v + 1) (nI t)) (3 * v + 2) (nI y) (3 * k) = nI v') ∧ (∃ v', v' < 60 ∧ upd (upd (upd (a 6) (3 * v) (nI p)) (3 * v + 1) (nI t)) (3 * v + 2) (nI y) (3 * k + 1) = nI v')
      have hz : hasP (s 5 ||| 1 <<< (nI v &&& 31)) (nI k) = true := hz
      rw [set_bit _ (by omega) (by omega)] at hz
      by_cases e : k = v
      · subst e
        rw [pk_un (by omega), pk_un (by omega), pk_us, pk_un (by omega), pk_us]
        exact ⟨⟨p, p1, rfl⟩, ⟨t, by omega, rfl⟩⟩
      · rw [pk_un (by omega), pk_un (by omega), pk_un (by omega), pk_un (by omega), pk_un (by omega), pk_un (by omega)]
        simp [e] at hz
        exact t1 k hk hz
    · show ∃ v', v' < 2 ∧ upd (upd (upd (a 6) (3 * v) (nI p)) (3 * v + 1) (nI t)) (3 * v + 2) (nI y) (3 * k + 2) = nI v'
      by_cases e : k = v
      · subst e
        rw [pk_us]
        exact ⟨y, by omega, rfl⟩
      · rw [pk_un (by omega), pk_un (by omega), pk_un (by omega)]
        exact t2 k hk
  · obtain ⟨v, v1, ev⟩ := inP_nI (n := 7) (by omega) (o2 0 (by decide))
    have b1 := o2 1 (by decide)
    have b2 := o2 2 (by decide)
    rw [g3] at b1 b2
    obtain ⟨p, p1, ep⟩ := inP_l (by omega) (by omega) b1
    have b2 : (inP (ns 2) 0 (nI l - 1) && decide (¬ ns 1 = ns 2)) = true := b2
    rw [Bool.and_eq_true] at b2
    obtain ⟨t, q1, et⟩ := inP_l (by omega) (by omega) b2.1
    rw [dlS_w5, dlA_w5, ev, nI_clamp (by omega), ep, et]
    refine ⟨l, m, ⟨g1, g2, g3⟩, ⟨m1, m2⟩, ⟨n1, n2, n3, n4⟩, t1, t2, fun q h1 h2 => ?_, fun q hq hz => ?_, fun k hk => ?_⟩
    · show hasP (s 7 ||| 1 <<< (nI v &&& 31)) (nI q) = false
      rw [set_bit _ (by omega) (by omega), f1 q h1 h2]
      have : ¬ q = v := by omega
      simp [this]
    · show ∃ b h, b < l ∧ h < l ∧ upd (upd (a 8) (2 * v) (nI p)) (2 * v + 1) (nI t) (2 * q) = nI b ∧ upd (upd (a 8) (2 * v) (nI p)) (2 * v + 1) (nI t) (2 * q + 1) = nI h
      have hz : hasP (s 7 ||| 1 <<< (nI v &&& 31)) (nI q) = true := hz
      rw [set_bit _ (by omega) (by omega)] at hz
      by_cases e : q = v
      · subst e
        refine ⟨p, t, p1, q1, ?_, ?_⟩
        · rw [pk_un (by omega), pk_us]
        · rw [pk_us]
      · rw [pk_un (by omega), pk_un (by omega), pk_un (by omega), pk_un (by omega)]
        simp [e] at hz
        exact f2 q hq hz
    · obtain ⟨p', kd, t', h1, h2, h3, h4, h5⟩ := d1 k hk
      refine ⟨p', kd, t', h1, ?_, h3, h4, h5⟩
      show hasP (s 7 ||| 1 <<< (nI v &&& 31)) (nI p') = true
      rw [set_bit _ (by omega) (by omega), h2]; rfl
  · have hc : ∀ i ns v, cstP w i (s 0) (s 7) ns v = if i = 0 then inP v 0 7 && hasP (s 7) v else inP v 0 59 := by
      intro i ns v
      rcases (show w = 6 ∨ w = 7 ∨ w = 8 by omega) with rfl | rfl | rfl <;> rfl
    have hcn : cntN w = 2 := by rcases (show w = 6 ∨ w = 7 ∨ w = 8 by omega) with rfl | rfl | rfl <;> rfl
    have b0 := o2 0 (by omega)
    have b1 := o2 1 (by omega)
    rw [hc, if_pos rfl, Bool.and_eq_true] at b0
    rw [hc, if_neg (by decide)] at b1
    obtain ⟨v, v1, ev⟩ := inP_nI (n := 7) (by omega) b0.1
    obtain ⟨t, q1, et⟩ := inP_nI (n := 59) (by omega) b1
    have hv := b0.2
    rw [ev] at hv
    have hm24 : m < 24 := by
      have h24 := o1 hw3
      rw [m2] at h24
      rcases Nat.lt_or_ge m 24 with z | z
      · exact z
      · exact absurd (by rw [show m = 24 by omega]; rfl) h24
    rw [dlS_wm hw3, dlA_wm hw3, m2, nI_clamp (by omega), ev, et]
    refine ⟨l, m + 1, ⟨g1, g2, g3⟩, ⟨by omega, nI_1 m⟩, ⟨n1, n2, n3, n4⟩, t1, t2, f1, f2, fun k hk => ?_⟩
    show ∃ p kd t', p < 8 ∧ hasP (s 7) (nI p) = true ∧ kd < 3 ∧ t' < 60 ∧ upd (upd (upd (a 10) (3 * m) (nI v)) (3 * m + 1) (nI w - 6)) (3 * m + 2) (nI t) (3 * k) = nI p ∧ upd (upd (upd (a 10) (3 * m) (nI v)) (3 * m + 1) (nI w - 6)) (3 * m + 2) (nI t) (3 * k + 1) = nI kd ∧ upd (upd (upd (a 10) (3 * m) (nI v)) (3 * m + 1) (nI w - 6)) (3 * m + 2) (nI t) (3 * k + 2) = nI t'
    by_cases e : k = m
    · subst e
      refine ⟨v, w - 6, t, by omega, hv, by omega, by omega, ?_, ?_, ?_⟩
      · rw [pk_un (by omega), pk_un (by omega), pk_us]
      · rw [pk_un (by omega), pk_us]
        exact pk_sub (a := w) (b := 6) (by omega)
      · rw [pk_us]
    · rw [pk_un (by omega), pk_un (by omega), pk_un (by omega), pk_un (by omega), pk_un (by omega), pk_un (by omega), pk_un (by omega), pk_un (by omega), pk_un (by omega)]
      exact d1 k (by omega)
  · rw [dlS_w9, dlA_w (by omega)]
    exact ⟨l, 0, ⟨g1, g2, g3⟩, ⟨by omega, rfl⟩, ⟨n1, n2, n3, n4⟩, t1, t2, f1, f2, fun k hk => by omega⟩
theorem WT_dlR {l m : Nat} {rd s : xN} {a : Nat → xN} (h : WT l m s a) (n : Nat) : rdOK rd s a n → ∃ l' m', WT l' m' (dlR rd s a n).1 (dlR rd s a n).2 := by
  induction n with
  | zero => exact fun _ => ⟨l, m, h⟩
  | succ n ih =>
    intro hO
    obtain ⟨l', m', ih⟩ := ih (fun i hi => hO i (by omega))
    have h2 := (hO n (by omega)).2
    rw [dlR]
    generalize dlR rd s a n = T at ih h2 ⊢
    generalize (rd (5 * n)).toNatClampNeg = w at h2 ⊢
    generalize (fun k => rd (5 * n + 1 + k)) = ns at h2 ⊢
    exact WT_dl ih h2
theorem WT_rdL {f : xN} {n : Nat} : ∀ (k i p : Nat) (s : xN) (a : Nat → xN) (l m : Nat), WT l m s a → ∀ c S A, rdL f n k i p s a = .inr (c, S, A) → ∃ l' m', WT l' m' S A := by
  intro k
  induction k with
  | zero => intro i p s a l m h c S A h2; rw [rdL] at h2; cases h2
  | succ k ih =>
    intro i p s a l m h c S A h2
    cases hl : lineP f n p (s 0) (s 7) (s 9) with
    | inl e => rw [rdL_er hl] at h2; cases h2
    | inr q =>
      obtain ⟨w, ns, p'⟩ := q
      rw [rdL_go hl] at h2
      obtain ⟨l', m', hW⟩ := WT_dl h (lineP_ok hl).1
      split at h2
      · exact ih _ _ _ _ _ _ hW _ _ _ h2
      · split at h2
        · cases h2; exact ⟨l', m', hW⟩
        · cases h2
