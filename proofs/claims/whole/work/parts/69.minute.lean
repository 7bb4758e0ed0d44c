/-! ===== a minute: what stays true; the class's minute ===== -/
theorem feltL_at (mo N : xN) (hN : abO N) {k : Nat} : ∀ n, n ≤ 26 → (∀ i, i < n → ∃ p, p < 8 ∧ mo (3 * i) = nI p) → feltL mo N n (41 + k) = if k < n ∧ mo (3 * k + 2) = N 0 then plP N (mo (3 * k)).toNatClampNeg else N (41 + k)
  | 0, _, _ => by rw [feltL, if_neg (by omega)]
  | n + 1, hn, hp => by
    have ih := feltL_at mo N hN (k := k) n (by omega) (fun i hi => hp i (by omega))
    have lo : ∀ i, i < 41 → feltL mo N n i = N i := fun i hi => feltL_out mo N (Or.inl hi) n (by omega)
    obtain ⟨p, hp8, ep⟩ := hp n (by omega)
    have pl : plP (feltL mo N n) (mo (3 * n)).toNatClampNeg = plP N (mo (3 * n)).toNatClampNeg := by
      rw [ep, nI_clamp (by omega)]
      exact plP_same hp8 hN (fun i hi => lo i (by omega))
    rw [feltL, feltF, lo 0 (by omega), pl]
    by_cases e : k = n
    · subst e
      by_cases h : mo (3 * k + 2) = N 0
      · rw [if_pos h, pk_us, if_pos ⟨by omega, h⟩]
      · rw [if_neg h, ih, if_neg (by omega), if_neg (fun z => h z.2)]
    · have e1 : (k < n + 1 ∧ mo (3 * k + 2) = N 0) ↔ (k < n ∧ mo (3 * k + 2) = N 0) := by
        constructor
        · rintro ⟨z1, z2⟩; exact ⟨by omega, z2⟩
        · rintro ⟨z1, z2⟩; exact ⟨by omega, z2⟩
      simp only [e1]
      rw [← ih]
      split
      · exact pk_un (by omega)
      · rfl
theorem WD.d {l m sp : Nat} {s : xN} {a : Nat → xN} (h : WD l m sp s a) : m ≤ 26 ∧ ∀ k, k < m → ∃ p, p < 8 ∧ a 10 (3 * k) = nI p := ⟨h.2.1, fun k hk => by
  obtain ⟨p, kd, t, h1, -, -, -, h2, -⟩ := h.mo k hk
  exact ⟨p, h1, h2⟩⟩
theorem IVp.le {e e' : Nat} {s : xN} {a : Nat → xN} {N : xN} (h : IVp e s a N) (he : e ≤ e') : IVp e' s a N := fun q hq => ⟨(h q hq).1, (h q hq).2.1, (h q hq).2.2.1, by
  rcases (h q hq).2.2.2 with z | ⟨t, z1, z2⟩
  · exact Or.inl z
  · exact Or.inr ⟨t, by omega, z2⟩⟩
theorem IVh.le {m e e' : Nat} {N : xN} (h : IVh m e N) (he : e ≤ e') : IVh m e' N := by
  obtain ⟨h, h1, h2, h3, h4⟩ := h
  refine ⟨h, h1, h2, h3, fun i hi => ⟨(h4 i hi).1, ?_⟩⟩
  obtain ⟨t, z1, z2⟩ := (h4 i hi).2
  exact ⟨t, by omega, z2⟩
theorem ID_felt {l m sp g : Nat} {s : xN} {a : Nat → xN} {N : xN} (hW : WD l m sp s a) (h60 : g < 60) (h : ID l m g g s a N) : ID l m g (g + 1) s a (feltL (a 10) N m) := by
  obtain ⟨hA, hP, hM, hH⟩ := h
  have hm := hW.2.1
  have out : ∀ i, (i < 41 ∨ 67 ≤ i) → feltL (a 10) N m i = N i := fun i hi => feltL_out (a 10) N hi m hm
  refine ⟨hA.same (fun i hi => out i (by omega)), (hP.le (by omega)).same (fun i h1 h2 => out i (by omega)), fun k hk => ?_, (hH.le (by omega)).same hm (fun i hi => out i (by omega))⟩
  obtain ⟨m1, m2, m3, m4, m5⟩ := hM k hk
  have at_ := feltL_at (a 10) N hP.ab (k := k) m hm hW.d.2
  rw [out (67 + k) (by omega)]
  by_cases hc : k < m ∧ a 10 (3 * k + 2) = N 0
  · rw [if_pos hc] at at_
    obtain ⟨p, kd, t, p1, p2, -, -, p3, -, p4⟩ := hW.mo k hc.1
    obtain ⟨v, v1, v2⟩ := plP_in hW hA hP p1 p2
    have hl := hW.1.2.1
    rw [at_, p3, nI_clamp (by omega), v2]
    have nm : ¬ nI v = -1 := nI_m1 (by omega)
    refine ⟨Or.inr ⟨v, v1, rfl⟩, m2, fun z => absurd z nm, fun z => by omega, fun _ t' h1 h2 h3 => ?_⟩
    rw [hc.2, hA.1.1, nI_eq (by omega) (by omega)] at h3
    omega
  · rw [if_neg hc] at at_
    rw [at_]
    exact ⟨m1, m2, m3, m4, fun z t' h1 h2 h3 => m5 z t' (by omega) h2 h3⟩
theorem wayP_is {l k v : Nat} {N : xN} {w : Int32} (hl : 2 ≤ l) (h12 : l ≤ 12) (hv : v < l) (h1 : N (1 + k) = nI v) (h3 : N (3 + k) = 0 ∨ N (3 + k) = 1) (hw : (v = 0 ∧ w = 0) ∨ (0 < v ∧ v + 1 = l ∧ w = 1) ∨ (0 < v ∧ v + 1 < l ∧ w = N (3 + k))) : wayP (nI l) N k = w := by
  unfold wayP
  rw [h1, l_m1 (by omega)]
  have e2 : (nI v = nI (l - 1)) ↔ v = l - 1 := nI_eq (by omega) (by omega)
  have e3 : (nI v = 0) ↔ v = 0 := nI_eq (b := 0) (by omega) (by omega)
  simp only [e2, e3]
  rcases hw with ⟨a1, rfl⟩ | ⟨a1, a2, rfl⟩ | ⟨a1, a2, rfl⟩ <;> rcases h3 with h3 | h3 <;> rw [h3]
  · rw [if_neg (by rw [if_pos rfl]; omega)]
  · rw [if_pos (by rw [if_neg (by decide)]; exact a1)]; rfl
  · rw [if_pos (by rw [if_pos rfl]; omega)]; rfl
  · rw [if_neg (by rw [if_neg (by decide)]; omega)]
  · rw [if_neg (by rw [if_pos rfl]; omega)]
  · rw [if_neg (by rw [if_neg (by decide)]; omega)]
theorem onA_pl {l k v : Nat} {N : xN} (hl : 2 ≤ l) (h12 : l ≤ 12) (hv : v < l) (h1 : N (1 + k) = nI v) (h3 : N (3 + k) = 0 ∨ N (3 + k) = 1) : (∃ v', v' < l ∧ N (1 + k) + (if wayP (nI l) N k = 0 then 1 else -1) = nI v') ∧ (wayP (nI l) N k = 0 ∨ wayP (nI l) N k = 1) := by
  have dn : 0 < v → ∃ v', v' < l ∧ nI v + (-1) = nI v' := fun hz => ⟨v - 1, by omega, by
    have := pk_m1 (v - 1)
    rw [show v - 1 + 1 = v by omega] at this
    exact this⟩
  by_cases z0 : v = 0
  · rw [wayP_is hl h12 hv h1 h3 (w := 0) (Or.inl ⟨z0, rfl⟩), h1, if_pos rfl]
    exact ⟨⟨v + 1, by omega, nI_1 v⟩, Or.inl rfl⟩
  by_cases z1 : v + 1 = l
  · rw [wayP_is hl h12 hv h1 h3 (w := 1) (Or.inr (Or.inl ⟨by omega, z1, rfl⟩)), h1, if_neg (by decide)]
    exact ⟨dn (by omega), Or.inr rfl⟩
  rw [wayP_is hl h12 hv h1 h3 (w := N (3 + k)) (Or.inr (Or.inr ⟨by omega, by omega, rfl⟩)), h1]
  refine ⟨?_, h3⟩
  rcases h3 with h3 | h3 <;> rw [h3]
  · rw [if_pos rfl]
    exact ⟨v + 1, by omega, nI_1 v⟩
  · rw [if_neg (by decide)]
    exact dn (by omega)
theorem cntB_on1 {P P' : Nat → Bool} {c : Nat} (h1 : P c = false) (h2 : P' c = true) : ∀ k, (∀ i, i < k → i ≠ c → P' i = P i) → cntB P' k = cntB P k + (if c < k then 1 else 0)
  | 0, _ => rfl
  | k + 1, h3 => by
    rw [cntB, cntB, cntB_on1 h1 h2 k (fun i hi => h3 i (by omega))]
    by_cases e : k = c
    · subst e
      rw [h1, h2]
      simp
    · rw [h3 k (by omega) e]
      by_cases hc : c < k
      · rw [if_pos hc, if_pos (show c < k + 1 by omega)]; omega
      · rw [if_neg hc, if_neg (show ¬ c < k + 1 by omega)]
        omega
theorem ID_goOn {l m sp g e k : Nat} {s : xN} {a : Nat → xN} {N : xN} (hk : k < 2) (hW : WD l m sp s a) (h5 : hasP (s 5) (nI k) = true) (h : ID l m g e s a N) : ID l m g e s a (goOnP (s 0) (s 7) (s 4) N k) := by
  obtain ⟨hA, hP, hM, hH⟩ := h
  have hm := hW.2.1
  obtain ⟨l2, l12, hs0⟩ := hW.1
  have out : ∀ i, (7 ≤ i ∧ i < 33 ∨ 41 ≤ i ∨ i = 0) → goOnP (s 0) (s 7) (s 4) N k i = N i := fun i hi => goOnP_out _ _ _ _ hk hi
  have hfo : ∀ q, q < 8 → N (17 + q) = nI k → hasP (s 7) (nI q) = true := fun q hq z => (hP.fo hk hq z).1
  refine ⟨⟨by rw [out 0 (by omega)]; exact hA.1, fun j hj => ?_⟩, fun q hq => ?_, hM.same (fun i h1 h2 => out i (by omega)), hH.same hm (fun i hi => out i (by omega))⟩
  · have lo : ∀ i, i < 7 → goOnP (s 0) (s 7) (s 4) N k i = onA (s 0) N k i := fun i hi => oweL_out _ _ _ _ 8 (by omega) (Or.inl (by omega))
    rw [lo (1 + j) (by omega), lo (3 + j) (by omega), lo (5 + j) (by omega)]
    by_cases ej : j = k
    · subst ej
      obtain ⟨v, hv, ev⟩ := (hA.2 j hj).1 h5
      obtain ⟨o1, o2⟩ := onA_pl l2 l12 hv ev (hA.2 j hj).2.1
      rw [← hs0] at o1 o2
      unfold onA
      refine ⟨fun _ => ?_, ?_, ?_⟩
      · rw [pk_un (by omega), pk_us]; exact o1
      · rw [pk_un (by omega), pk_un (by omega), pk_us]; exact o2
      · rw [pk_us]; exact Or.inl rfl
    · rw [onA_out _ _ (by omega), onA_out _ _ (by omega), onA_out _ _ (by omega)]
      exact hA.2 j hj
  · rw [out (17 + q) (by omega), out (25 + q) (by omega), out (9 + q) (by omega)]
    refine ⟨(hP q hq).1, fun z => ⟨((hP q hq).2.1 z).1, ?_⟩, (hP q hq).2.2⟩
    rw [(goOn_owe hk hfo hq).2 (fun y => by rw [hfo q hq y] at z; cases z)]
    exact ((hP q hq).2.1 z).2
theorem ID_haltA {l m g k c h : Nat} {s : xN} {a : Nat → xN} {N : xN} (hk : k < 2) (hm : m ≤ 26) (hl : l ≤ 12) (hc : c < m) (h67 : N (67 + c) = 0) (h41 : ¬ N (41 + c) = -1) (hh : N 7 + N 8 = nI h) (h100 : h < 100) (h0 : ID l m g (g + 1) s a N) : ID l m g (g + 1) s a (haltA N k c h) := by
  obtain ⟨hA, hP, hM, hH⟩ := h0
  have ec := haltA_5 N (h := h) hk (show c < 26 by omega)
  have e7 := haltA_7 N (c := c) (h := h) hk
  obtain ⟨r1, r2, r3, r4⟩ := haltA_row N (h := h) hk (show c < 26 by omega)
  refine ⟨⟨by rw [haltA_out N (by omega)]; exact hA.1, fun j hj => ?_⟩, hP.same (fun i h1 h2 => haltA_out N (by omega)), fun i hi => ?_, ?_⟩
  · rw [haltA_out N (i := 1 + j) (by omega), haltA_out N (i := 3 + j) (by omega)]
    refine ⟨(hA.2 j hj).1, (hA.2 j hj).2.1, ?_⟩
    by_cases e : j = k
    · subst e; rw [ec.1]; exact Or.inr rfl
    · rw [haltA_out N (by omega)]; exact (hA.2 j hj).2.2
  · obtain ⟨m1, m2, m3, m4, m5⟩ := hM i hi
    rw [haltA_out N (i := 41 + i) (by omega)]
    by_cases e : i = c
    · subst e
      rw [ec.2]
      exact ⟨m1, Or.inr rfl, fun z => absurd z h41, m4, m5⟩
    · rw [haltA_out N (i := 67 + i) (by omega)]
      exact ⟨m1, m2, m3, m4, m5⟩
  · obtain ⟨h', e1, e2, e3, e4⟩ := hH
    have hh' : h' = h := by
      rw [hh] at e1
      have : h' ≤ 26 := by rw [e2]; exact Nat.le_trans (cntB_le _ _) hm
      exact ((nI_eq (by omega) (by omega)).mp e1).symm
    subst hh'
    have row : ∀ i, i < h' → ∀ j, j < 4 → haltA N k c h' (93 + 4 * i + j) = N (93 + 4 * i + j) := fun i hi j hj => haltA_out N (by omega)
    refine ⟨h' + 1, by rw [haltA_hm N hk (by omega), hh, nI_1], ?_, fun j hj => ?_, fun i hi => ?_⟩
    · rw [cntB_on1 (P := fun k => decide (N (67 + k) = 1)) (c := c) (by simp [h67]) (by simp [ec.2]) m (fun i hi hne => by rw [haltA_out N (by omega)]), if_pos hc, ← e2]
    · have cz : cntB (fun i => decide (haltA N k c h' (93 + 4 * i) = nI j)) (h' + 1) = cntB (fun i => decide (N (93 + 4 * i) = nI j)) h' + (if j = k then 1 else 0) := by
        rw [cntB, r1, cntB_congr h' (fun i hi => by rw [show 93 + 4 * i = 93 + 4 * i + 0 from rfl, row i hi 0 (by omega)])]
        by_cases e : j = k
        · subst e; simp
        · have : ¬ nI k = nI j := by rw [nI_eq (by omega) (by omega)]; omega
          simp [this, e]
      rw [cz]
      by_cases e : j = k
      · subst e
        rw [e7, e3 j hj, if_pos rfl, nI_1]
      · rw [haltA_out N (by omega), e3 j hj, if_neg e]; rfl
    · by_cases e : i = h'
      · subst e
        rw [r3, r4, hA.1.1]
        exact ⟨⟨c, hc, rfl⟩, ⟨g, by omega, rfl⟩⟩
      · rw [row i (by omega) 3 (by omega), row i (by omega) 2 (by omega)]
        exact e4 i (by omega)
theorem ID_trX {l m sp g k : Nat} {s : xN} {a : Nat → xN} {N : xN} (hk : k < 2) (hW : WD l m sp s a) (h60 : g < 60) (h5 : hasP (s 5) (nI k) = true) (h : ID l m g (g + 1) s a N) : ID l m g (g + 1) s a (trX s a m N k) := by
  have hm := hW.2.1
  have hl := hW.1.2.1
  unfold trX
  split
  · exact ID_goOn hk hW h5 h
  · next hc =>
    rcases caP_in (s 30) (s 31) (a 10) N (N (1 + k)) m with z | ⟨c, c1, c2⟩
    · exact absurd (Or.inr z) hc
    obtain ⟨u1, u2⟩ := caP_un m c c2 (by omega) hm
    obtain ⟨hh, e1, e2, -⟩ := id h.2.2.2
    have hb : hh ≤ 26 := by rw [e2]; exact Nat.le_trans (cntB_le _ _) hm
    obtain ⟨v, hv, ev⟩ := (h.1.2 k hk).1 h5
    rw [c2, e1, nI_clamp (by omega), nI_clamp (by omega)]
    have hA := ID_haltA (c := c) (h := hh) hk hm hl c1 u1 (by rw [u2, ev]; exact nI_m1 (by omega)) e1 (by omega) h
    unfold haltP
    have g0 : haltA N k c hh 0 = nI g := hA.1.1.1
    have I3 := IVp_offL hk g0 (by omega) h60 h5 hA.2.1 8 (by omega)
    have I4 := IVp_onL (se := s 3) hk h5 I3 8 (by omega)
    have lo : ∀ i, i < 9 ∨ 33 ≤ i → (onL (s 7) (s 3) k (offL (s 7) (a 8) k (haltA N k c hh) 8) 8).1 i = haltA N k c hh i := fun i hi => (onL_out (s 7) (s 3) _ (by omega) 8 (by omega)).trans (offL_out (s 7) (a 8) _ hi 8 (by omega))
    exact ⟨hA.1.same (fun i hi => lo i (by omega)), I4, hA.2.2.1.same (fun i h1 h2 => lo i (by omega)), hA.2.2.2.same hm (fun i hi => lo i (by omega))⟩
theorem tramF_eq (s : xN) (a : Nat → xN) (m : Nat) (N : xN) (k : Nat) : tramF s a m N k = if hasP (s 5) (nI k) = true ∧ a 6 (3 * k + 1) ≤ N 0 then trX s a m N k else N := rfl
theorem ID_tramF {l m sp g k : Nat} {s : xN} {a : Nat → xN} {N : xN} (hk : k < 2) (hW : WD l m sp s a) (h60 : g < 60) (h : ID l m g (g + 1) s a N) : ID l m g (g + 1) s a (tramF s a m N k) := by
  rw [tramF_eq]
  split
  · next hc => exact ID_trX hk hW h60 hc.1 h
  · exact h
theorem ID_tick {l m g : Nat} {s : xN} {a : Nat → xN} {N : xN} (hm : m ≤ 26) (h60 : g < 60) (h : ID l m g (g + 1) s a N) : ID l m (g + 1) (g + 1) s a (upd N 0 (N 0 + 1)) := by
  obtain ⟨hA, hP, hM, hH⟩ := h
  refine ⟨⟨⟨by rw [pk_us, hA.1.1, nI_1], by omega⟩, fun k hk => ?_⟩, hP.same (fun i h1 h2 => pk_un (by omega)), hM.same (fun i h1 h2 => pk_un (by omega)), hH.same hm (fun i hi => pk_un (by omega))⟩
  rw [pk_un (by omega), pk_un (by omega), pk_un (by omega)]
  exact hA.2 k hk
theorem ID_min {l m sp g : Nat} {s : xN} {a : Nat → xN} {N : xN} (hW : WD l m sp s a) (h60 : g < 60) (h : ID l m g g s a N) : ID l m (g + 1) (g + 1) s a (minP s a m N) := by
  unfold minP
  exact ID_tick hW.2.1 h60 (ID_tramF (by omega) hW h60 (ID_tramF (by omega) hW h60 (ID_felt hW h60 h)))
theorem ID_begin {l m sp : Nat} {s : xN} {a : Nat → xN} (hW : WD l m sp s a) (N : xN) : ID l m 0 0 s a (beginP (a 6) (a 8) N) := by
  obtain ⟨b0, b7, b8⟩ := begin_0 (a 6) (a 8) N
  have zero : ∀ m, m ≤ 26 → cntB (fun k => decide (beginP (a 6) (a 8) N (67 + k) = 1)) m = 0 := by
    intro m hm
    induction m with
    | zero => rfl
    | succ m ih =>
      rw [cntB, ih (by omega), (begin_41 (a 6) (a 8) N (p := m) (by omega)).2]
      rfl
  refine ⟨⟨⟨b0, by omega⟩, fun k hk => ?_⟩, fun q hq => ?_, fun k hk => ?_, ⟨0, by rw [b7, b8]; rfl, (zero m hW.2.1).symm, fun k hk => ?_, fun i hi => by omega⟩⟩
  · obtain ⟨t1, t2, t3⟩ := begin_tr (a 6) (a 8) N hk
    rw [t1, t2, t3]
    refine ⟨fun h => (hW.2.2.2.2.2.1 k hk h).1, ?_, Or.inl rfl⟩
    obtain ⟨v, hv, ev⟩ := hW.2.2.2.2.2.2.1 k hk
    rw [ev]
    rcases (show v = 0 ∨ v = 1 by omega) with rfl | rfl
    · exact Or.inl rfl
    · exact Or.inr rfl
  · obtain ⟨t1, t2, t3, t4⟩ := begin_9 (a 6) (a 8) N hq
    rw [t1, t2, t3, t4]
    exact ⟨Or.inl rfl, fun _ => ⟨rfl, rfl⟩, by rw [if_pos rfl], Or.inl rfl⟩
  · obtain ⟨t1, t2⟩ := begin_41 (a 6) (a 8) N hk
    rw [t1, t2]
    exact ⟨Or.inl rfl, Or.inl rfl, fun _ => rfl, fun _ => rfl, fun _ _ _ _ _ => rfl⟩
  · rcases (show k = 0 ∨ k = 1 by omega) with rfl | rfl
    · rw [show 7 + 0 = 7 from rfl, b7]; rfl
    · rw [show 7 + 1 = 8 from rfl, b8]; rfl
