/-! ===== the class: moods drawn ===== -/
theorem bits_pos {x : Int32} (hb : ∀ q, 8 ≤ q → q < 32 → hasP x (nI q) = false) (h : ¬ x = 0) : 0 < cntB (fun i => hasP x (nI i)) 8 := by
  rcases Nat.eq_zero_or_pos (cntB (fun i => hasP x (nI i)) 8) with z | z
  · exfalso
    apply h
    apply bit_ext
    intro q hq
    rw [zero_bit hq]
    by_cases h8 : q < 8
    · have key : ∀ n, cntB (fun i => hasP x (nI i)) n = 0 → ∀ i, i < n → hasP x (nI i) = false := by
        intro n
        induction n with
        | zero => intro _ i hi; omega
        | succ n ih =>
          intro h0 i hi
          rw [cntB] at h0
          by_cases e : i = n
          · subst e
            cases hb2 : hasP x (nI i) with
            | false => rfl
            | true => rw [hb2, if_pos rfl] at h0; omega
          · exact ih (by omega) i (by omega)
      exact key 8 z q h8
    · exact hb q (by omega) hq
  · exact z
theorem poL_is (fo : Int32) : ∀ (f k i : Nat), k + f = 8 → i < cntB (fun q => hasP fo (nI q)) 8 - cntB (fun q => hasP fo (nI q)) k → ∃ p, p < 8 ∧ poL fo f k i = nI p ∧ hasP fo (nI p) = true := by
  intro f
  induction f with
  | zero =>
    intro k i hk hi
    obtain rfl : k = 8 := by omega
    omega
  | succ f ih =>
    intro k i hk hi
    rw [poL]
    have e : cntB (fun q => hasP fo (nI q)) (k + 1) = cntB (fun q => hasP fo (nI q)) k + (if hasP fo (nI k) = true then 1 else 0) := rfl
    by_cases c : hasP fo (nI k) = true
    · rw [if_pos c] at e ⊢
      by_cases c0 : i = 0
      · rw [if_pos c0]
        exact ⟨k, by omega, rfl, c⟩
      · rw [if_neg c0]
        exact ih (k + 1) (i - 1) (by omega) (by omega)
    · rw [if_neg c] at e ⊢
      exact ih (k + 1) i (by omega) (by omega)
theorem dmP_lo (fo : Int32) (c z m : Nat) (f : xN) : ∀ i j, j < 3 * m → dmP fo c z m f i j = f j
  | 0, _, _ => rfl
  | i + 1, j, hj => by rw [dmP, pk_un (by omega), pk_un (by omega), pk_un (by omega), dmP_lo fo c z m f i j hj]
theorem dmP_at (fo : Int32) (c z m : Nat) (f : xN) : ∀ n i, i < n → dmP fo c z m f n (3 * (m + i)) = poL fo 8 0 (dxP z (i + 1) % c) ∧ dmP fo c z m f n (3 * (m + i) + 1) = nI (dxP z (i + 1) / 8 % 3) ∧ dmP fo c z m f n (3 * (m + i) + 2) = nI (dxP z (i + 1) / 32 % 60)
  | 0, i, h => by omega
  | n + 1, i, h => by
    rw [dmP]
    by_cases e : i = n
    · subst e
      refine ⟨?_, ?_, ?_⟩
      · rw [pk_un (by omega), pk_un (by omega), pk_us]
      · rw [pk_un (by omega), pk_us]
      · rw [pk_us]
    · rw [pk_un (by omega), pk_un (by omega), pk_un (by omega), pk_un (by omega), pk_un (by omega), pk_un (by omega), pk_un (by omega), pk_un (by omega), pk_un (by omega)]
      exact dmP_at fo c z m f n i (by omega)
theorem WT_drawn {l m c z n : Nat} {s s' : xN} {a a' : Nat → xN} (h : WT l m s a) (hn : m + n ≤ 24) (hc : c = cntB (fun i => hasP (s 7) (nI i)) 8) (h0 : 0 < c) (hs : ∀ i, i < 9 → s' i = s i) (h9 : s' 9 = nI (m + n)) (h6 : a' 6 = a 6) (h8 : a' 8 = a 8) (h10 : a' 10 = dmP (s 7) c z m (a 10) n) : WT l (m + n) s' a' := by
  obtain ⟨g1, g2, g3, g4, g5, g6, g7, g8⟩ := h
  unfold WT
  rw [hs 0 (by omega), hs 1 (by omega), hs 2 (by omega), hs 3 (by omega), hs 4 (by omega), hs 5 (by omega), hs 7 (by omega), h6, h8, h10]
  refine ⟨g1, ⟨hn, h9⟩, g3, g4, g5, g6, g7, fun k hk => ?_⟩
  by_cases hkm : k < m
  · rw [dmP_lo _ _ _ _ _ _ _ (by omega), dmP_lo _ _ _ _ _ _ _ (by omega), dmP_lo _ _ _ _ _ _ _ (by omega)]
    exact g8 k hkm
  · obtain ⟨i, rfl⟩ : ∃ i, k = m + i := ⟨k - m, by omega⟩
    obtain ⟨e1, e2, e3⟩ := dmP_at (s 7) c z m (a 10) n i (by omega)
    rw [e1, e2, e3]
    obtain ⟨p, p1, p2, p3⟩ := poL_is (s 7) 8 0 (dxP z (i + 1) % c) rfl (by
      have := Nat.mod_lt (dxP z (i + 1)) h0
      show dxP z (i + 1) % c < cntB (fun q => hasP (s 7) (nI q)) 8 - 0
      omega)
    exact ⟨p, dxP z (i + 1) / 8 % 3, dxP z (i + 1) / 32 % 60, p1, p3, Nat.mod_lt _ (by omega), Nat.mod_lt _ (by omega), p2, rfl, rfl⟩
/-- a day that has not begun to go, with other moods -/
theorem DAY_0 {l m m' sp : Nat} {s s' : xN} {a a' : Nat → xN} {d : xN} {e : Nat → xN} {N : xN} (hm : m ≤ 24) (hm' : m' ≤ 24) (hW : WT l m s a) (h : DAY l m sp 0 s a d e N) (hs : ∀ i, i < 9 → s' i = s i) (h8 : a' 8 = a 8) : DAY l m' sp 0 s' a' d e N := by
  obtain ⟨⟨hA, hP, hM, hH⟩, hL, rA, rP, rF, rH⟩ := h
  have h41 : ∀ k, k < 26 → N (41 + k) = -1 ∧ N (67 + k) = 0 := by
    intro k hk
    obtain ⟨m1, m2, m3, m4, m5⟩ := hM k hk
    have : N (41 + k) = -1 := by
      by_cases hkm : k < m
      · obtain ⟨p, kd, t, p1, p2, p3, p4, p5, p6, p7⟩ := hW.2.2.2.2.2.2.2 k hkm
        exact m5 hkm t (by omega) p4 p7
      · exact m4 (by omega)
    exact ⟨this, m3 this⟩
  have c0 : ∀ m, m ≤ 26 → cntB (fun k => decide (N (67 + k) = 1)) m = 0 := by
    intro m hm
    induction m with
    | zero => rfl
    | succ m ih =>
      rw [cntB, ih (by omega), (h41 m (by omega)).2]
      rfl
  have s5 : toldP s' 5 = toldP s 5 := by rw [toldP_lo s' (by omega), toldP_lo s (by omega)]; exact hs 5 (by omega)
  have s7 : toldP s' 7 = toldP s 7 := by rw [toldP_lo s' (by omega), toldP_lo s (by omega)]; exact hs 7 (by omega)
  refine ⟨⟨?_, ?_, fun k hk => ?_, ?_⟩, ⟨?_, ?_⟩, rA, rP, ⟨rF.1, fun p hp k hk => ?_, fun k hk => ?_⟩, rH⟩
  · unfold IVa at hA ⊢
    rw [s5]
    exact hA
  · intro q hq
    have := hP q hq
    rw [s5, s7, h8]
    exact this
  · obtain ⟨m1, m2, m3, m4, m5⟩ := hM k hk
    exact ⟨m1, m2, m3, fun _ => (h41 k hk).1, fun _ _ _ _ _ => (h41 k hk).1⟩
  · obtain ⟨hh, e1, e2, e3, e4⟩ := hH
    rw [c0 m (by omega)] at e2
    subst e2
    exact ⟨0, e1, (c0 m' (by omega)).symm, e3, fun i hi => by omega⟩
  · rw [hL.1]; exact (hs 1 (by omega)).symm
  · rw [hL.2]; exact (hs 2 (by omega)).symm
  · rw [rF.2.1 p hp k hk]
    by_cases h26 : k < 26
    · rw [(h41 k h26).1]
      have : ¬ (-1 : Int32) = nI p := fun z => nI_m1 (by omega) z.symm
      simp [this]
    · have q1 : ¬ k < m := by omega
      have q2 : ¬ k < m' := by omega
      simp [q1, q2]
  · rw [rF.2.2 k hk]
    by_cases h26 : k < 26
    · rw [(h41 k h26).1]
      simp
    · have q1 : ¬ k < m := by omega
      have q2 : ¬ k < m' := by omega
      simp [q1, q2]
set_option maxRecDepth 100000 in
set_option maxHeartbeats 4000000 in
theorem c7_drawn (L : xLn) (l m sp n c : Nat) (x : xN) (xa : Nat → xN) (D : Nat → xN) (E : Nat → Nat → xN) (T : Nat → xN) (U : Nat → Nat → xN) (s : xN) (a : Nat → xN) (j : Int64) (hC : CI l m sp n c x xa D E T U s a) (zz nn : Int32) : CT L mX7_drawn 2 0 0 [.ref 0, .int zz, .int nn] (clsW x xa D E T U) (relQ (fun r Y => ((inP zz 1 9999 && inP nn 1 24) = false ∧ r = some (.int (-3)) ∧ Y = modW s j a) ∨ ((inP zz 1 9999 && inP nn 1 24) = true ∧ (0 < a 26 0 ∨ s 7 = 0) ∧ r = some (.int (-4)) ∧ Y = modW s j a) ∨ ∃ z q, 1 ≤ z ∧ z ≤ 9999 ∧ 1 ≤ q ∧ q ≤ 24 ∧ zz = nI z ∧ nn = nI q ∧ ¬ 0 < a 26 0 ∧ s 7 ≠ 0 ∧ ((24 < m + q ∧ r = some (.int (-5)) ∧ Y = modW s j a) ∨ (m + q ≤ 24 ∧ r = some (.int (nI (m + q))) ∧ Y = modW (upd s 9 (nI (m + q))) j (va_up (va_up a 10 (dmP (s 7) (cntB (fun i => hasP (s 7) (nI i)) 8) z m (a 10) q)) 29 (upd (upd (a 29) 0 0) 1 0)))))) := by
  obtain ⟨MQ, hMQ⟩ : ∃ MQ : Option Value → List xE → Prop, MQ = (fun r Y => ((inP zz 1 9999 && inP nn 1 24) = false ∧ r = some (.int (-3)) ∧ Y = modW s j a) ∨ ((inP zz 1 9999 && inP nn 1 24) = true ∧ (0 < a 26 0 ∨ s 7 = 0) ∧ r = some (.int (-4)) ∧ Y = modW s j a) ∨ ∃ z q, 1 ≤ z ∧ z ≤ 9999 ∧ 1 ≤ q ∧ q ≤ 24 ∧ zz = nI z ∧ nn = nI q ∧ ¬ 0 < a 26 0 ∧ s 7 ≠ 0 ∧ ((24 < m + q ∧ r = some (.int (-5)) ∧ Y = modW s j a) ∨ (m + q ≤ 24 ∧ r = some (.int (nI (m + q))) ∧ Y = modW (upd s 9 (nI (m + q))) j (va_up (va_up a 10 (dmP (s 7) (cntB (fun i => hasP (s 7) (nI i)) 8) z m (a 10) q)) 29 (upd (upd (a 29) 0 0) 1 0))))) := ⟨_, rfl⟩
  rw [← hMQ]
  obtain ⟨Q, hQ⟩ : ∃ Q, Q = relQ MQ := ⟨_, rfl⟩
  have fin : ∀ v x xa D E T U, (∀ rm Ym, MQ rm Ym → rm = some (.int v) ∧ ∃ s' j' a', Ym = modW s' j' a' ∧ CJ x xa D E T U s' a') → Q (some (.int v)) (clsW x xa D E T U) := fun v x xa D E T U h => by rw [hQ]; exact rel_y h
  rw [← hQ]
  clear hQ
  obtain ⟨⟨hW, hT, h2, hs1, hs2⟩, ⟨n1, n2, n3, n4⟩, ⟨c1, c2, c3, c4⟩, ⟨g, hI, hR⟩, hK, hF, hB⟩ := id hC
  obtain ⟨⟨t0, t1, t2, t3, t4, t5, t9, t12⟩, tt, tp, tm, tb⟩ := id hT
  obtain ⟨⟨l2, l12, s0⟩, ⟨m24, s9⟩, -⟩ := id hW
  have hCJ : CJ x xa D E T U s a := ⟨l, m, sp, n, c, hC⟩
  refine CT.of rfl (Nat.le_of_ble_eq_true rfl) (Nat.le_of_ble_eq_true rfl) ?_
  have g60 := hI.1.1.2
  have d3 : D 0 3 = nI g := hR.2.1.1.trans hI.1.1.1
  have a260 : a 26 0 = nI g := hI.1.1.1
  have hbits : ∀ q, 8 ≤ q → q < 32 → hasP (s 7) (nI q) = false := hW.2.2.2.2.2.1
  obtain ⟨cc, hcc⟩ : ∃ cc, cc = cntB (fun i => hasP (s 7) (nI i)) 8 := ⟨_, rfl⟩
  rw [← hcc] at hMQ
  have cc8 : cc ≤ 8 := by rw [hcc]; exact cntB_le _ _
  by_cases ck : (inP zz 1 9999 && inP nn 1 24) = true
  · rw [Bool.and_eq_true] at ck
    obtain ⟨z, z1, z2, rfl⟩ : ∃ z, 1 ≤ z ∧ z ≤ 9999 ∧ zz = nI z := by
      have h := of_decide_eq_true ck.1
      have h1 := h.1
      simp only [i32_le] at h1
      have e1 : (1 : Int32).toInt = 1 := rfl
      obtain ⟨p, hp, e⟩ := nI_of2 (x := zz) (M := 9999) (n := 9999) rfl (by rw [i32_lt]; have e0 : (0 : Int32).toInt = 0 := rfl; omega) h.2
      rw [e, nI_toInt (by omega)] at h1
      exact ⟨p, by omega, hp, e⟩
    obtain ⟨q, q1, q2, rfl⟩ := inP_1 (n := 24) (by omega) ck.2
    have ck : (inP (nI z) 1 9999 && inP (nI q) 1 24) = true := by rw [Bool.and_eq_true]; exact ck
    have injz : ∀ z', z' ≤ 9999 → nI z = nI z' → z' = z := fun z' h w => ((nI_eq (by omega) (by omega)).mp w).symm
    have injq : ∀ q', q' ≤ 24 → nI q = nI q' → q' = q := fun q' h w => ((nI_eq (by omega) (by omega)).mp w).symm
    have go : ∀ Q0, AJ L mX7_drawn 2 0 0 Q0 133 (0, 0) 26 [some (.ref 0), some (.int (nI z)), some (.int (nI q)), none, none] [] (clsW x xa D E T U) → AJ L mX7_drawn 2 0 0 Q0 133 (0, 0) 0 [some (.ref 0), some (.int (nI z)), some (.int (nI q)), none, none] [] (clsW x xa D E T U) := fun Q0 hh => AJ.run kX7_drawn [26, 25, 48, 65, 131] 30 ⟨fun w => absurd w (fun y => by
      have y : nI z < nI 1 := y
      rw [nI_ltI (by omega) (by omega)] at y; omega), fun _ => ⟨fun w => absurd w (fun y => by
      have y : nI 9999 < nI z := y
      rw [nI_ltI (by omega) (by omega)] at y; omega), fun _ => ⟨fun w => absurd w (fun y => by
      have y : nI q < nI 1 := y
      rw [nI_ltI (by omega) (by omega)] at y; omega), fun _ => ⟨fun _ => hh, fun w => absurd (nI_le (b := 24) q2 (by omega)) w⟩⟩⟩⟩
    refine go Q ?_
    have f4 : (0 < a 26 0 ∨ s 7 = 0) → Q (some (.int (-4))) (clsW x xa D E T U) := fun hz => fin (-4) x xa D E T U (by
      rintro rm Ym h
      rw [hMQ, ck] at h
      rcases h with ⟨h, -⟩ | ⟨-, -, rfl, rfl⟩ | ⟨z', q', -, -, -, -, -, -, h1, h2, -⟩
      · cases h
      · exact ⟨rfl, _, _, _, rfl, hCJ⟩
      · rcases hz with y | y
        · exact absurd y h1
        · exact absurd y h2)
    have hgone : (0 < D 0 3) ↔ 0 < a 26 0 := by rw [d3, a260]
    refine AJ.run kX7_drawn [49, 25, 48, 65, 131] 30 ⟨fun w => c7_ret kX7_drawn rfl rfl (f4 (Or.inl (hgone.mp w))), fun w1 => ⟨fun w2 => ?_, fun w2 => c7_ret kX7_drawn rfl rfl (f4 (Or.inr (by rw [← t9]; exact w2)))⟩⟩
    have g0 : g = 0 := by
      rcases Nat.eq_zero_or_pos g with y | y
      · exact y
      · exact absurd (by rw [d3]; exact nI_lt (a := 0) y (by omega)) w1
    have hn1 : ¬ 0 < a 26 0 := fun y => w1 (hgone.mpr y)
    have hn2 : s 7 ≠ 0 := fun y => w2 (by rw [t9]; exact y)
    have cc0 : 0 < cc := by rw [hcc]; exact bits_pos hbits hn2
    have hsum : T 0 12 + nI q = nI (m + q) := by rw [t12, nI_add]
    by_cases c24 : m + q ≤ 24
    · -- they are drawn
      obtain ⟨F, hFF⟩ : ∃ F : Nat → xN, F = fun i => dmP (s 7) cc z m (a 10) i := ⟨_, rfl⟩
      obtain ⟨X', hXX⟩ : ∃ X' : Nat → Nat, X' = fun i => dxP z i := ⟨_, rfl⟩
      have F0 : F 0 = a 10 := by rw [hFF]; rfl
      have Fs : ∀ i, F (i + 1) = upd (upd (upd (F i) (3 * (m + i)) (poL (s 7) 8 0 (X' (i + 1) % cc))) (3 * (m + i) + 1) (nI (X' (i + 1) / 8 % 3))) (3 * (m + i) + 2) (nI (X' (i + 1) / 32 % 60)) := by intro i; rw [hFF, hXX]; rfl
      have X0 : X' 0 = z := by rw [hXX]; rfl
      have Xs : ∀ i, X' (i + 1) = 16807 * X' i % 65521 := by intro i; rw [hXX]; rfl
      have Xl : ∀ i, X' i < 65521 := by intro i; rw [hXX]; exact dxP_lt (by omega) i
      have f2 : ∀ t ta, RT (m + q) t ta s (va_up a 10 (F q)) → Q (some (.int (t 12))) (clsW (upd (upd x 5 0) 14 0) (va_up xa 2 (upd (upd (xa 2) 0 0) 1 0)) D E (va_up T 0 t) (va_up U 0 ta)) := fun t ta hTt => fin (t 12) _ _ _ _ _ _ (by
        rintro rm Ym h
        rw [hMQ, ck] at h
        rcases h with ⟨h, -⟩ | ⟨-, h, -⟩ | ⟨z', q', r1, r2, r3, r4, r5, r6, -, -, ⟨r9, -⟩ | ⟨-, rfl, rfl⟩⟩
        · cases h
        · rcases h with y | y
          · exact absurd y hn1
          · exact absurd y hn2
        · have := injq q' r4 r6
          omega
        · obtain rfl := injq q' r4 r6
          obtain rfl := injz z' r2 r5
          have e10 : F q' = dmP (s 7) cc z' m (a 10) q' := by rw [hFF]
          rw [← e10]
          have hs9 : ∀ i, i < 9 → upd s 9 (nI (m + q')) i = s i := fun i hi => pk_un (by omega)
          have hW2 := WT_drawn (z := z') (a' := va_up (va_up a 10 (F q')) 29 (upd (upd (a 29) 0 0) 1 0)) hW c24 hcc cc0 hs9 pk_us rfl rfl e10
          refine ⟨by rw [hTt.1.2.2.2.2.2.2.2], _, _, _, rfl, l, m + q', sp, n, c, ⟨hW2, RT_s hTt (fun i hi => hs9 i (by omega)) rfl rfl (fun _ _ => rfl), h2, hs1, hs2⟩, ⟨n1, n2, n3, n4⟩, ⟨c1, c2, c3, c4⟩, ⟨0, ?_⟩, fun k hk => ?_, ⟨Or.inl rfl, fun y => absurd y (show ¬ (0 : Int32) = 1 by decide)⟩, ⟨Or.inl rfl, fun y => absurd y (show ¬ (0 : Int32) = 1 by decide)⟩⟩
          · subst g0
            exact DAY_0 m24 (by omega) hW ⟨hI, hR⟩ hs9 rfl
          · have hz : upd (upd (a 29) 0 0) 1 0 k = 0 ∧ upd (upd (xa 2) 0 0) 1 0 k = 0 := by
              rcases (show k = 0 ∨ k = 1 by omega) with rfl | rfl <;> exact ⟨rfl, rfl⟩
            show upd (upd (xa 2) 0 0) 1 0 k = upd (upd (a 29) 0 0) 1 0 k ∧ (upd (upd (a 29) 0 0) 1 0 k = 0 ∨ upd (upd (a 29) 0 0) 1 0 k = 1) ∧ (upd (upd (a 29) 0 0) 1 0 k = 1 → _)
            rw [hz.1, hz.2]
            exact ⟨rfl, Or.inl rfl, fun y => absurd y (by decide)⟩)
      clear hFF hXX hMQ
      have loop : ∀ (f i : Nat) (t : xN) (ta : Nat → xN), i + f = q → RT (m + i) t ta s (va_up a 10 (F i)) → AJ L mX7_drawn 2 0 0 Q 133 (0, 0) 71 [some (.ref 0), some (.int (nI z)), some (.int (nI q)), some (.int (nI (X' i))), some (.int (nI i))] [] (clsW x xa D E (va_up T 0 t) (va_up U 0 ta)) := by
        intro f
        induction f with
        | zero =>
          intro i t ta hi hTt
          obtain rfl : i = q := by omega
          have g124 : AJ L mX7_drawn 2 0 0 Q 133 (0, 0) 124 [some (.ref 0), some (.int (nI z)), some (.int (nI i)), some (.int (nI (X' i))), some (.int (nI i))] [] (clsW (upd (upd x 5 0) 14 0) (va_up xa 2 (upd (upd (xa 2) 0 0) 1 0)) D E (va_up T 0 t) (va_up U 0 ta)) := AJ.run kX7_drawn [25, 48, 65, 131] 30 (c7_ret kX7_drawn rfl rfl (f2 t ta hTt))
          refine AJ.run kX7_drawn [71, 25, 48, 65, 131] 30 ⟨fun _ => ?_, fun w => absurd (nI_le (Nat.le_refl _) (by omega)) w⟩
          refine AJ.callF kX7_drawn (c7_drop L _ _ _ _ _ _) bX7_dropWhatDependsOnMoods rfl (by decide +kernel) [] rfl rfl rfl rfl rfl (cls_wf rfl) rfl rfl ?_
          rintro r Y ⟨rfl, rfl⟩
          exact ⟨rfl, rfl, g124⟩
        | succ f ih =>
          intro i t ta hi hTt
          have hx := Xl i
          have hx1 := Xl (i + 1)
          have ex1 : (16807 : Int32) * nI (X' i) - (16807 : Int32) * nI (X' i) / 65521 * 65521 = nI (X' (i + 1)) := by
            rw [show (16807 : Int32) = nI 16807 from rfl, show (65521 : Int32) = nI 65521 from rfl, pk_mul, pk_rem (by omega) (by omega) (by omega), Xs i]
          have tb9 : t 9 = s 7 := hTt.1.2.2.2.2.2.2.1
          have ct := cT_toldPerson L t ta (X' (i + 1)) cc (by omega) (by rw [tb9, bitsP_cnt _ 8 (by omega), hcc]) cc0 cc8 (by rw [tb9]; exact hbits)
          rw [tb9] at ct
          have e8 : nI (X' (i + 1)) / 8 - nI (X' (i + 1)) / 8 / 3 * 3 = nI (X' (i + 1) / 8 % 3) := by
            rw [show (8 : Int32) = nI 8 from rfl, show (3 : Int32) = nI 3 from rfl, pk_div (by omega) (by omega) (by omega), pk_rem (by omega) (by omega) (by omega)]
          have e32 : nI (X' (i + 1)) / 32 - nI (X' (i + 1)) / 32 / 60 * 60 = nI (X' (i + 1) / 32 % 60) := by
            rw [show (32 : Int32) = nI 32 from rfl, show (60 : Int32) = nI 60 from rfl, pk_div (by omega) (by omega) (by omega), pk_rem (by omega) (by omega) (by omega)]
          have e12 : upd t 12 (nI (m + i)) = t := upd_id hTt.1.2.2.2.2.2.2.2
          obtain ⟨w, hw⟩ : ∃ w, w = poL (s 7) 8 0 (X' (i + 1) % cc) := ⟨_, rfl⟩
          rw [← hw] at ct
          have fs := Fs i
          rw [← hw] at fs
          clear hw
          have ca := cT_addMood L t ta (m + i) (X' (i + 1) / 32 % 60) (by omega) (Nat.mod_lt _ (by omega)) w (nI (X' (i + 1) / 8 % 3))
          rw [e12, ← e8, ← e32] at ca
          have hT2 : RT (m + (i + 1)) (upd t 12 (nI (m + i) + 1)) (tAdd ta (m + i) w (nI (X' (i + 1) / 8 % 3)) (X' (i + 1) / 32 % 60)) s (va_up a 10 (F (i + 1))) := RT_s (RT_add (m := m + i) (w := w) (kd := nI (X' (i + 1) / 8 % 3)) (by omega) (Nat.mod_lt _ (by omega)) hTt) (fun _ _ => rfl) rfl rfl (fun k _ => by
            show F (i + 1) k = _
            rw [fs]
            rfl)
          have nxt := ih (i + 1) _ _ (by omega) hT2
          rw [nI_succ i] at nxt
          have g111 : AJ L mX7_drawn 2 0 0 Q 133 (0, 0) 111 [some (.ref 0), some (.int (nI z)), some (.int (nI q)), some (.int (nI (X' (i + 1)))), some (.int (nI i))] [.int (nI (X' (i + 1)) / 32 - nI (X' (i + 1)) / 32 / 60 * 60), .int (nI (X' (i + 1)) / 8 - nI (X' (i + 1)) / 8 / 3 * 3), .int w, .ref 3] (clsW x xa D E (va_up T 0 t) (va_up U 0 ta)) := by
            refine AJ.callX kX7_drawn ca bX6_addMood rfl (by decide +kernel) [3, 4, 5, 6, 7, 8, 9, 10, 11, 12] [] rfl rfl rfl rfl rfl rfl rfl (cls_wf rfl) rfl rfl ?_
            rintro r Y ⟨rfl, rfl⟩
            rw [e8]
            refine ⟨(clsW x xa D E (va_up T 0 (upd t 12 (nI (m + i) + 1))) (va_up U 0 (tAdd ta (m + i) w (nI (X' (i + 1) / 8 % 3)) (X' (i + 1) / 32 % 60)))), rfl, rfl, ?_⟩
            exact AJ.run kX7_drawn [71, 25, 48, 65, 131] 30 nxt
          have g95 : AJ L mX7_drawn 2 0 0 Q 133 (0, 0) 95 [some (.ref 0), some (.int (nI z)), some (.int (nI q)), some (.int (nI (X' (i + 1)))), some (.int (nI i))] [.int (nI (X' (i + 1))), .ref 3, .ref 3] (clsW x xa D E (va_up T 0 t) (va_up U 0 ta)) := by
            refine AJ.callP kX7_drawn ct bX6_toldPerson rfl (by decide +kernel) [3, 4, 5, 6, 7, 8, 9, 10, 11, 12] [.ref 3] rfl rfl rfl rfl rfl rfl rfl (cls_wf rfl) rfl rfl ?_
            rintro r rfl
            exact AJ.run kX7_drawn [25, 48, 65, 131] 40 ⟨by decide, by decide, by decide, by decide, g111⟩
          rw [← ex1] at g95
          exact AJ.run kX7_drawn [71, 25, 48, 65, 131] 40 ⟨fun w => absurd w (nI_ge (by omega) (by omega)), fun _ => ⟨by decide, g95⟩⟩
      have lp := loop q 0 (T 0) (U 0) (by omega) (by rw [F0]; exact RT_s hT (fun _ _ => rfl) rfl rfl (fun _ _ => rfl))
      rw [X0] at lp
      refine AJ.run kX7_drawn [71, 25, 48, 65, 131] 40 ⟨fun _ => lp, fun w => absurd ?_ w⟩
      show T 0 12 + nI q ≤ nI 24
      rw [hsum]; exact nI_le c24 (by omega)
    · refine AJ.run kX7_drawn [71, 25, 48, 65, 131] 40 ⟨fun w => absurd w ?_, fun _ => c7_ret kX7_drawn rfl rfl (fin (-5) x xa D E T U (by
        rintro rm Ym h
        rw [hMQ, ck] at h
        rcases h with ⟨h, -⟩ | ⟨-, h, -⟩ | ⟨z', q', r1, r2, r3, r4, r5, r6, -, -, ⟨-, rfl, rfl⟩ | ⟨r9, -⟩⟩
        · cases h
        · rcases h with y | y
          · exact absurd y hn1
          · exact absurd y hn2
        · exact ⟨rfl, _, _, _, rfl, hCJ⟩
        · have := injq q' r4 r6
          omega))⟩
      show ¬ T 0 12 + nI q ≤ nI 24
      rw [hsum]; exact nI_ge (by omega) (by omega)
  · have ck2 : (inP zz 1 9999 && inP nn 1 24) = false := by simpa using ck
    have f2 := fin (-3) x xa D E T U (by
      rintro rm Ym h
      rw [hMQ] at h
      rcases h with ⟨-, rfl, rfl⟩ | ⟨h, -⟩ | ⟨z', q', r1, r2, r3, r4, r5, r6, -⟩
      · exact ⟨rfl, _, _, _, rfl, hCJ⟩
      · exact absurd h ck
      · apply absurd _ ck
        rw [r5, r6, Bool.and_eq_true]
        constructor
        · exact in_mid (fun y => by
            have y : nI z' < nI 1 := y
            rw [nI_ltI (by omega) (by omega)] at y; omega) (fun y => by
            have y : nI 9999 < nI z' := y
            rw [nI_ltI (by omega) (by omega)] at y; omega)
        · exact in_mid (fun y => by
            have y : nI q' < nI 1 := y
            rw [nI_ltI (by omega) (by omega)] at y; omega) (fun y => by
            have y : nI 24 < nI q' := y
            rw [nI_ltI (by omega) (by omega)] at y; omega))
    refine AJ.run kX7_drawn [26, 25, 48, 65, 131] 30 ⟨fun _ => c7_ret kX7_drawn rfl rfl f2, fun z1 => ⟨fun _ => c7_ret kX7_drawn rfl rfl f2, fun z2 => ⟨fun _ => c7_ret kX7_drawn rfl rfl f2, fun z3 => ⟨fun z4 => absurd ?_ ck, fun _ => c7_ret kX7_drawn rfl rfl f2⟩⟩⟩⟩
    rw [Bool.and_eq_true]
    exact ⟨in_mid z1 z2, in_mid z3 (le_nlt.mp z4)⟩
