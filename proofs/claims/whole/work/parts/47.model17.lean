/-! ===== the reference: layLaws, read, odds ===== -/
def fitP (s : xN) (a : Nat → xN) (m n t : Nat) : Bool := seenA (dq (lwS s (30 + t)) a m) (a 12) (hmP (dq (lwS s (30 + t)) a m)) n
def lawsOk (fit : Nat → Bool) (t : Nat) (s' : xN) (a' : Nat → xN) : Prop := s' 34 = nI (mnS fit t) ∧ s' 35 = fiS fit t ∧ ∀ k, k < 3 → a' 36 k = hkS fit k t
def keptE (s : xN) (a : Nat → xN) (s' : xN) (a' : Nat → xN) : Prop := (∀ i, i < 15 → s' i = s i) ∧ (∀ i, i ≠ 26 → i ≠ 27 → i ≠ 36 → a' i = a i) ∧ ∀ i, i < 573 → a' 26 i = a 26 i
theorem keptE.m {s s' : xN} {a a' : Nat → xN} (h : keptE s a s' a') (m : Nat) : keptM m s a s' a' := ⟨h.1, ⟨h.2.1 6 (by omega) (by omega) (by omega), h.2.1 8 (by omega) (by omega) (by omega), h.2.1 12 (by omega) (by omega) (by omega), h.2.1 14 (by omega) (by omega) (by omega), h.2.1 28 (by omega) (by omega) (by omega), h.2.1 29 (by omega) (by omega) (by omega)⟩, fun i _ => by rw [h.2.1 10 (by omega) (by omega) (by omega)], h.2.2⟩
theorem lwS_lo (s : xN) (c : Nat) {i : Nat} (hi : i < 15) : lwS s c i = s i := by
  unfold lwS
  rw [pk_un (by omega), pk_un (by omega)]
  exact toldP_lo s hi
theorem lwS_34 (s : xN) (c : Nat) : lwS s c 34 = s 34 ∧ lwS s c 35 = s 35 := ⟨rfl, rfl⟩
theorem c8_layLaws (L : xLn) (s : xN) (j : Int64) (a : Nat → xN) (m n : Nat) (hok : okT s a m) (hs : s 11 = nI n) (hn : n ≤ 8) : CT L mX8_layLaws 4 0 0 [.ref 0] (modW s j a) (fun r Y => r = none ∧ ∃ s' a', Y = modW s' j a' ∧ keptE s a s' a' ∧ lawsOk (fitP s a m n) 210 s' a') := by
  have hdq : ∀ (t : Nat) (s' : xN) (a' : Nat → xN), keptE s a s' a' → dq (lwS s' (30 + t)) a' m = dq (lwS s (30 + t)) a m := by
    intro t s' a' hK
    have e : eqT (lwS s (30 + t)) a (lwS s' (30 + t)) a' := by
      refine ⟨⟨?_, ?_, ?_, ?_, ?_, rfl, rfl⟩, hK.2.1 6 (by omega) (by omega) (by omega), hK.2.1 8 (by omega) (by omega) (by omega), hK.2.1 10 (by omega) (by omega) (by omega)⟩
      · exact hK.1 0 (by omega)
      · exact hK.1 3 (by omega)
      · exact hK.1 4 (by omega)
      · exact hK.1 5 (by omega)
      · exact hK.1 7 (by omega)
    exact dq_congr e m
  have hfit : ∀ (t : Nat) (s' : xN) (a' : Nat → xN) (N : xN), keptE s a s' a' → isDay (lwS s' (30 + t)) a' m N → seenA N (a' 12) (hmP N) n = fitP s a m n t := by
    intro t s' a' N hK hN
    obtain ⟨e1, e2, e3⟩ := isDay_hm hN
    have e4 : hmP N = hmP (dq (lwS s' (30 + t)) a' m) := by
      unfold hmP
      rw [e3 7 (by omega), e3 8 (by omega)]
    rw [e4, seenA_ag e3, hdq t s' a' hK, hK.2.1 12 (by omega) (by omega) (by omega)]
    rfl
  generalize fitP s a m n = fit at hfit ⊢
  refine CT.of rfl (Nat.le_of_ble_eq_true rfl) (Nat.le_of_ble_eq_true rfl) ?_
  have loop : ∀ (f t : Nat) (s' : xN) (a' : Nat → xN) (x2 : Option Value), t + f = 210 → keptE s a s' a' → lawsOk fit t s' a' → (x2 = none ∨ ∃ v, x2 = some (.int v)) → AJ L mX8_layLaws 4 0 0 (fun r Y => r = none ∧ ∃ s' a', Y = modW s' j a' ∧ keptE s a s' a' ∧ lawsOk fit 210 s' a') (modW s j a).length (0, 0) 33 [some (.ref 0), some (.int (nI (30 + t))), x2] [] (modW s' j a') := by
    intro f
    induction f with
    | zero =>
      intro t s' a' x2 ht hK hL hx
      obtain rfl : t = 210 := by omega
      exact AJ.run kX8_layLaws [33] 60 ⟨fun _ => ⟨rfl, s', a', rfl, hK, hL⟩, fun hz => absurd (by decide) hz⟩
    | succ f ih =>
      intro t s' a' x2 ht hK hL hx
      obtain ⟨l1, l2, l3⟩ := hL
      have hmn := mnS_le fit t
      refine c8_ll_one L _ s' j a' m n _ (30 + t) (mnS fit t) x2 hx (by omega) ⟨?_, by have := hok.2.1; omega, fun q hq => ?_⟩ ((hK.1 11 (by omega)).trans hs) hn l1 (by omega) (fun N x2' hN hx' => ?_)
      · show s' 9 = nI m
        rw [hK.1 9 (by omega)]; exact hok.1
      · rw [hK.2.1 10 (by omega) (by omega) (by omega)]; exact hok.2.2 q hq
      · have hft := hfit t s' a' N hK hN
        rw [hft]
        have hK2 : ∀ g : xN, keptE s a (lwS s' (30 + t)) (va_up (aftA a' N) 36 g) := by
          intro g
          refine ⟨fun i hi => (lwS_lo s' (30 + t) hi).trans (hK.1 i hi), fun i h1 h2 h3 => ?_, fun i hi => (put_back _ _ _ hi).trans (hK.2.2 i hi)⟩
          show va_up (va_up (va_up a' 27 _) 26 _) 36 _ i = a i
          unfold va_up
          rw [if_neg h3, if_neg h1, if_neg h2]
          exact hK.2.1 i h1 h2 h3
        have hK3 : keptE s a (lwS s' (30 + t)) (aftA a' N) := by
          refine ⟨fun i hi => (lwS_lo s' (30 + t) hi).trans (hK.1 i hi), fun i h1 h2 h3 => ?_, fun i hi => (put_back _ _ _ hi).trans (hK.2.2 i hi)⟩
          show va_up (va_up a' 27 _) 26 _ i = a i
          unfold va_up
          rw [if_neg h1, if_neg h2]
          exact hK.2.1 i h1 h2 h3
        by_cases hf : fit t = true
        · rw [if_pos hf]
          refine ih (t + 1) _ _ x2' (by omega) ⟨fun i hi => ?_, (hK2 _).2.1, (hK2 (a' 36)).2.2⟩ ⟨?_, ?_, fun k hk => ?_⟩ hx'
          · rw [pk_un (by omega), pk_un (by omega)]; exact (hK2 (a' 36)).1 i hi
          · show nI (mnS fit t + 1) = _
            rw [mnS, if_pos hf]
          · show (if mnS fit t = 0 then nI (30 + t) else s' 35) = _
            rw [fiS, if_pos hf, l2]
          · show hkA (30 + t) (a' 36) 3 k = _
            rw [hkA_at, if_pos hk, hkS, if_pos hf, l3 k hk]
        · rw [if_neg hf]
          refine ih (t + 1) _ _ x2' (by omega) hK3 ⟨?_, ?_, fun k hk => ?_⟩ hx'
          · show s' 34 = _
            rw [mnS, if_neg hf]; exact l1
          · show s' 35 = _
            rw [fiS, if_neg hf]; exact l2
          · show a' 36 k = _
            rw [hkS, if_neg hf]; exact l3 k hk
  have start := loop 210 0 (upd (upd s 34 0) 35 (-1)) (va_up a 36 (upd (upd (upd (a 36) 0 0) 1 0) 2 0)) none rfl ⟨fun i hi => by rw [pk_un (by omega), pk_un (by omega)], fun i h1 h2 h3 => by unfold va_up; rw [if_neg h3], fun _ _ => rfl⟩ ⟨rfl, rfl, fun k hk => ?_⟩ (Or.inl rfl)
  · refine AJ.run kX8_layLaws [12] 60 ?_
    refine AJ.run kX8_layLaws [12] 60 ⟨fun hz => absurd hz (by decide), fun _ => ⟨0, rfl, by omega, ?_⟩⟩
    refine AJ.run kX8_layLaws [12] 60 ⟨fun hz => absurd hz (by decide), fun _ => ⟨1, rfl, by omega, ?_⟩⟩
    refine AJ.run kX8_layLaws [12] 60 ⟨fun hz => absurd hz (by decide), fun _ => ⟨2, rfl, by omega, ?_⟩⟩
    exact AJ.run kX8_layLaws [33] 60 ⟨fun _ => start, fun hz => absurd (by decide) hz⟩
  · rcases (show k = 0 ∨ k = 1 ∨ k = 2 by omega) with rfl | rfl | rfl <;> rfl
def readP (fit : Nat → Bool) (w : Int32) : Int32 := if inP w 0 2 = true then (if w = 0 then nI (mnS fit 210) else if mnS fit 210 = 0 then -1 else if w = 1 then fiS fit 210 / 30 else (fiS fit 210 - fiS fit 210 / 30 * 30) + 1) else -3
theorem c8_read (L : xLn) (s : xN) (j : Int64) (a : Nat → xN) (m n : Nat) (hok : okT s a m) (hs : s 11 = nI n) (hn : n ≤ 8) (w : Int32) : CT L mX8_read 5 0 0 [.ref 0, .int w] (modW s j a) (fun r Y => r = some (.int (readP (fitP s a m n) w)) ∧ ∃ s' j' a', Y = modW s' j' a' ∧ keptM m s a s' a') := by
  have hLL := c8_layLaws L s j a m n hok hs hn
  have hle := mnS_le (fitP s a m n) 210
  generalize fitP s a m n = fit at hLL hle ⊢
  unfold readP
  unfold lawsOk at hLL
  generalize mnS fit 210 = mn at hLL hle ⊢
  generalize fiS fit 210 = fi at hLL ⊢
  refine CT.of rfl (Nat.le_of_ble_eq_true rfl) (Nat.le_of_ble_eq_true rfl) ?_
  refine AJ.run kX8_read [] 60 ?_
  refine AJ.callZ kX8_read (c8_in L w 0 2) bX8_in rfl (by decide +kernel) [] rfl rfl rfl rfl rfl ?_
  rintro r rfl
  refine AJ.run kX8_read [12] 60 ⟨fun h => ?_, fun h => ⟨by rw [if_neg (by rw [(bI_eq0 _).mp h]; simp)], s, j, a, rfl, keptM.rf m s a⟩⟩
  rw [if_pos ((bI_ne0 _).mp h)]
  refine AJ.run kX8_read [] 60 ?_
  refine AJ.callF kX8_read hLL bX8_layLaws rfl (by decide +kernel) [] rfl rfl rfl rfl rfl rfl rfl rfl ?_
  rintro r Y ⟨rfl, s', a', rfl, hK, l1, l2, -⟩
  have hz : s' 34 = 0 ↔ mn = 0 := by
    rw [l1]
    constructor
    · intro q
      rcases Nat.eq_zero_or_pos mn with z | z
      · exact z
      · exact absurd q (nI_ne0 z (by omega))
    · intro q; rw [q]; rfl
  refine ⟨rfl, rfl, AJ.run kX8_read [] 60 ⟨fun h1 => ⟨fun h2 => ⟨fun h3 => ⟨by decide, ?_, s', j, a', rfl, hK.m m⟩, fun h3 => ⟨by decide, ?_, s', j, a', rfl, hK.m m⟩⟩, fun h2 => ⟨?_, s', j, a', rfl, hK.m m⟩⟩, fun h1 => ⟨?_, s', j, a', rfl, hK.m m⟩⟩⟩
  · have h2 : ¬ s' 34 = 0 := h2
    rw [if_neg h1, if_neg (fun q => h2 (hz.mpr q)), if_neg h3, ← l2]
  · have h2 : ¬ s' 34 = 0 := h2
    rw [if_neg h1, if_neg (fun q => h2 (hz.mpr q)), if_pos h3, ← l2]
  · have h2 : s' 34 = 0 := h2
    rw [if_neg h1, if_pos (hz.mp h2)]
  · rw [if_pos h1, ← l1]
theorem gcL_pos : ∀ (f x y : Nat), y < f → (0 < x ∨ 0 < y) → 0 < gcL f x y
  | 0, _, _, h, _ => by omega
  | f + 1, x, y, h, hp => by
    rw [gcL]
    split
    · omega
    · next hy =>
      have : x % y < y := Nat.mod_lt _ (by omega)
      exact gcL_pos f y (x % y) (by omega) (Or.inl (by omega))
theorem gcL_le : ∀ (f x y b : Nat), x ≤ b → y ≤ b → gcL f x y ≤ b
  | 0, _, _, _, h, _ => h
  | f + 1, x, y, b, hx, hy => by
    rw [gcL]
    split
    · exact hx
    · next h =>
      have : x % y < y := Nat.mod_lt _ (by omega)
      exact gcL_le f y (x % y) b hy (by omega)
def hkN (fit : Nat → Bool) (k : Nat) : Nat → Nat
  | 0 => 0
  | t + 1 => if fit t = true then hkN fit k t + (30 + t) / 30 / 2 ^ k % 2 else hkN fit k t
theorem bit_nI : ∀ q, q < 8 → ∀ k, k < 3 → (nI q >>> (nI k &&& 31) &&& 1) = nI (q / 2 ^ k % 2) := by decide
theorem hkN_le (fit : Nat → Bool) (k : Nat) : ∀ t, hkN fit k t ≤ mnS fit t
  | 0 => Nat.le_refl _
  | t + 1 => by
    have := hkN_le fit k t
    rw [hkN, mnS]
    split
    · have : (30 + t) / 30 / 2 ^ k % 2 < 2 := Nat.mod_lt _ (by omega)
      omega
    · exact this
theorem hkS_nI (fit : Nat → Bool) {k : Nat} (hk : k < 3) : ∀ t, t ≤ 210 → hkS fit k t = nI (hkN fit k t)
  | 0, _ => rfl
  | t + 1, ht => by
    rw [hkS, hkN]
    split
    · rw [hkS_nI fit hk t (by omega), bit_nI _ (by omega) k hk, nI_add]
    · exact hkS_nI fit hk t (by omega)
def oddsP (fit : Nat → Bool) (k w : Int32) : Int32 := if (inP k 0 2 && inP w 0 1) = true then (if mnS fit 210 = 0 then -4 else nI ((if w = 0 then hkN fit k.toNatClampNeg 210 else mnS fit 210) / gcL (mnS fit 210 + 1) (hkN fit k.toNatClampNeg 210) (mnS fit 210))) else -3
theorem c8_odds (L : xLn) (s : xN) (j : Int64) (a : Nat → xN) (m n : Nat) (hok : okT s a m) (hs : s 11 = nI n) (hn : n ≤ 8) (k w : Int32) : CT L mX8_odds 5 0 0 [.ref 0, .int k, .int w] (modW s j a) (fun r Y => r = some (.int (oddsP (fitP s a m n) k w)) ∧ ∃ s' j' a', Y = modW s' j' a' ∧ keptM m s a s' a') := by
  have hLL := c8_layLaws L s j a m n hok hs hn
  have hle := mnS_le (fitP s a m n) 210
  have hhk := fun k hk => hkS_nI (fitP s a m n) (k := k) hk 210 (by omega)
  have hhl := fun k => hkN_le (fitP s a m n) k 210
  generalize fitP s a m n = fit at hLL hle hhk hhl ⊢
  unfold oddsP
  unfold lawsOk at hLL
  generalize mnS fit 210 = mn at hLL hle hhl ⊢
  obtain ⟨hN, ehN⟩ : ∃ hN : Nat → Nat, hN = fun k => hkN fit k 210 := ⟨_, rfl⟩
  have ehN' : ∀ k, hkN fit k 210 = hN k := fun k => by rw [ehN]
  simp only [ehN'] at hhk hhl ⊢
  generalize fiS fit 210 = fi at hLL
  obtain ⟨hS, ehS⟩ : ∃ hS : Nat → Int32, hS = fun k => hkS fit k 210 := ⟨_, rfl⟩
  have ehS' : ∀ k, hkS fit k 210 = hS k := fun k => by rw [ehS]
  simp only [ehS'] at hhk hLL
  clear ehN ehN' ehS ehS'
  refine CT.of rfl (Nat.le_of_ble_eq_true rfl) (Nat.le_of_ble_eq_true rfl) ?_
  refine AJ.run kX8_odds [] 60 ?_
  refine AJ.callZ kX8_odds (c8_in L k 0 2) bX8_in rfl (by decide +kernel) [] rfl rfl rfl rfl rfl ?_
  rintro r rfl
  refine AJ.run kX8_odds [21] 60 ⟨fun h => ⟨by rw [if_neg (by rw [(bI_eq0 _).mp h]; simp)], s, j, a, rfl, keptM.rf m s a⟩, fun h => ?_⟩
  have h1 := (bI_ne0 _).mp h
  refine AJ.callZ kX8_odds (c8_in L w 0 1) bX8_in rfl (by decide +kernel) [] rfl rfl rfl rfl rfl ?_
  rintro r rfl
  refine AJ.run kX8_odds [21] 60 ⟨fun h => ?_, fun h => ⟨by rw [if_neg (by rw [(bI_eq0 _).mp h]; simp)], s, j, a, rfl, keptM.rf m s a⟩⟩
  have h2 := (bI_ne0 _).mp h
  rw [if_pos (by rw [h1, h2]; rfl)]
  obtain ⟨p, hp, rfl⟩ := inP_nI (n := 2) (by omega) h1
  rw [nI_clamp (by omega)]
  refine AJ.run kX8_odds [] 60 ?_
  refine AJ.callF kX8_odds hLL bX8_layLaws rfl (by decide +kernel) [] rfl rfl rfl rfl rfl rfl rfl rfl ?_
  rintro r Y ⟨rfl, s', a', rfl, hK, l1, -, l3⟩
  have e36 : a' 36 p = nI (hN p) := by rw [l3 p (by omega), hhk p (by omega)]
  have hp2 := hhl p
  refine ⟨rfl, rfl, AJ.run kX8_odds [52] 60 ⟨fun h3 => ?_, fun h3 => ⟨?_, s', j, a', rfl, hK.m m⟩⟩⟩
  · have h3 : ¬ s' 34 = 0 := h3
    have hmn : mn ≠ 0 := fun q => h3 (by rw [l1, q]; rfl)
    rw [if_neg hmn]
    have g1 := gcL_pos (mn + 1) (hN p) mn (by omega) (by omega)
    have g2 := gcL_le (mn + 1) (hN p) mn mn hp2 (Nat.le_refl _)
    have at52 : ∀ v : Nat, v ≤ 210 → v = (if w = 0 then hN p else mn) → AJ L mX8_odds 5 0 0 (fun r Y => r = some (.int (nI ((if w = 0 then hN p else mn) / gcL (mn + 1) (hN p) mn))) ∧ ∃ s' j' a', Y = modW s' j' a' ∧ keptM m s a s' a') (modW s j a).length (0, 0) 52 [some (.ref 0), some (.int (nI p)), some (.int w)] [.int (nI v)] (modW s' j a') := by
      intro v hv hvv
      rw [← hvv]
      refine AJ.run kX8_odds [] 60 ⟨p, rfl, by omega, ?_⟩
      have hC := c8_divisor L (hN p) mn (by omega) (by omega)
      rw [← e36, ← l1] at hC
      refine AJ.callZ kX8_odds hC bX8_divisor rfl (by decide +kernel) [.int (nI v)] rfl rfl rfl rfl rfl ?_
      rintro r rfl
      generalize gcL (mn + 1) (hN p) mn = g at g1 g2
      refine AJ.run kX8_odds [] 60 ⟨nI_ne0 g1 (by omega), ?_, s', j, a', rfl, hK.m m⟩
      rw [pk_div (by omega) g1 (by omega)]
    refine ⟨fun h4 => ?_, fun h4 => ⟨p, rfl, by omega, ?_⟩⟩
    · have := at52 mn (by omega) (by rw [if_neg h4])
      rw [← l1] at this
      exact this
    · have := at52 (hN p) (by omega) (by rw [if_pos h4])
      rw [← e36] at this
      exact this
  · have h3 : s' 34 = 0 := h3
    rw [l1] at h3
    rw [if_pos]
    rcases Nat.eq_zero_or_pos mn with z | z
    · exact z
    · exact absurd h3 (nI_ne0 z (by omega))

