/-! ===== the class: laws read back ===== -/
/-- ReadBack: itself, places, minutes, laws with each kind, its day (from 4), what is told (from 17) -/
def rbW (sz kn la fk fs : Int32) (pl mi lw d : xN) (da : Nat → xN) (t : xN) (ta : Nat → xN) : List xE := [.inr (.inr (3, [.ref 4, .ref 1, .ref 2, .int sz, .int kn, .int la, .int fk, .int fs, .ref 3])), .inl (0, 8, pl), .inl (0, 8, mi), .inl (0, 3, lw)] ++ (dayW 4 17 d da ++ tolW 17 t ta)
theorem cB_add (L : xLn) (c : Nat) (hc : c < 8) (p w : Int32) (kn la fk fs : Int32) (pl mi lw d : xN) (da : Nat → xN) (t : xN) (ta : Nat → xN) : CT L mX3_add 0 0 0 [.ref 0, .int p, .int w] (rbW (nI c) kn la fk fs pl mi lw d da t ta) (eqQ none (rbW (nI c + 1) 0 la fk fs (upd pl c p) (upd mi c w) lw d da t ta)) := by
  refine CT.of rfl (Nat.le_of_ble_eq_true rfl) (Nat.le_of_ble_eq_true rfl) ?_
  exact AJ.run kX3_add [] 60 ⟨fun h => absurd h (nI_ge (b := 8) (by omega) (by omega)), fun _ => ⟨c, rfl, by omega, c, rfl, by omega, Or.inl rfl, rfl, rfl⟩⟩
theorem cB_clear (L : xLn) (sz kn la fk fs : Int32) (pl mi lw d : xN) (da : Nat → xN) (t : xN) (ta : Nat → xN) : CT L mX3_clear 0 0 0 [.ref 0] (rbW sz kn la fk fs pl mi lw d da t ta) (eqQ none (rbW 0 0 la fk fs pl mi lw d da t ta)) := by
  refine CT.of rfl (Nat.le_of_ble_eq_true rfl) (Nat.le_of_ble_eq_true rfl) ?_
  exact AJ.run kX3_clear [] 60 ⟨Or.inl rfl, rfl, rfl⟩
/-- one more than the last minute that was seen -/
def lsN (mt : Nat → Nat) : Nat → Nat
  | 0 => 0
  | i + 1 => if lsN mt i < mt i + 1 then mt i + 1 else lsN mt i
theorem lsN_le {mt : Nat → Nat} {b : Nat} : ∀ n, (∀ i, i < n → mt i < b) → lsN mt n ≤ b
  | 0, _ => Nat.zero_le _
  | n + 1, h => by
    have := lsN_le n (fun i hi => h i (by omega))
    have := h n (by omega)
    rw [lsN]
    split <;> omega
theorem lsN_gt {mt : Nat → Nat} : ∀ n i, i < n → mt i < lsN mt n
  | 0, i, h => by omega
  | n + 1, i, h => by
    rw [lsN]
    by_cases e : i = n
    · subst e; split <;> omega
    · have := lsN_gt (mt := mt) n i (by omega)
      split <;> omega
theorem m1_toInt {e : Nat} (h : e < 1000) : (nI e + (-1)).toInt = (e : Int) - 1 := by
  cases e with
  | zero => rfl
  | succ e =>
    rw [pk_m1, nI_toInt (by omega)]
    omega
theorem max_m1 {e u : Nat} (he : e < 1000) (hu : u < 1000) : (if nI e + (-1) < nI u then nI u else nI e + (-1)) = nI (if e < u + 1 then u + 1 else e) + (-1) := by
  have h : (nI e + (-1) < nI u) ↔ e < u + 1 := by
    rw [i32_lt, m1_toInt he, nI_toInt (by omega)]
    omega
  by_cases c : e < u + 1
  · rw [if_pos (h.mpr c), if_pos c, pk_m1]
  · rw [if_neg (fun z => c (h.mp z)), if_neg c]
theorem cB_lastSeen (L : xLn) (c : Nat) (hc : c ≤ 8) (kn la fk fs : Int32) (pl mi lw d : xN) (da : Nat → xN) (t : xN) (ta : Nat → xN) (mt : Nat → Nat) (hmt : ∀ i, i < c → mi i = nI (mt i) ∧ mt i < 60) : CT L mX3_lastSeen 1 0 0 [.ref 0] (rbW (nI c) kn la fk fs pl mi lw d da t ta) (inQ (nI (lsN mt c) + (-1)) (rbW (nI c) kn la fk fs pl mi lw d da t ta)) := by
  obtain ⟨G, hG⟩ : ∃ G : Nat → Nat, G = fun i => lsN mt i := ⟨_, rfl⟩
  have G0 : G 0 = 0 := by rw [hG]; rfl
  have Gs : ∀ i, G (i + 1) = if G i < mt i + 1 then mt i + 1 else G i := by intro i; rw [hG]; rfl
  have Gb : ∀ i, i ≤ c → G i ≤ 60 := by intro i hi; rw [hG]; exact lsN_le i (fun j hj => (hmt j (by omega)).2)
  rw [show lsN mt c = G c by rw [hG]]
  clear hG
  refine CT.of rfl (Nat.le_of_ble_eq_true rfl) (Nat.le_of_ble_eq_true rfl) ?_
  have loop : ∀ (n i : Nat), i + n = c → AJ L mX3_lastSeen 1 0 0 (inQ (nI (G c) + (-1)) (rbW (nI c) kn la fk fs pl mi lw d da t ta)) (rbW (nI c) kn la fk fs pl mi lw d da t ta).length (0, 0) 4 [some (.ref 0), some (.int (nI (G i) + (-1))), some (.int (nI i))] [] (rbW (nI c) kn la fk fs pl mi lw d da t ta) := by
    intro n
    induction n with
    | zero =>
      intro i hi
      obtain rfl : i = c := by omega
      exact AJ.run kX3_lastSeen [4] 30 ⟨fun _ => ⟨rfl, rfl⟩, fun hz => absurd (nI_le (Nat.le_refl _) (by omega)) hz⟩
    | succ n ih =>
      intro i hi
      have nxt := ih (i + 1) (by omega)
      obtain ⟨m1, m2⟩ := hmt i (by omega)
      have := Gb i (by omega)
      rw [nI_succ, Gs i, ← max_m1 (by omega) (by omega), ← m1] at nxt
      exact AJ.run kX3_lastSeen [4] 30 ⟨fun hz => absurd hz (nI_ge (by omega) (by omega)), fun _ => ⟨i, rfl, by omega, nxt⟩⟩
  have := loop c 0 (by omega)
  rw [G0] at this
  exact AJ.run kX3_lastSeen [4] 30 this
theorem seenA_all (N sn : xN) (h : Nat) : ∀ c, seenA N sn h c = allB (fun k => seenO N sn k h) c
  | 0 => rfl
  | c + 1 => by rw [seenA, allB, seenA_all N sn h c]
theorem allB_cg {P P' : Nat → Bool} : ∀ n, (∀ i, i < n → P i = P' i) → allB P n = allB P' n
  | 0, _ => rfl
  | n + 1, h => by rw [allB, allB, allB_cg n (fun i hi => h i (by omega)), h n (by omega)]
def ftQ (b : Bool) (sz kn la fk fs : Int32) (pl mi lw : xN) (t : xN) (ta : Nat → xN) : Option Value → List xE → Prop := fun r Y => r = some (.int (bI b)) ∧ ∃ d da, Y = rbW sz kn la fk fs pl mi lw d da t ta
/-- do the first k hold -/
theorem cB_ft_loop (L : xLn) (Q : Option Value → List xE → Prop) (n0 c h : Nat) (hc : c ≤ 8) (hh : h ≤ 26) (kn la fk fs : Int32) (pl mi lw d : xN) (da : Nat → xN) (t : xN) (ta : Nat → xN) (kd sp e : Int32) (hz : d 20 = nI h) (B : Nat → Bool) (hB : ∀ k, k < c → anyB (fun i => decide (da 21 i = pl k) && decide (da 22 i = mi k)) h = B k)
    (f0 : ∀ k, k < c → B k = false → Q (some (.int 0)) (rbW (nI c) kn la fk fs pl mi lw d da t ta)) (f1 : (∀ k, k < c → B k = true) → Q (some (.int 1)) (rbW (nI c) kn la fk fs pl mi lw d da t ta)) :
    ∀ (n i : Nat), i + n = c → (∀ k, k < i → B k = true) → AJ L mX3_fits 5 0 0 Q n0 (0, 0) 20 [some (.ref 0), some (.int kd), some (.int sp), some (.int e), some (.int (nI i))] [] (rbW (nI c) kn la fk fs pl mi lw d da t ta) := by
  intro n
  induction n with
  | zero =>
    intro i hi hx
    obtain rfl : i = c := by omega
    exact AJ.run kX3_fits [20] 30 ⟨fun _ => ⟨Or.inr rfl, f1 hx⟩, fun z => absurd (nI_le (Nat.le_refl _) (by omega)) z⟩
  | succ n ih =>
    intro i hi hx
    have nxt := ih (i + 1) (by omega)
    rw [nI_succ] at nxt
    have cc := cH_has L (d 20) (da 20) (da 21) (da 22) (da 23) h hz hh (pl i) (mi i)
    rw [hB i (by omega)] at cc
    refine AJ.run kX3_fits [20] 30 ⟨fun z => absurd z (nI_ge (by omega) (by omega)), fun _ => ⟨i, rfl, by omega, i, rfl, by omega, ?_⟩⟩
    refine AJ.callP kX3_fits cc bX2_has rfl (by decide +kernel) [12, 13, 14, 15, 16] [] rfl rfl rfl rfl rfl rfl rfl rfl rfl rfl ?_
    rintro r rfl
    refine AJ.run kX3_fits [20] 30 ⟨fun z => nxt (fun k hk => ?_), fun z => ⟨Or.inl rfl, f0 i (by omega) ((bI_eq0 _).mp z)⟩⟩
    by_cases e1 : k = i
    · subst e1; exact (bI_ne0 _).mp z
    · exact hx k (by omega)
set_option maxHeartbeats 1000000 in
theorem cB_fits (L : xLn) (c l m sp e v : Nat) (hc : c ≤ 8) (kn la fk fs : Int32) (pl mi lw d : xN) (da : Nat → xN) (t : xN) (ta : Nat → xN) (s : xN) (a : Nat → xN) (sn : xN) (mt : Nat → Nat) (hW : WD l m sp s a) (hT : RT m t ta s a) (h30 : s 30 = nI v) (he : e ≤ 60) (hsn : ∀ i, i < c → pl i = sn (2 * i) ∧ mi i = sn (2 * i + 1) ∧ sn (2 * i + 1) = nI (mt i) ∧ mt i < e) : CT L mX3_fits 5 0 0 [.ref 0, .int (nI v), .int (nI sp), .int (nI e)] (rbW (nI c) kn la fk fs pl mi lw d da t ta) (ftQ (seenA (dq s a m) sn (hmP (dq s a m)) c) (nI c) kn la fk fs pl mi lw t ta) := by
  have hm := hW.2.1
  have hI0 := ID_begin hW (fun _ => 0)
  obtain ⟨N, hN⟩ : ∃ N, N = goL s a m (beginP (a 6) (a 8) (fun _ => 0)) e := ⟨_, rfl⟩
  have hIe := ID_goL hW hI0 e (by omega)
  have hG := GO_goL hW hI0 (j := e) (60 - e) (by omega)
  rw [show e + (60 - e) = 60 by omega, Nat.zero_add] at hG
  rw [Nat.zero_add, ← hN] at hIe
  have hG : GO e N (dq s a m) := by rw [hN]; exact hG
  obtain ⟨h, h1, h2⟩ := hIe.2.2.2.b hm
  have hb : seenA (dq s a m) sn (hmP (dq s a m)) c = allB (fun k => seenO N sn k (hmP N)) c := by
    rw [seenA_all]
    exact allB_cg c (fun k hk => seenO_GO hG (hsn k hk).2.2.1 (hsn k hk).2.2.2 (by have := (hsn k hk).2.2.2; omega))
  rw [hb]
  obtain ⟨b, hbb⟩ : ∃ b, b = allB (fun k => seenO N sn k (hmP N)) c := ⟨_, rfl⟩
  rw [← hbb]
  clear hb hG
  obtain ⟨Q, hQ⟩ : ∃ Q, Q = ftQ b (nI c) kn la fk fs pl mi lw t ta := ⟨_, rfl⟩
  have fin : ∀ v d da, v = b → Q (some (.int (bI v))) (rbW (nI c) kn la fk fs pl mi lw d da t ta) := by rintro v d da rfl; rw [hQ]; exact ⟨rfl, d, da, rfl⟩
  rw [← hQ]
  clear hQ
  refine CT.of rfl (Nat.le_of_ble_eq_true rfl) (Nat.le_of_ble_eq_true rfl) ?_
  refine AJ.run kX3_fits [] 30 ?_
  refine AJ.callX kX3_fits (cD_begin L d da t ta m sp s a (nI v) (nI sp) hm hT h30 hW.2.2.2.1.2.2) bX0_begin rfl (by decide +kernel) [4, 5, 6, 7, 8, 9, 10, 11, 12, 13, 14, 15, 16, 17, 18, 19, 20, 21, 22, 23, 24, 25, 26] [] rfl rfl rfl rfl rfl rfl rfl rfl rfl rfl ?_
  rintro r Y ⟨rfl, d1, da1, hR1, rfl⟩
  refine ⟨rbW (nI c) kn la fk fs pl mi lw d1 da1 t ta, rfl, rfl, ?_⟩
  have hR := hR1 (fun _ => 0)
  have cr := cD_runTo L d1 da1 t ta l m sp 0 e s a _ hW hT (by omega) he hI0 hR
  rw [Nat.sub_zero, ← hN] at cr
  clear hR hR1
  refine AJ.run kX3_fits [] 30 ?_
  refine AJ.callX kX3_fits cr bX0_runTo rfl (by decide +kernel) [4, 5, 6, 7, 8, 9, 10, 11, 12, 13, 14, 15, 16, 17, 18, 19, 20, 21, 22, 23, 24, 25, 26] [] rfl rfl rfl rfl rfl rfl rfl rfl rfl rfl ?_
  rintro r Y ⟨rfl, d2, da2, hR2, rfl⟩
  refine ⟨rbW (nI c) kn la fk fs pl mi lw d2 da2 t ta, rfl, rfl, ?_⟩
  obtain ⟨-, -, -, -, hH⟩ := hR2
  have ehm := hm_nI h1 (by omega)
  have lp := cB_ft_loop L Q (rbW (nI c) kn la fk fs pl mi lw d da t ta).length c h hc h2 kn la fk fs pl mi lw d2 da2 t ta (nI v) (nI sp) (nI e) (hH.1.trans h1) (fun k => seenO N sn k (hmP N)) (fun k hk => by
    rw [seenO_any, ehm]
    refine anyB_congr h (fun i hi => ?_)
    obtain ⟨r1, r2, r3, r4⟩ := hH.2 i (by rw [ehm]; exact hi)
    rw [r2, r3, (hsn k hk).1, (hsn k hk).2.1]) (fun k hk z => fin false _ _ (by rw [hbb, allB_f hk z])) (fun z => fin true _ _ (by rw [hbb, allB_iff.mpr z])) c 0 (by omega) (fun k hk => by omega)
  exact AJ.run kX3_fits [20] 30 lp
theorem cB_addLaw (L : xLn) (mn : Nat) (hmn : mn ≤ 210) (v w : Int32) (sz kn fk fs : Int32) (pl mi lw d : xN) (da : Nat → xN) (t : xN) (ta : Nat → xN) : CT L mX3_addLaw 0 0 0 [.ref 0, .int v, .int w] (rbW sz kn (nI mn) fk fs pl mi lw d da t ta) (fun r Y => r = none ∧ ∃ lw', (∀ k, k < 3 → lw' k = lw k + (v >>> (nI k &&& 31) &&& 1)) ∧ Y = rbW sz kn (nI (mn + 1)) (if mn = 0 then v else fk) (if mn = 0 then w else fs) pl mi lw' d da t ta) := by
  obtain ⟨fk', hfk⟩ : ∃ x, x = if mn = 0 then v else fk := ⟨_, rfl⟩
  obtain ⟨fs', hfs⟩ : ∃ x, x = if mn = 0 then w else fs := ⟨_, rfl⟩
  rw [← hfk, ← hfs]
  obtain ⟨Q, hQ⟩ : ∃ Q : Option Value → List xE → Prop, Q = (fun r Y => r = none ∧ ∃ lw', (∀ k, k < 3 → lw' k = lw k + (v >>> (nI k &&& 31) &&& 1)) ∧ Y = rbW sz kn (nI (mn + 1)) fk' fs' pl mi lw' d da t ta) := ⟨_, rfl⟩
  have fin : ∀ lw', (∀ k, k < 3 → lw' k = lw k + (v >>> (nI k &&& 31) &&& 1)) → Q none (rbW sz kn (nI mn + 1) fk' fs' pl mi lw' d da t ta) := fun lw' h => by rw [hQ, nI_1]; exact ⟨rfl, lw', h, rfl⟩
  rw [← hQ]
  clear hQ
  refine CT.of rfl (Nat.le_of_ble_eq_true rfl) (Nat.le_of_ble_eq_true rfl) ?_
  have g17 : AJ L mX3_addLaw 0 0 0 Q (rbW sz kn (nI mn) fk fs pl mi lw d da t ta).length (0, 0) 17 [some (.ref 0), some (.int v), some (.int w), none] [] (rbW sz kn (nI mn) fk' fs' pl mi lw d da t ta) := by
    refine AJ.run kX3_addLaw [] 120 ⟨fun z => absurd z (by decide), fun _ => ⟨0, rfl, by omega, 0, rfl, by omega, fun z => absurd z (by decide), fun _ => ⟨1, rfl, by omega, 1, rfl, by omega, fun z => absurd z (by decide), fun _ => ⟨2, rfl, by omega, 2, rfl, by omega, fun _ => fin _ (fun k hk => ?_), fun z => absurd (by decide) z⟩⟩⟩⟩
    rcases (show k = 0 ∨ k = 1 ∨ k = 2 by omega) with rfl | rfl | rfl <;> rfl
  refine AJ.run kX3_addLaw [17] 60 ⟨fun z => ?_, fun z => ?_⟩
  · rw [if_neg (fun y => z (by rw [y]; rfl))] at hfk hfs
    rw [hfk, hfs] at g17
    exact g17
  · have y : mn = 0 := by
      have z : nI mn = nI 0 := z
      exact (nI_eq (by omega) (by omega)).mp z
    rw [if_pos y] at hfk hfs
    rw [hfk, hfs] at g17
    exact g17
/-- the first law's kinds and span -/
def fkS (fit : Nat → Bool) : Nat → Int32
  | 0 => -1
  | t + 1 => if fit t = true then (if mnS fit t = 0 then nI ((30 + t) / 30) else fkS fit t) else fkS fit t
def fsS (fit : Nat → Bool) : Nat → Int32
  | 0 => -1
  | t + 1 => if fit t = true then (if mnS fit t = 0 then nI ((30 + t) % 30 + 1) else fsS fit t) else fsS fit t
theorem fk_fi (fit : Nat → Bool) : ∀ t, t ≤ 210 → (mnS fit t = 0 → fkS fit t = -1 ∧ fsS fit t = -1) ∧ (¬ mnS fit t = 0 → fkS fit t = fiS fit t / 30 ∧ fsS fit t = (fiS fit t - fiS fit t / 30 * 30) + 1)
  | 0, _ => ⟨fun _ => ⟨rfl, rfl⟩, fun h => absurd rfl h⟩
  | t + 1, ht => by
    have ih := fk_fi fit t (by omega)
    rw [mnS, fkS, fsS, fiS]
    by_cases hf : fit t = true
    · rw [if_pos hf, if_pos hf, if_pos hf, if_pos hf]
      refine ⟨fun z => by omega, fun _ => ?_⟩
      by_cases h0 : mnS fit t = 0
      · rw [if_pos h0, if_pos h0, if_pos h0, show (30 : Int32) = nI 30 from rfl, pk_rem (by omega) (by omega) (by omega), pk_div (by omega) (by omega) (by omega), nI_1]
        exact ⟨rfl, rfl⟩
      · rw [if_neg h0, if_neg h0, if_neg h0]
        exact ih.2 h0
    · rw [if_neg hf, if_neg hf, if_neg hf, if_neg hf]
      exact ih
/-- what findLaws leaves behind t laws -/
def flI (fit : Nat → Bool) (sz : Int32) (pl mi : xN) (t : xN) (ta : Nat → xN) (x : Nat) (Y : List xE) : Prop := ∃ lw d da, (∀ k, k < 3 → lw k = hkS fit k x) ∧ Y = rbW sz 1 (nI (mnS fit x)) (fkS fit x) (fsS fit x) pl mi lw d da t ta
theorem WT.w {l m sp v : Nat} {s s' : xN} {a : Nat → xN} (h : WT l m s a) (hs : ∀ i, i < 8 → s' i = s i) (h30 : s' 30 = nI v) (hv : v < 8) (h31 : s' 31 = nI sp) (h1 : 1 ≤ sp) (h2 : sp ≤ 30) : WD l m sp s' a := by
  obtain ⟨g1, g2, ⟨-, -, g3, -⟩, g4, g5, g6, g7, g8⟩ := h
  unfold WD
  rw [hs 0 (by omega), hs 3 (by omega), hs 5 (by omega), hs 7 (by omega)]
  exact ⟨g1, by omega, ⟨v, hv, h30⟩, ⟨h1, h2, h31⟩, g3, g4, g5, g6, g7, g8⟩
set_option maxHeartbeats 1000000 in
theorem cB_findLaws (L : xLn) (c l m : Nat) (hc : c ≤ 8) (la fk fs : Int32) (pl mi lw d : xN) (da : Nat → xN) (t : xN) (ta : Nat → xN) (s : xN) (a : Nat → xN) (mt : Nat → Nat) (hW : WT l m s a) (hT : RT m t ta s a) (hsn : ∀ i, i < c → pl i = a 12 (2 * i) ∧ mi i = a 12 (2 * i + 1) ∧ a 12 (2 * i + 1) = nI (mt i) ∧ mt i < 60) : CT L mX3_findLaws 6 0 0 [.ref 0] (rbW (nI c) 0 la fk fs pl mi lw d da t ta) (fun r Y => r = none ∧ flI (fitP s a m c) (nI c) pl mi t ta 210 Y) := by
  have cfit : ∀ (x v sp : Nat), x < 210 → 30 + x = 30 * v + (sp - 1) → 1 ≤ sp → sp ≤ 30 → ∀ (kn la fk fs : Int32) (lw d : xN) (da : Nat → xN), CT L mX3_fits 5 0 0 [.ref 0, .int (nI v), .int (nI sp), .int (nI (lsN mt c))] (rbW (nI c) kn la fk fs pl mi lw d da t ta) (ftQ (fitP s a m c x) (nI c) kn la fk fs pl mi lw t ta) := by
    intro x v sp hx hxv h1 h2 kn la fk fs lw d da
    have hv : (30 + x) / 30 = v := by omega
    have hsp : (30 + x) % 30 + 1 = sp := by omega
    have hs : ∀ i, i < 8 → lwS s (30 + x) i = s i := fun i hi => lwS_lo s (30 + x) (by omega)
    have h30 : lwS s (30 + x) 30 = nI v := by rw [← hv]; rfl
    have h31 : lwS s (30 + x) 31 = nI sp := by rw [← hsp]; rfl
    exact cB_fits L c l m sp (lsN mt c) v hc kn la fk fs pl mi lw d da t ta (lwS s (30 + x)) a (a 12) mt (hW.w hs h30 (by omega) h31 h1 h2) (RT_s hT hs rfl rfl (fun _ _ => rfl)) h30 (lsN_le c (fun i hi => (hsn i hi).2.2.2)) (fun i hi => ⟨(hsn i hi).1, (hsn i hi).2.1, (hsn i hi).2.2.1, lsN_gt c i hi⟩)
  have cls := cB_lastSeen L c hc 1 0 (-1) (-1) pl mi
  have he60 : lsN mt c ≤ 60 := lsN_le c (fun i hi => (hsn i hi).2.2.2)
  obtain ⟨fit, hfit⟩ : ∃ fit, fit = fitP s a m c := ⟨_, rfl⟩
  rw [← hfit] at cfit ⊢
  clear hfit
  obtain ⟨e, hee⟩ : ∃ e, e = lsN mt c := ⟨_, rfl⟩
  obtain ⟨Mn, hMn⟩ : ∃ Mn : Nat → Nat, Mn = fun x => mnS fit x := ⟨_, rfl⟩
  obtain ⟨Fk, hFk⟩ : ∃ Fk : Nat → Int32, Fk = fun x => fkS fit x := ⟨_, rfl⟩
  obtain ⟨Fs, hFs⟩ : ∃ Fs : Nat → Int32, Fs = fun x => fsS fit x := ⟨_, rfl⟩
  obtain ⟨Hk, hHk⟩ : ∃ Hk : Nat → Nat → Int32, Hk = fun k x => hkS fit k x := ⟨_, rfl⟩
  have Mle : ∀ x, Mn x ≤ x := by intro x; rw [hMn]; exact mnS_le fit x
  have st1 : ∀ x, fit x = true → Mn (x + 1) = Mn x + 1 ∧ Fk (x + 1) = (if Mn x = 0 then nI ((30 + x) / 30) else Fk x) ∧ Fs (x + 1) = (if Mn x = 0 then nI ((30 + x) % 30 + 1) else Fs x) ∧ ∀ k, Hk k (x + 1) = Hk k x + (nI ((30 + x) / 30) >>> (nI k &&& 31) &&& 1) := by
    intro x hx
    rw [hMn, hFk, hFs, hHk]
    exact ⟨if_pos hx, if_pos hx, if_pos hx, fun k => if_pos hx⟩
  have st0 : ∀ x, fit x = false → Mn (x + 1) = Mn x ∧ Fk (x + 1) = Fk x ∧ Fs (x + 1) = Fs x ∧ ∀ k, Hk k (x + 1) = Hk k x := by
    intro x hx
    rw [hMn, hFk, hFs, hHk]
    exact ⟨if_neg (by simp [hx]), if_neg (by simp [hx]), if_neg (by simp [hx]), fun k => if_neg (by simp [hx])⟩
  have M0 : Mn 0 = 0 ∧ Fk 0 = -1 ∧ Fs 0 = -1 ∧ ∀ k, Hk k 0 = 0 := by rw [hMn, hFk, hFs, hHk]; exact ⟨rfl, rfl, rfl, fun _ => rfl⟩
  obtain ⟨Q, hQ⟩ : ∃ Q : Option Value → List xE → Prop, Q = (fun r Y => r = none ∧ flI fit (nI c) pl mi t ta 210 Y) := ⟨_, rfl⟩
  have fin : ∀ lw d da, (∀ k, k < 3 → lw k = Hk k 210) → Q none (rbW (nI c) 1 (nI (Mn 210)) (Fk 210) (Fs 210) pl mi lw d da t ta) := fun lw d da h => by
    rw [hQ, hMn, hFk, hFs]
    rw [hHk] at h
    exact ⟨rfl, lw, d, da, h, rfl⟩
  rw [← hQ]
  rw [← hee] at cfit he60
  clear hQ hMn hFk hFs hHk
  refine CT.of rfl (Nat.le_of_ble_eq_true rfl) (Nat.le_of_ble_eq_true rfl) ?_
  -- the spans of one set of kinds
  have inner : ∀ (n sp v x : Nat) (lw d : xN) (da : Nat → xN), sp + n = 31 → 1 ≤ sp → v < 8 → 30 + x = 30 * v + (sp - 1) → x + n ≤ 210 → (∀ k, k < 3 → lw k = Hk k x) → (∀ lw' d' da', (∀ k, k < 3 → lw' k = Hk k (x + n)) → AJ L mX3_findLaws 6 0 0 Q (rbW (nI c) 0 la fk fs pl mi lw d da t ta).length (0, 0) 81 [some (.ref 0), some (.int (nI e)), some (.int (nI v)), some (.int (nI 31))] [] (rbW (nI c) 1 (nI (Mn (x + n))) (Fk (x + n)) (Fs (x + n)) pl mi lw' d' da' t ta)) → AJ L mX3_findLaws 6 0 0 Q (rbW (nI c) 0 la fk fs pl mi lw d da t ta).length (0, 0) 53 [some (.ref 0), some (.int (nI e)), some (.int (nI v)), some (.int (nI sp))] [] (rbW (nI c) 1 (nI (Mn x)) (Fk x) (Fs x) pl mi lw d da t ta) := by
    intro n
    induction n with
    | zero =>
      intro sp v x lw d da hsp h1 hv hx hx2 hlw nxt
      obtain rfl : sp = 31 := by omega
      exact AJ.run kX3_findLaws [53, 81] 30 ⟨fun _ => nxt lw d da hlw, fun z => absurd (by decide) z⟩
    | succ n ih =>
      intro sp v x lw d da hsp h1 hv hx hx2 hlw nxt
      have nx2 := fun lw d da h => ih (sp + 1) v (x + 1) lw d da (by omega) (by omega) hv (by omega) (by omega) h
      rw [show x + 1 + n = x + (n + 1) by omega, nI_succ sp] at nx2
      refine AJ.run kX3_findLaws [53, 81] 30 ⟨fun z => absurd z ?_, fun _ => ?_⟩
      · show ¬ nI 30 < nI sp
        rw [nI_ltI (by omega) (by omega)]; omega
      refine AJ.callF kX3_findLaws (cfit x v sp (by omega) hx h1 (by omega) 1 (nI (Mn x)) (Fk x) (Fs x) lw d da) bX3_fits rfl (by decide +kernel) [] rfl rfl rfl rfl rfl rfl rfl rfl ?_
      rintro r Y ⟨rfl, d1, da1, rfl⟩
      refine ⟨rfl, rfl, ?_⟩
      refine AJ.run kX3_findLaws [53, 81] 30 ⟨fun z => ?_, fun z => ?_⟩
      · rw [bI_eq0] at z
        obtain ⟨e1, e2, e3, e4⟩ := st0 x z
        have n3 := nx2 lw d1 da1 (fun k hk => by rw [e4]; exact hlw k hk) nxt
        rw [e1, e2, e3] at n3
        exact n3
      · rw [bI_ne0] at z
        obtain ⟨e1, e2, e3, e4⟩ := st1 x z
        have hv2 : (30 + x) / 30 = v := by omega
        have hs2 : (30 + x) % 30 + 1 = sp := by omega
        rw [hv2] at e2
        rw [hs2] at e3
        have := Mle x
        refine AJ.callF kX3_findLaws (cB_addLaw L (Mn x) (by omega) (nI v) (nI sp) (nI c) 1 (Fk x) (Fs x) pl mi lw d1 da1 t ta) bX3_addLaw rfl (by decide +kernel) [] rfl rfl rfl rfl rfl rfl rfl rfl ?_
        rintro r Y ⟨rfl, lw2, hl2, rfl⟩
        refine ⟨rfl, rfl, ?_⟩
        have n3 := nx2 lw2 d1 da1 (fun k hk => by rw [e4, hl2 k hk, hlw k hk, hv2]) nxt
        rw [e1, e2, e3] at n3
        exact AJ.run kX3_findLaws [53] 30 n3
  have outer : ∀ (n v : Nat) (lw d : xN) (da : Nat → xN) (x3 : Option Value), v + n = 8 → 1 ≤ v → (∀ k, k < 3 → lw k = Hk k (30 * (v - 1))) → (x3 = none ∨ x3 = some (.int (nI 31))) → AJ L mX3_findLaws 6 0 0 Q (rbW (nI c) 0 la fk fs pl mi lw d da t ta).length (0, 0) 45 [some (.ref 0), some (.int (nI e)), some (.int (nI v)), x3] [] (rbW (nI c) 1 (nI (Mn (30 * (v - 1)))) (Fk (30 * (v - 1))) (Fs (30 * (v - 1))) pl mi lw d da t ta) := by
    intro n
    induction n with
    | zero =>
      intro v lw d da x3 hv h1 hlw hx3
      obtain rfl : v = 8 := by omega
      have := fin lw d da hlw
      rcases hx3 with rfl | rfl
      · exact AJ.run kX3_findLaws [45] 30 ⟨fun _ => this, fun z => absurd (by decide) z⟩
      · exact AJ.run kX3_findLaws [45] 30 ⟨fun _ => this, fun z => absurd (by decide) z⟩
    | succ n ih =>
      intro v lw d da x3 hv h1 hlw hx3
      have inn := inner 30 1 v (30 * (v - 1)) lw d da rfl (by omega) (by omega) (by omega) (by omega) hlw (fun lw' d' da' h => by
        have n2 := ih (v + 1) lw' d' da' (some (.int (nI 31))) (by omega) (by omega) (by rw [show 30 * (v + 1 - 1) = 30 * (v - 1) + 30 by omega]; exact h) (Or.inr rfl)
        rw [show 30 * (v + 1 - 1) = 30 * (v - 1) + 30 by omega, nI_succ v] at n2
        exact AJ.run kX3_findLaws [45] 30 n2)
      have hg : ¬ nI 7 < nI v := by rw [nI_ltI (by omega) (by omega)]; omega
      rcases hx3 with rfl | rfl
      · exact AJ.run kX3_findLaws [45, 53] 30 ⟨fun z => absurd z hg, fun _ => inn⟩
      · exact AJ.run kX3_findLaws [45, 53] 30 ⟨fun z => absurd z hg, fun _ => inn⟩
  refine AJ.run kX3_findLaws [] 60 ⟨fun _ => ⟨Or.inr rfl, ?_⟩, fun z => absurd rfl z⟩
  refine AJ.callT kX3_findLaws (cJ_fill3 L lw 0) bJ7_fill_53178 rfl (by decide +kernel) [3] [] rfl rfl rfl rfl rfl rfl rfl ?_
  rintro r Y ⟨rfl, g, hg, rfl⟩
  refine ⟨rbW (nI c) 1 0 (-1) (-1) pl mi g d da t ta, rfl, rfl, ?_⟩
  refine AJ.run kX3_findLaws [] 60 ?_
  refine AJ.callF kX3_findLaws (cls g d da t ta mt (fun i hi => ⟨(hsn i hi).2.1.trans (hsn i hi).2.2.1, (hsn i hi).2.2.2⟩)) bX3_lastSeen rfl (by decide +kernel) [] rfl rfl rfl rfl rfl rfl rfl rfl ?_
  rintro r Y ⟨rfl, rfl⟩
  refine ⟨rfl, rfl, ?_⟩
  have o1 := outer 7 1 g d da none (by omega) (by omega) (fun k hk => by rw [M0.2.2.2]; exact hg k hk) (Or.inl rfl)
  rw [show 30 * (1 - 1) = 0 from rfl, M0.1, M0.2.1, M0.2.2.1] at o1
  have ee : nI (lsN mt c) + (-1) + 1 = nI e := by
    rw [hee, Int32.add_assoc]
    exact Int32.add_zero _
  rw [← ee] at o1
  exact AJ.run kX3_findLaws [45] 60 o1
theorem cB_findKnown (L : xLn) (sz la fk fs : Int32) (pl mi lw d : xN) (da : Nat → xN) (t : xN) (ta : Nat → xN) : CT L mX3_findLaws 6 0 0 [.ref 0] (rbW sz 1 la fk fs pl mi lw d da t ta) (eqQ none (rbW sz 1 la fk fs pl mi lw d da t ta)) := by
  refine CT.of rfl (Nat.le_of_ble_eq_true rfl) (Nat.le_of_ble_eq_true rfl) ?_
  exact AJ.run kX3_findLaws [] 30 ⟨fun z => absurd z (by decide), fun _ => ⟨rfl, rfl⟩⟩
