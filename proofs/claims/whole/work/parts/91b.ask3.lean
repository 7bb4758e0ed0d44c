/-! ===== the class: laws read back, as they are asked for ===== -/
theorem CI.laws {l m sp n c : Nat} {x : xN} {xa : Nat → xN} {D : Nat → xN} {E : Nat → Nat → xN} {T : Nat → xN} {U : Nat → Nat → xN} {s : xN} {a : Nat → xN} (h : CI l m sp n c x xa D E T U s a) (lw d : xN) (e : Nat → xN) {v1 v2 v3 : Int32} (q1 : v1 = nI (mnS (fitP s a m c) 210)) (q2 : v2 = fkS (fitP s a m c) 210) (q3 : v3 = fsS (fitP s a m c) 210) (hl : ∀ k, k < 3 → lw k = hkS (fitP s a m c) k 210) : CI l m sp n c (upd (upd (upd (upd x 14 1) 15 v1) 16 v2) 17 v3) (va_up xa 5 lw) (va_up D 1 d) (va_up E 1 e) T U s a ∧ RK m c (upd (upd (upd (upd x 14 1) 15 v1) 16 v2) 17 v3) (va_up xa 5 lw) s a := by
  obtain ⟨h1, h2, h3, h4, h5, h6, h7⟩ := h.fore d e
  have hR : RK m c (upd (upd (upd (upd x 14 1) 15 v1) 16 v2) 17 v3) (va_up xa 5 lw) s a := by
    unfold RK
    rw [← q1, ← q2, ← q3]
    exact ⟨rfl, rfl, rfl, hl⟩
  refine ⟨⟨h1, h2, h3, h4, fun k hk => h5 k hk, ⟨h6.1, fun z => ?_⟩, ⟨Or.inr rfl, fun _ => hR⟩⟩, hR⟩
  obtain ⟨p, q, p1, p2, p3, p4, p5⟩ := h6.2 z
  refine ⟨p, q, p1, p2, p3, p4, fun w hw => ?_⟩
  rw [← p5 w hw, pk_un (by omega), pk_un (by omega), pk_un (by omega), pk_un (by omega)]
def flQ (sz v1 v2 v3 : Int32) (H : Nat → Int32) (pl mi : xN) (t : xN) (ta : Nat → xN) : Option Value → List xE → Prop := fun r Y => r = none ∧ ∃ lw d da, (∀ k, k < 3 → lw k = H k) ∧ Y = rbW sz 1 v1 v2 v3 pl mi lw d da t ta
theorem fl_CT {L : xLn} {M : xM} {d : Nat} {av : List Value} {X : List xE} {fit : Nat → Bool} {sz : Int32} {pl mi t : xN} {ta : Nat → xN} (h : CT L M d 0 0 av X (fun r Y => r = none ∧ flI fit sz pl mi t ta 210 Y)) : ∃ v1 v2 v3 H, v1 = nI (mnS fit 210) ∧ v2 = fkS fit 210 ∧ v3 = fsS fit 210 ∧ (∀ k, H k = hkS fit k 210) ∧ CT L M d 0 0 av X (flQ sz v1 v2 v3 H pl mi t ta) := by
  refine ⟨_, _, _, fun k => hkS fit k 210, rfl, rfl, rfl, fun _ => rfl, h.mono ?_⟩
  rintro r Y ⟨rfl, lw, d, da, hl, hY⟩
  exact ⟨rfl, lw, d, da, hl, hY⟩
set_option maxRecDepth 100000 in
set_option maxHeartbeats 4000000 in
theorem c7_find (L : xLn) {M : xM} (hM : xMk M = true) {idx nx tg pc : Nat} {v : Int32} {w : Int64} {a0 b t : Nat} {sw : List (Int32 × Nat)} (ho : xat M pc = some (.invokevirtual idx, nx, tg, v, w, a0, b, t, sw)) (hlk : xmt t (.methodLink (xown M) idx mX3_findLaws.1) = true) (Q : Option Value → List xE → Prop) (n0 : Nat) (ls : List (Option Value)) (hls : (ls.all (fun o => match o with | none => true | some v => xokv 133 v) && ([] : List Value).all (xokv 133) && Nat.ble (([] : List Value).map fun v => v.category).sum 8) = true) (l m sp n c : Nat) (x : xN) (xa : Nat → xN) (D : Nat → xN) (E : Nat → Nat → xN) (T : Nat → xN) (U : Nat → Nat → xN) (s : xN) (a : Nat → xN) (hC : CI l m sp n c x xa D E T U s a)
    (aft : ∀ x xa D E T U, CI l m sp n c x xa D E T U s a → RK m c x xa s a → AJ L M 7 0 0 Q n0 (0, 0) nx ls [] (clsW x xa D E T U)) : AJ L M 7 0 0 Q n0 (0, 0) pc ls [.ref 103] (clsW x xa D E T U) := by
  obtain ⟨⟨hW, hT, h2, hs1, hs2⟩, -, ⟨c1, c2, c3, c4⟩, -, -, -, hB⟩ := id hC
  rcases hB.1 with z | z
  · have cc := cB_findLaws L c l m c1 (x 15) (x 16) (x 17) (xa 3) (xa 4) (xa 5) (D 1) (E 1) (T 0) (U 0) s a (fun i => (a 12 (2 * i + 1)).toNatClampNeg) hW hT (fun i hi => by
      obtain ⟨q1, q2, t, q3, q4⟩ := c4 i hi
      refine ⟨q1, q2, ?_, ?_⟩
      · rw [q4, nI_clamp (by omega)]
      · rw [q4, nI_clamp (by omega)]; exact q3)
    obtain ⟨v1, v2, v3, H, q1, q2, q3, q4, cc⟩ := fl_CT cc
    rw [← z, ← c3] at cc
    have a2 := fun lw d e (hl : ∀ k, k < 3 → lw k = H k) => (fun h => aft _ _ _ _ _ _ h.1 h.2) (hC.laws lw d e q1 q2 q3 (fun k hk => (hl k hk).trans (q4 k)))
    clear q1 q2 q3 q4 aft
    refine AJ.callX hM cc bX3_findLaws ho hlk [103, 104, 105, 106, 38, 39, 40, 41, 42, 43, 44, 45, 46, 47, 48, 49, 50, 3, 4, 5, 6, 7, 8, 9, 10, 11, 12] [] rfl rfl rfl rfl rfl rfl rfl (cls_wf hls) rfl rfl ?_
    rintro r Y ⟨rfl, lw, d, e, hl, rfl⟩
    exact ⟨(clsW (upd (upd (upd (upd x 14 1) 15 v1) 16 v2) 17 v3) (va_up xa 5 lw) (va_up D 1 d) (va_up E 1 e) T U), rfl, rfl, a2 lw d e hl⟩
  · have cc := cB_findKnown L (x 13) (x 15) (x 16) (x 17) (xa 3) (xa 4) (xa 5) (D 1) (E 1) (T 0) (U 0)
    rw [← z] at cc
    refine AJ.callX hM cc bX3_findLaws ho hlk [103, 104, 105, 106, 38, 39, 40, 41, 42, 43, 44, 45, 46, 47, 48, 49, 50, 3, 4, 5, 6, 7, 8, 9, 10, 11, 12] [] rfl rfl rfl rfl rfl rfl rfl (cls_wf hls) rfl rfl ?_
    rintro r Y ⟨rfl, rfl⟩
    exact ⟨(clsW x xa D E T U), rfl, rfl, aft _ _ _ _ _ _ hC (hB.2 z)⟩
set_option maxRecDepth 100000 in
set_option maxHeartbeats 4000000 in
theorem c7_read (L : xLn) (l m sp n c : Nat) (x : xN) (xa : Nat → xN) (D : Nat → xN) (E : Nat → Nat → xN) (T : Nat → xN) (U : Nat → Nat → xN) (s : xN) (a : Nat → xN) (hC : CI l m sp n c x xa D E T U s a) (w : Int32) : CT L mX7_read 7 0 0 [.ref 0, .int w] (clsW x xa D E T U) (ciQ l m sp n c s a (readP (fitP s a m c) w)) := by
  obtain ⟨v, hv⟩ : ∃ v, v = readP (fitP s a m c) w := ⟨_, rfl⟩
  rw [← hv]
  obtain ⟨Q, hQ⟩ : ∃ Q, Q = ciQ l m sp n c s a v := ⟨_, rfl⟩
  have fin : ∀ x xa D E T U y, CI l m sp n c x xa D E T U s a → v = y → Q (some (.int y)) (clsW x xa D E T U) := by rintro x xa D E T U y hC rfl; rw [hQ]; exact ⟨rfl, x, xa, D, E, T, U, hC, rfl⟩
  rw [← hQ]
  clear hQ
  have fin0 := fun y => fin x xa D E T U y hC
  obtain ⟨⟨hW, hT, h2, hs1, hs2⟩, ⟨n1, n2, n3, n4⟩, ⟨c1, c2, c3, c4⟩, ⟨g, hI, hR⟩, hK, hF, hB⟩ := id hC
  obtain ⟨⟨t0, t1, t2, t3, t4, t5, t9, t12⟩, tt, tp, tm, tb⟩ := id hT
  obtain ⟨⟨l2, l12, s0⟩, ⟨m24, s9⟩, -⟩ := id hW
  refine CT.of rfl (Nat.le_of_ble_eq_true rfl) (Nat.le_of_ble_eq_true rfl) ?_
  have find := fun (ls : List (Option Value)) hls => c7_find L (pc := 16) kX7_read rfl (by decide +kernel) Q 133 ls hls l m sp n c x xa D E T U s a hC
  unfold readP at hv
  by_cases ck : inP w 0 2 = true
  · rw [if_pos ck] at hv
    have hk0 : ¬ w < 0 := fun z => by rw [in_out (Or.inl z)] at ck; cases ck
    have hk1 : w ≤ 2 := by
      rw [le_nlt]
      exact fun z => by rw [in_out (Or.inr z)] at ck; cases ck
    have main := find [some (.ref 0), some (.int w)] rfl (fun x xa D E T U hC hR => by
      obtain ⟨r1, r2, r3, -⟩ := hR
      have ff := fun y => fin x xa D E T U y hC
      have fk := fk_fi (fitP s a m c) 210 (Nat.le_refl _)
      generalize fitP s a m c = fit at r1 r2 r3 fk hv
      refine AJ.run kX7_read [11, 55, 63, 71] 40 ⟨fun z0 => (c7_ret kX7_read rfl rfl (ff _ (by rw [hv, if_pos z0, r1]))), fun z0 => ⟨fun z1 => (c7_ret kX7_read rfl rfl (ff _ ?_)), fun z1 => (c7_ret kX7_read rfl rfl (ff _ ?_))⟩⟩
      · rw [hv, if_neg z0, r2]
        by_cases c0 : mnS fit 210 = 0
        · rw [if_pos c0, (fk.1 c0).1]
        · rw [if_neg c0, if_pos z1, (fk.2 c0).1]
      · rw [hv, if_neg z0, r3]
        by_cases c0 : mnS fit 210 = 0
        · rw [if_pos c0, (fk.1 c0).2]
        · rw [if_neg c0, if_neg z1, (fk.2 c0).2])
    exact AJ.run kX7_read [11, 55, 63, 71] 40 ⟨fun z => absurd z hk0, fun _ => ⟨fun _ => main, fun z => absurd hk1 z⟩⟩
  · rw [if_neg ck] at hv
    exact AJ.run kX7_read [11, 55, 63, 71] 40 ⟨fun _ => (c7_ret kX7_read rfl rfl (fin0 _ hv)), fun z => ⟨fun z2 => absurd (in_mid z (le_nlt.mp z2)) ck, fun _ => (c7_ret kX7_read rfl rfl (fin0 _ hv))⟩⟩
set_option maxRecDepth 100000 in
set_option maxHeartbeats 4000000 in
theorem c7_odds (L : xLn) (l m sp n c : Nat) (x : xN) (xa : Nat → xN) (D : Nat → xN) (E : Nat → Nat → xN) (T : Nat → xN) (U : Nat → Nat → xN) (s : xN) (a : Nat → xN) (hC : CI l m sp n c x xa D E T U s a) (k w : Int32) : CT L mX7_odds 7 0 0 [.ref 0, .int k, .int w] (clsW x xa D E T U) (ciQ l m sp n c s a (oddsP (fitP s a m c) k w)) := by
  obtain ⟨v, hv⟩ : ∃ v, v = oddsP (fitP s a m c) k w := ⟨_, rfl⟩
  rw [← hv]
  obtain ⟨Q, hQ⟩ : ∃ Q, Q = ciQ l m sp n c s a v := ⟨_, rfl⟩
  have fin : ∀ x xa D E T U y, CI l m sp n c x xa D E T U s a → v = y → Q (some (.int y)) (clsW x xa D E T U) := by rintro x xa D E T U y hC rfl; rw [hQ]; exact ⟨rfl, x, xa, D, E, T, U, hC, rfl⟩
  rw [← hQ]
  clear hQ
  have fin0 := fun y => fin x xa D E T U y hC
  obtain ⟨⟨hW, hT, h2, hs1, hs2⟩, ⟨n1, n2, n3, n4⟩, ⟨c1, c2, c3, c4⟩, ⟨g, hI, hR⟩, hK, hF, hB⟩ := id hC
  obtain ⟨⟨t0, t1, t2, t3, t4, t5, t9, t12⟩, tt, tp, tm, tb⟩ := id hT
  obtain ⟨⟨l2, l12, s0⟩, ⟨m24, s9⟩, -⟩ := id hW
  refine CT.of rfl (Nat.le_of_ble_eq_true rfl) (Nat.le_of_ble_eq_true rfl) ?_
  have find := fun (ls : List (Option Value)) hls => c7_find L (pc := 25) kX7_odds rfl (by decide +kernel) Q 133 ls hls l m sp n c x xa D E T U s a hC
  unfold oddsP at hv
  by_cases ck : (inP k 0 2 && inP w 0 1) = true
  · rw [if_pos ck] at hv
    rw [Bool.and_eq_true] at ck
    obtain ⟨q, hq, rfl⟩ := inP_nI (n := 2) (by omega) ck.1
    obtain ⟨y, hy, rfl⟩ := inP_nI (n := 1) (by omega) ck.2
    rw [nI_clamp (by omega)] at hv
    have main := find [some (.ref 0), some (.int (nI q)), some (.int (nI y))] rfl (fun x xa D E T U hC hR => by
      obtain ⟨r1, -, -, r4⟩ := hR
      have ff := fun y => fin x xa D E T U y hC
      have r5 := r4 q (by omega)
      rw [hkS_nI (fitP s a m c) (by omega) 210 (Nat.le_refl _)] at r5
      have hle := hkN_le (fitP s a m c) q 210
      have hle2 := mnS_le (fitP s a m c) 210
      generalize mnS (fitP s a m c) 210 = mn at r1 hv hle hle2
      generalize hkN (fitP s a m c) q 210 = hk at r5 hv hle
      refine AJ.run kX7_odds [41, 20, 40, 61] 40 ⟨fun z => ?_, fun z => (c7_ret kX7_odds rfl rfl (ff _ ?_))⟩
      · have c0 : ¬ mn = 0 := fun y => z (by rw [r1, y]; rfl)
        rw [if_neg c0] at hv
        have cc := c7_lowestPart L hk mn (nI y) (by omega) (by omega) (Or.inr (by omega))
        rw [← r1, ← r5] at cc
        refine AJ.run kX7_odds [20, 40, 61] 40 ⟨q, rfl, by omega, ?_⟩
        refine AJ.callZ kX7_odds cc bX7_lowestPart rfl (by decide +kernel) [] rfl rfl (cls_wf rfl) rfl rfl ?_
        rintro r rfl
        exact (c7_ret kX7_odds rfl rfl (ff _ hv))
      · have c0 : mn = 0 := by
          have z : x 15 = 0 := z
          rw [r1] at z
          exact (nI_eq (b := 0) (by omega) (by omega)).mp z
        rw [hv, if_pos c0])
    exact AJ.run kX7_odds [20, 40, 61] 40 ⟨fun z => absurd z (nI_pos (by omega)), fun _ => ⟨fun z => absurd z (nI_ge (b := 3) (by omega) (by omega)), fun _ => ⟨fun z => absurd z (nI_pos (by omega)), fun _ => ⟨fun _ => main, fun z => absurd (nI_le (b := 1) hy (by omega)) z⟩⟩⟩⟩
  · rw [if_neg ck] at hv
    refine AJ.run kX7_odds [20, 40, 61] 40 ⟨fun _ => (c7_ret kX7_odds rfl rfl (fin0 _ hv)), fun z1 => ⟨fun _ => (c7_ret kX7_odds rfl rfl (fin0 _ hv)), fun z2 => ⟨fun _ => (c7_ret kX7_odds rfl rfl (fin0 _ hv)), fun z3 => ⟨fun z4 => absurd ?_ ck, fun _ => (c7_ret kX7_odds rfl rfl (fin0 _ hv))⟩⟩⟩⟩
    rw [Bool.and_eq_true]
    refine ⟨in_mid z1 (fun z => z2 ?_), in_mid z3 (le_nlt.mp z4)⟩
    have z : (2 : Int32) < k := z
    show (3 : Int32) ≤ k
    simp only [i32_lt, i32_le] at z ⊢
    have e2 : (2 : Int32).toInt = 2 := rfl
    have e3 : (3 : Int32).toInt = 3 := rfl
    omega
