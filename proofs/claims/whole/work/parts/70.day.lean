/-! ===== the class: a minute, minutes, a day's begin ===== -/
theorem RD_tick {m b sp : Nat} {s : xN} {a : Nat → xN} {d : xN} {da : Nat → xN} {N : xN} (hm : m ≤ 26) (h : RD m b sp s a d da N) : RD m b sp s a (upd d 3 (d 3 + 1)) da (upd N 0 (N 0 + 1)) := by
  obtain ⟨hL, hA, hP, hF, hH⟩ := h
  refine ⟨hL, ⟨by rw [pk_us, pk_us, hA.1], fun k hk => ?_⟩, hP.same (fun i h1 h2 => pk_un (by omega)), ?_, ?_⟩
  · rw [pk_un (show 1 + k ≠ 0 by omega), pk_un (show 3 + k ≠ 0 by omega), pk_un (show 5 + k ≠ 0 by omega)]
    exact hA.2 k hk
  · exact RF.same (N := N) hm hF (fun i h1 h2 => pk_un (by omega))
  · exact RH.same (N := N) hH (fun i h => pk_un (by omega))
theorem le_nlt {x y : Int32} : x ≤ y ↔ ¬ y < x := by
  simp only [i32_lt, i32_le]; omega
set_option maxHeartbeats 1000000 in
theorem cD_passMinute (L : xLn) (d : xN) (da : Nat → xN) (t : xN) (ta : Nat → xN) (l m sp g : Nat) (s : xN) (a : Nat → xN) (N : xN) (hW : WD l m sp s a) (hT : RT m t ta s a) (h60 : g < 60) (hI : ID l m g g s a N) (hR : RD m g sp s a d da N) : CT L mX0_passMinute 3 0 0 [.ref 0] (dtW d da t ta) (dtQ t ta (fun d' da' => RD m (g + 1) sp s a d' da' (minP s a m N))) := by
  refine dt_gen fun Q fin => ?_
  refine CT.of rfl (Nat.le_of_ble_eq_true rfl) (Nat.le_of_ble_eq_true rfl) ?_
  have hm := hW.2.1
  have d3 : d 3 = nI g := hR.2.1.1.trans hI.1.1.1
  unfold minP at fin
  have I1 := ID_felt hW h60 hI
  have I2 := ID_tramF (k := 0) (by omega) hW h60 I1
  obtain ⟨F, hF⟩ : ∃ F, F = feltL (a 10) N m := ⟨_, rfl⟩
  rw [← hF] at fin I1 I2
  have fin2 : ∀ d' da', RD m (g + 1) sp s a d' da' (tramF s a m (tramF s a m F 0) 1) → AJ L mX0_passMinute 3 0 0 Q (dtW d da t ta).length (0, 0) 20 [some (.ref 0), some (.int (nI 2))] [] (dtW d' da' t ta) := by
    intro d' da' h
    have := fin _ _ (RD_tick hm h)
    exact AJ.run kX0_passMinute [20] 30 ⟨fun _ => this, fun hz => absurd (by decide) hz⟩
  have tr : ∀ (k : Nat) (B : xN) (d' : xN) (da' : Nat → xN), k < 2 → ID l m g (g + 1) s a B → RD m (g + 1) sp s a d' da' B → (∀ d'' da'', RD m (g + 1) sp s a d'' da'' (tramF s a m B k) → AJ L mX0_passMinute 3 0 0 Q (dtW d da t ta).length (0, 0) 20 [some (.ref 0), some (.int (nI (k + 1)))] [] (dtW d'' da'' t ta)) → AJ L mX0_passMinute 3 0 0 Q (dtW d da t ta).length (0, 0) 20 [some (.ref 0), some (.int (nI k))] [] (dtW d' da' t ta) := by
    intro k B d' da' hk hB hRB nxt
    rw [nI_succ, tramF_eq] at nxt
    have t5 : t 5 = s 5 := hT.1.2.2.2.2.2.1
    have e7 : ta 7 k = a 6 (3 * k + 1) := (hT.2.1 k hk).2.1
    have d3' : d' 3 = B 0 := hRB.2.1.1
    refine AJ.run kX0_passMinute [20] 30 ⟨fun hz => absurd hz (nI_ge (b := 2) (by omega) (by omega)), fun _ => ?_⟩
    refine AJ.callP kX0_passMinute (cT_isTram L t ta (nI k)) bX6_isTram rfl (by decide +kernel) [13, 14, 15, 16, 17, 18, 19, 20, 21, 22] [] rfl rfl rfl rfl rfl rfl rfl rfl rfl rfl ?_
    rintro r rfl
    rw [in_nI' (by omega) (by omega), show decide (k ≤ 1) = true by simp; omega, Bool.true_and, t5]
    have skip : ¬ (hasP (s 5) (nI k) = true ∧ a 6 (3 * k + 1) ≤ B 0) → AJ L mX0_passMinute 3 0 0 Q (dtW d da t ta).length (0, 0) 57 [some (.ref 0), some (.int (nI k))] [] (dtW d' da' t ta) := by
      intro hn
      rw [if_neg hn] at nxt
      exact AJ.run kX0_passMinute [20] 30 (nxt d' da' hRB)
    refine AJ.run kX0_passMinute [20, 57] 60 ⟨fun h5 => skip ?_, fun h5 => ⟨k, rfl, by omega, fun h6 => skip ?_, fun h6 => ?_⟩⟩
    · rw [bI_eq0] at h5; simp [h5]
    · have h6 : d' 3 < ta 7 k := h6
      rw [d3', e7] at h6
      exact fun z => le_nlt.mp z.2 h6
    · have h6 : ¬ d' 3 < ta 7 k := h6
      rw [d3', e7] at h6
      rw [bI_ne0] at h5
      rw [if_pos ⟨h5, le_nlt.mpr h6⟩] at nxt
      refine AJ.callF kX0_passMinute (cD_runTram L d' da' t ta l m sp g k s a B hk hW hT h60 h5 hB hRB) bX0_runTram rfl (by decide +kernel) [] rfl rfl rfl rfl rfl rfl rfl rfl ?_
      rintro r Y ⟨rfl, d2, da2, h2, rfl⟩
      refine ⟨rfl, rfl, ?_⟩
      exact AJ.run kX0_passMinute [20] 30 (nxt d2 da2 h2)
  refine AJ.run kX0_passMinute [20] 30 ⟨fun _ => ?_, fun hz => absurd ?_ hz⟩
  · refine AJ.callF kX0_passMinute (cD_drop L d da t ta l m sp g s a N hW hT hR.1 hI.1.1.1 h60 hR.2.1 hR.2.2.2.1) bX0_dropStaleCauses rfl (by decide +kernel) [] rfl rfl rfl rfl rfl rfl rfl rfl ?_
    rintro r Y ⟨rfl, d1, da1, ⟨rfl, s1, F1⟩, rfl⟩
    refine ⟨rfl, rfl, ?_⟩
    have A1 : RA d1 da1 N := ⟨by rw [s1 3 (by omega)]; exact hR.2.1.1, fun k hk => by rw [s1 7 (by omega)]; exact hR.2.1.2 k hk⟩
    have L1 : RLw s d1 := ⟨by rw [s1 1 (by omega)]; exact hR.1.1, by rw [s1 2 (by omega)]; exact hR.1.2⟩
    have H1 : RH d1 da1 N := ⟨by rw [s1 20 (by omega)]; exact hR.2.2.2.2.1, hR.2.2.2.2.2⟩
    refine AJ.run kX0_passMinute [20] 30 ?_
    refine AJ.callF kX0_passMinute (cD_feelMoods L d1 da1 t ta l m sp g g s a N hW hT L1 h60 hI.1 hI.2.1 hI.2.2.1 A1 hR.2.2.1 F1) bX0_feelMoods rfl (by decide +kernel) [] rfl rfl rfl rfl rfl rfl rfl rfl ?_
    rintro r Y ⟨rfl, d2, da2, ⟨s2, F2⟩, rfl⟩
    refine ⟨rfl, rfl, ?_⟩
    have out : ∀ i, (i < 41 ∨ 67 ≤ i) → F i = N i := fun i hi => by rw [hF]; exact feltL_out (a 10) N hi m hm
    rw [← hF] at F2
    have R2 : RD m (g + 1) sp s a d2 da2 F := ⟨s2.L L1, (s2.A A1).same (fun i hi => out i (by omega)), (s2.P hR.2.2.1).same (fun i h1 h2 => out i (by omega)), F2, (s2.H H1).same (fun i hi => out i (by omega))⟩
    exact AJ.run kX0_passMinute [20] 30 (tr 0 F d2 da2 (by omega) I1 R2 (fun d3 da3 h3 => tr 1 _ d3 da3 (by omega) I2 h3 (fun d4 da4 h4 => fin2 d4 da4 h4)))
  · show d 3 < nI 60
    rw [d3]; exact nI_lt h60 (by omega)
theorem ID_goL {l m sp g : Nat} {s : xN} {a : Nat → xN} {N : xN} (hW : WD l m sp s a) (h : ID l m g g s a N) : ∀ n, g + n ≤ 60 → ID l m (g + n) (g + n) s a (goL s a m N n)
  | 0, _ => h
  | n + 1, hn => by
    have ih := ID_goL hW h n (by omega)
    rw [goL, if_pos (by rw [ih.1.1.1]; exact nI_lt (b := 60) (by omega) (by omega))]
    exact ID_min (g := g + n) hW (by omega) ih
theorem goL_step {l m sp g : Nat} {s : xN} {a : Nat → xN} {N : xN} (hW : WD l m sp s a) (h : ID l m g g s a N) {n : Nat} (hn : g + n < 60) : goL s a m N (n + 1) = minP s a m (goL s a m N n) := by
  have ih := ID_goL hW h n (by omega)
  rw [goL, if_pos (by rw [ih.1.1.1]; exact nI_lt (b := 60) (by omega) (by omega))]
theorem cD_runTo (L : xLn) (d : xN) (da : Nat → xN) (t : xN) (ta : Nat → xN) (l m sp g e : Nat) (s : xN) (a : Nat → xN) (N : xN) (hW : WD l m sp s a) (hT : RT m t ta s a) (hge : g ≤ e) (h60 : e ≤ 60) (hI : ID l m g g s a N) (hR : RD m g sp s a d da N) : CT L mX0_runTo 4 0 0 [.ref 0, .int (nI e)] (dtW d da t ta) (dtQ t ta (fun d' da' => RD m e sp s a d' da' (goL s a m N (e - g)))) := by
  refine dt_gen fun Q fin => ?_
  refine CT.of rfl (Nat.le_of_ble_eq_true rfl) (Nat.le_of_ble_eq_true rfl) ?_
  have d3 : d 3 = nI g := hR.2.1.1.trans hI.1.1.1
  obtain ⟨G, hG⟩ : ∃ G : Nat → xN, G = fun n => goL s a m N n := ⟨_, rfl⟩
  have G0 : G 0 = N := by rw [hG]; rfl
  have Gs : ∀ n, g + n < 60 → G (n + 1) = minP s a m (G n) := by
    intro n hn; rw [hG]; exact goL_step hW hI hn
  have GI : ∀ n, g + n ≤ 60 → ID l m (g + n) (g + n) s a (G n) := by
    intro n hn; rw [hG]; exact ID_goL hW hI n hn
  rw [show goL s a m N (e - g) = G (e - g) by rw [hG]] at fin
  clear hG
  have loop : ∀ (k n : Nat) (d' : xN) (da' : Nat → xN), g + n + k = e → RD m (g + n) sp s a d' da' (G n) → AJ L mX0_runTo 4 0 0 Q (dtW d da t ta).length (0, 0) 5 [some (.ref 0), some (.int (nI e)), some (.int (nI (g + n)))] [] (dtW d' da' t ta) := by
    intro k
    induction k with
    | zero =>
      intro n d' da' hk h
      obtain rfl : e = g + n := by omega
      rw [show g + n - g = n by omega] at fin
      exact AJ.run kX0_runTo [5] 30 ⟨fun _ => fin d' da' h, fun hz => absurd (nI_le (Nat.le_refl _) (by omega)) hz⟩
    | succ k ih =>
      intro n d' da' hk h
      have nxt := fun d'' da'' => ih (n + 1) d'' da'' (by omega)
      rw [Gs n (by omega), ← Nat.add_assoc, nI_succ] at nxt
      refine AJ.run kX0_runTo [5] 30 ⟨fun hz => absurd hz (nI_ge (by omega) (by omega)), fun _ => ?_⟩
      refine AJ.callF kX0_runTo (cD_passMinute L d' da' t ta l m sp (g + n) s a (G n) hW hT (by omega) (GI n (by omega)) h) bX0_passMinute rfl (by decide +kernel) [] rfl rfl rfl rfl rfl rfl rfl rfl ?_
      rintro r Y ⟨rfl, d2, da2, h2, rfl⟩
      exact ⟨rfl, rfl, AJ.run kX0_runTo [5] 30 (nxt d2 da2 h2)⟩
  have := loop (e - g) 0 d da (by omega) (by rw [G0]; exact hR)
  rw [Nat.add_zero, ← d3] at this
  exact AJ.run kX0_runTo [5] 30 this
theorem cH_copy (L : xLn) (z z' : Int32) (f0 f1 f2 f3 g0 g1 g2 g3 : xN) : CT L mX2_copyFrom 1 0 0 [.ref 0, .ref 5] (halW 0 z f0 f1 f2 f3 ++ halW 5 z' g0 g1 g2 g3) (eqQ none (halW 0 z' g0 g1 g2 g3 ++ halW 5 z' g0 g1 g2 g3)) := by
  refine CT.of rfl (Nat.le_of_ble_eq_true rfl) (Nat.le_of_ble_eq_true rfl) ?_
  exact AJ.run kX2_copyFrom [] 60 ⟨rfl, rfl⟩
def d2W (d : xN) (da : Nat → xN) (e : xN) (ea : Nat → xN) (t : xN) (ta : Nat → xN) : List xE := dayW 0 26 d da ++ (dayW 13 26 e ea ++ tolW 26 t ta)
theorem cD_cp_a (L : xLn) (Q : Option Value → List xE → Prop) (n0 : Nat) (d : xN) (da : Nat → xN) (e : xN) (ea : Nat → xN) (t : xN) (ta : Nat → xN) (h : AJ L mX0_copyFrom 2 0 0 Q n0 (0, 0) 24 [some (.ref 0), some (.ref 13)] [] (d2W (upd (upd (upd d 1 (e 1)) 2 (e 2)) 3 (e 3)) da e ea t ta)) : AJ L mX0_copyFrom 2 0 0 Q n0 (0, 0) 0 [some (.ref 0), some (.ref 13)] [] (d2W d da e ea t ta) := AJ.run kX0_copyFrom [24] 60 h
theorem cD_cp_b (L : xLn) (Q : Option Value → List xE → Prop) (n0 : Nat) (d : xN) (da : Nat → xN) (e : xN) (ea : Nat → xN) (t : xN) (ta : Nat → xN) (h : AJ L mX0_copyFrom 2 0 0 Q n0 (0, 0) 66 [some (.ref 0), some (.ref 13)] [] (d2W d (va_up (va_up (va_up da 4 (ea 4)) 5 (ea 5)) 6 (ea 6)) e ea t ta)) : AJ L mX0_copyFrom 2 0 0 Q n0 (0, 0) 24 [some (.ref 0), some (.ref 13)] [] (d2W d da e ea t ta) := AJ.run kX0_copyFrom [66] 60 h
theorem cD_cp_c (L : xLn) (Q : Option Value → List xE → Prop) (n0 : Nat) (d : xN) (da : Nat → xN) (e : xN) (ea : Nat → xN) (t : xN) (ta : Nat → xN) (h : AJ L mX0_copyFrom 2 0 0 Q n0 (0, 0) 104 [some (.ref 0), some (.ref 13)] [] (d2W (upd d 7 (e 7)) (va_up (va_up da 8 (ea 8)) 9 (ea 9)) e ea t ta)) : AJ L mX0_copyFrom 2 0 0 Q n0 (0, 0) 66 [some (.ref 0), some (.ref 13)] [] (d2W d da e ea t ta) := AJ.run kX0_copyFrom [104] 60 h
theorem cD_cp_d (L : xLn) (Q : Option Value → List xE → Prop) (n0 : Nat) (d : xN) (da : Nat → xN) (e : xN) (ea : Nat → xN) (t : xN) (ta : Nat → xN) (h : AJ L mX0_copyFrom 2 0 0 Q n0 (0, 0) 134 [some (.ref 0), some (.ref 13)] [] (d2W d (va_up (va_up da 10 (ea 10)) 11 (ea 11)) e ea t ta)) : AJ L mX0_copyFrom 2 0 0 Q n0 (0, 0) 104 [some (.ref 0), some (.ref 13)] [] (d2W d da e ea t ta) := AJ.run kX0_copyFrom [134] 60 h
theorem cD_cp_e (L : xLn) (Q : Option Value → List xE → Prop) (n0 : Nat) (d : xN) (da : Nat → xN) (e : xN) (ea : Nat → xN) (t : xN) (ta : Nat → xN) (h : AJ L mX0_copyFrom 2 0 0 Q n0 (0, 0) 150 [some (.ref 0), some (.ref 13)] [] (d2W (upd (upd d 12 (e 12)) 13 (e 13)) da e ea t ta)) : AJ L mX0_copyFrom 2 0 0 Q n0 (0, 0) 134 [some (.ref 0), some (.ref 13)] [] (d2W d da e ea t ta) := AJ.run kX0_copyFrom [150] 60 h
theorem cD_copyFrom (L : xLn) (d : xN) (da : Nat → xN) (e : xN) (ea : Nat → xN) (t : xN) (ta : Nat → xN) : CT L mX0_copyFrom 2 0 0 [.ref 0, .ref 13] (d2W d da e ea t ta) (eqQ none (d2W e ea e ea t ta)) := by
  refine CT.of rfl (Nat.le_of_ble_eq_true rfl) (Nat.le_of_ble_eq_true rfl) ?_
  obtain ⟨Q, hQ⟩ : ∃ Q, Q = eqQ none (d2W e ea e ea t ta) := ⟨_, rfl⟩
  have fin : Q none (d2W e ea e ea t ta) := by rw [hQ]; exact ⟨rfl, rfl⟩
  rw [← hQ]
  clear hQ
  have g150 : AJ L mX0_copyFrom 2 0 0 Q (d2W d da e ea t ta).length (0, 0) 150 [some (.ref 0), some (.ref 13)] [] (d2W (upd e 20 (d 20)) (va_up (va_up (va_up (va_up ea 20 (da 20)) 21 (da 21)) 22 (da 22)) 23 (da 23)) e ea t ta) := by
    refine AJ.run kX0_copyFrom [] 30 ?_
    refine AJ.callU kX0_copyFrom (cH_copy L (d 20) (e 20) (da 20) (da 21) (da 22) (da 23) (ea 20) (ea 21) (ea 22) (ea 23)) bX2_copyFrom rfl (by decide +kernel) [8, 9, 10, 11, 12, 21, 22, 23, 24, 25] [] rfl rfl rfl rfl rfl rfl rfl rfl rfl rfl ?_
    rintro r Y ⟨rfl, rfl⟩
    exact ⟨d2W e ea e ea t ta, rfl, rfl, AJ.run kX0_copyFrom [] 30 fin⟩
  refine cD_cp_a L Q _ d da e ea t ta (cD_cp_b L Q _ _ _ e ea t ta (cD_cp_c L Q _ _ _ e ea t ta (cD_cp_d L Q _ _ _ e ea t ta (cD_cp_e L Q _ _ _ e ea t ta ?_))))
  exact g150
