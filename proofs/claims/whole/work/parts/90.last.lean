/-! ===== the class: who is home last; moods feigned; laws read back ===== -/
set_option maxRecDepth 100000 in
set_option maxHeartbeats 4000000 in
theorem c7_last (L : xLn) (l m sp n c : Nat) (x : xN) (xa : Nat → xN) (D : Nat → xN) (E : Nat → Nat → xN) (T : Nat → xN) (U : Nat → Nat → xN) (s : xN) (a : Nat → xN) (hC : CI l m sp n c x xa D E T U s a) (w : Int32) : CT L mX7_last 6 0 0 [.ref 0, .int w] (clsW x xa D E T U) (ciQ l m sp n c s a (lasR s a m w)) := by
  obtain ⟨v, hv⟩ : ∃ v, v = lasR s a m w := ⟨_, rfl⟩
  rw [← hv]
  obtain ⟨Q, hQ⟩ : ∃ Q, Q = ciQ l m sp n c s a v := ⟨_, rfl⟩
  have fin : ∀ x xa D E T U y, CI l m sp n c x xa D E T U s a → v = y → Q (some (.int y)) (clsW x xa D E T U) := by rintro x xa D E T U y hC rfl; rw [hQ]; exact ⟨rfl, x, xa, D, E, T, U, hC, rfl⟩
  rw [← hQ]
  clear hQ
  have fin0 := fun y => fin x xa D E T U y hC
  obtain ⟨⟨hW, hT, h2, hs1, hs2⟩, ⟨n1, n2, n3, n4⟩, ⟨c1, c2, c3, c4⟩, ⟨g, hI, hR⟩, hK, hF, hB⟩ := id hC
  obtain ⟨⟨t0, t1, t2, t3, t4, t5, t9, t12⟩, tt, tp, tm, tb⟩ := id hT
  obtain ⟨⟨l2, l12, s0⟩, ⟨m24, s9⟩, -⟩ := id hW
  refine CT.of rfl (Nat.le_of_ble_eq_true rfl) (Nat.le_of_ble_eq_true rfl) ?_
  have hWd : WD l m sp (toldP s) a := by
    obtain ⟨⟨u, hu, eu⟩, -⟩ := hW.2.2.1
    exact hW.w (fun i hi => toldP_lo s (by omega)) eu hu h2 hs1 hs2
  have hTt : RT m (T 0) (U 0) (toldP s) a := RT_s hT (fun i hi => toldP_lo s (by omega)) rfl rfl (fun _ _ => rfl)
  have cf : CT L mX7_foretellDay 5 0 0 [.ref 0, .int (T 0 1)] (clsW x xa D E T U) (foQ x xa D E T U (fun d e => RD m 60 sp (toldP s) a d e (dq (toldP s) a m))) := by
    obtain ⟨⟨u, hu, eu⟩, -⟩ := hW.2.2.1
    rw [t1.trans eu]
    exact c7_foretell L l m sp u x xa D E T U (toldP s) a hWd hTt eu t2.symm
  have hId : ID l m 60 60 (toldP s) a (dq (toldP s) a m) := by
    have := ID_goL hWd (ID_begin hWd (fun _ => 0)) 60 (by omega)
    rw [Nat.zero_add] at this
    exact this
  obtain ⟨N, hN⟩ : ∃ N, N = dq (toldP s) a m := ⟨_, rfl⟩
  rw [← hN] at cf
  unfold lasR at hv
  rw [s0, nI_clamp (by omega), ← hN] at hv
  by_cases ck : inP w 0 2 = true
  · rw [if_pos ck] at hv
    have hk0 : ¬ w < 0 := fun z => by rw [in_out (Or.inl z)] at ck; cases ck
    have hk1 : w ≤ 2 := by
      rw [le_nlt]
      exact fun z => by rw [in_out (Or.inr z)] at ck; cases ck
    have hmo := dq_hmO (toldP s) a m (by omega)
    rw [← hN] at hmo
    have hlt : ∀ q, q < 8 → lateP N q = nI (lateN N q) := fun q hq => (lateN_is hmo hq).1
    have hl60 : ∀ q, q < 8 → lateN N q ≤ 60 := fun q hq => (lateN_is hmo hq).2
    obtain ⟨G, hG⟩ : ∃ G : Nat → Int32 × Nat × Nat, G = fun p => laS (s 7) (a 8) (lateN N) p := ⟨_, rfl⟩
    obtain ⟨b1, hb1⟩ : ∃ b : Nat → Nat, b = fun p => la1 (s 7) (a 8) (lateN N) p 8 := ⟨_, rfl⟩
    obtain ⟨b2, hb2⟩ : ∃ b : Nat → Nat, b = fun p => la1 (s 7) (a 8) (fun _ => 1) p 8 := ⟨_, rfl⟩
    have G0 : G 0 = (-1, 0, 1) := by rw [hG]; rfl
    have Gs : ∀ p, G (p + 1) = if 0 < b2 p ∧ ((G p).1 = -1 ∨ (G p).2.1 * b2 p < b1 p * (G p).2.2) then (nI p, b1 p, b2 p) else G p := by intro p; rw [hG, hb1, hb2]; rfl
    have Gle : ∀ p, (G p).2.1 ≤ 480 ∧ 1 ≤ (G p).2.2 ∧ (G p).2.2 ≤ 8 := by intro p; rw [hG]; exact laS_le (s 7) (a 8) hl60 p
    have B1 : ∀ p, b1 p ≤ 480 := by intro p; rw [hb1]; exact la1_le (s 7) (a 8) hl60 p 8 (Nat.le_refl _)
    have B2 : ∀ p, b2 p ≤ 8 := by
      intro p
      rw [hb2]
      have := la1_le (s 7) (a 8) (lt := fun _ => 1) (b := 1) (fun q hq => Nat.le_refl _) p 8 (Nat.le_refl _)
      exact this
    have Gl : v = lasA (G l) w := by rw [hG]; exact hv
    have cfo : ∀ p, CT L mX6_folkOf 1 0 0 [.ref 0, .int (nI p)] (tolW 0 (T 0) (U 0)) (fun r Y => r = some (.int (nI (b2 p))) ∧ Y = tolW 0 (T 0) (U 0)) := by intro p; rw [hb2]; exact cT_folkOf L (T 0) (U 0) m p s a hT
    have cla : ∀ p d e, RD m 60 sp (toldP s) a d e N → CT L mX0_lateOf 1 0 0 [.ref 0, .int (nI p)] (dtW d e (T 0) (U 0)) (fun r Y => r = some (.int (nI (b1 p))) ∧ Y = dtW d e (T 0) (U 0)) := by
      intro p d e hRd
      rw [hb1]
      exact cD_lateOf L d e (T 0) (U 0) m p s a N hT hRd.2.2.1 (lateN N) hlt
    clear hG hb1 hb2 hv hlt hl60 hmo hN hId
    have main : AJ L mX7_last 6 0 0 Q (clsW x xa D E T U).length (0, 0) 12 [some (.ref 0), some (.int w), none, none, none, none, none, none] [] (clsW x xa D E T U) := by
      refine AJ.run kX7_last [11, 115, 125] 30 ?_
      refine AJ.callF kX7_last cf bX7_foretellDay rfl (by decide +kernel) [] rfl rfl rfl rfl rfl (cls_wf rfl) rfl rfl ?_
      rintro r Y ⟨rfl, d, e, hRd, rfl⟩
      refine ⟨rfl, rfl, ?_⟩
      have g105 : ∀ x6 x7, oI x6 → oI x7 → AJ L mX7_last 6 0 0 Q (clsW x xa D E T U).length (0, 0) 105 [some (.ref 0), some (.int w), some (.int (G l).1), some (.int (nI (G l).2.1)), some (.int (nI (G l).2.2)), some (.int (nI l)), x6, x7] [] (clsW x xa (va_up D 1 d) (va_up E 1 e) T U) := by
        intro x6 x7 h6 h7
        obtain ⟨q1, q2, q3⟩ := Gle l
        have hlow : ∀ x6 x7, oI x6 → oI x7 → ¬ (G l).1 = -1 → ¬ w = 0 → AJ L mX7_last 6 0 0 Q (clsW x xa D E T U).length (0, 0) 122 [some (.ref 0), some (.int w), some (.int (G l).1), some (.int (nI (G l).2.1)), some (.int (nI (G l).2.2)), some (.int (nI l)), x6, x7] [.int (w - 1), .int (nI (G l).2.2), .int (nI (G l).2.1)] (clsW x xa (va_up D 1 d) (va_up E 1 e) T U) := by
          intro x6 x7 h6 h7 z1 z2
          have ew : (w - 1 = 0) ↔ w = 1 := by
            constructor
            · intro z
              have : w - 1 + 1 = 0 + 1 := by rw [z]
              rw [Int32.sub_add_cancel] at this
              exact this
            · intro z; rw [z]; rfl
          have cc := c7_lowestPart L (G l).2.1 (G l).2.2 (w - 1) (by omega) (by omega) (Or.inr (by omega))
          have fz : v = nI ((if w - 1 = 0 then (G l).2.1 else (G l).2.2) / gcL ((G l).2.2 + 1) (G l).2.1 (G l).2.2) := by
            rw [Gl, lasA, if_neg (by rintro (y | y); exact z1 y; exact z2 y)]
            simp only [ew]
          rcases h6 with rfl | ⟨y6, rfl⟩ <;> rcases h7 with rfl | ⟨y7, rfl⟩
          all_goals
            refine AJ.callZ kX7_last cc bX7_lowestPart rfl (by decide +kernel) [] rfl rfl (cls_wf rfl) rfl rfl ?_
            rintro r rfl
            exact (c7_ret kX7_last rfl rfl (fin _ _ _ _ _ _ _ (hC.fore d e) fz))
        rcases h6 with rfl | ⟨y6, rfl⟩ <;> rcases h7 with rfl | ⟨y7, rfl⟩
        all_goals
          exact AJ.run kX7_last [122, 11, 115, 125] 40 ⟨fun z => (c7_ret kX7_last rfl rfl (fin _ _ _ _ _ _ _ (hC.fore d e) (by rw [Gl, lasA, if_pos (Or.inl z)]))), fun z => ⟨fun z2 => hlow _ _ (by first | exact Or.inl rfl | exact Or.inr ⟨_, rfl⟩) (by first | exact Or.inl rfl | exact Or.inr ⟨_, rfl⟩) z z2, fun z2 => (c7_ret kX7_last rfl rfl (fin _ _ _ _ _ _ _ (hC.fore d e) (by rw [Gl, lasA, if_pos (Or.inr z2)])))⟩⟩
      have loop : ∀ (k p : Nat) (x6 x7 : Option Value), p + k = l → oI x6 → oI x7 → AJ L mX7_last 6 0 0 Q (clsW x xa D E T U).length (0, 0) 33 [some (.ref 0), some (.int w), some (.int (G p).1), some (.int (nI (G p).2.1)), some (.int (nI (G p).2.2)), some (.int (nI p)), x6, x7] [] (clsW x xa (va_up D 1 d) (va_up E 1 e) T U) := by
        intro k
        induction k with
        | zero =>
          intro p x6 x7 hp h6 h7
          obtain rfl : p = l := by omega
          have g := g105 x6 x7 h6 h7
          have hge : T 0 0 ≤ nI p := by rw [t0, s0]; exact nI_le (Nat.le_refl _) (by omega)
          rcases h6 with rfl | ⟨y6, rfl⟩ <;> rcases h7 with rfl | ⟨y7, rfl⟩
          all_goals exact AJ.run kX7_last [33, 105, 11, 115, 125] 30 ⟨fun _ => g, fun z => absurd hge z⟩
        | succ k ih =>
          intro p x6 x7 hp h6 h7
          have hlt : ¬ T 0 0 ≤ nI p := by rw [t0, s0]; exact nI_ge (by omega) (by omega)
          obtain ⟨q1, q2, q3⟩ := Gle p
          have c1 := B1 p
          have c2 := B2 p
          have nxt := ih (p + 1) (some (.int (nI (b2 p)))) (some (.int (nI (b1 p)))) (by omega) (Or.inr ⟨_, rfl⟩) (Or.inr ⟨_, rfl⟩)
          rw [Gs p, nI_succ] at nxt
          have g67 : AJ L mX7_last 6 0 0 Q (clsW x xa D E T U).length (0, 0) 67 [some (.ref 0), some (.int w), some (.int (G p).1), some (.int (nI (G p).2.1)), some (.int (nI (G p).2.2)), some (.int (nI p)), some (.int (nI (b2 p))), some (.int (nI (b1 p)))] [] (clsW x xa (va_up D 1 d) (va_up E 1 e) T U) := by
            have keep : ¬ (0 < b2 p ∧ ((G p).1 = -1 ∨ (G p).2.1 * b2 p < b1 p * (G p).2.2)) → AJ L mX7_last 6 0 0 Q (clsW x xa D E T U).length (0, 0) 99 [some (.ref 0), some (.int w), some (.int (G p).1), some (.int (nI (G p).2.1)), some (.int (nI (G p).2.2)), some (.int (nI p)), some (.int (nI (b2 p))), some (.int (nI (b1 p)))] [] (clsW x xa (va_up D 1 d) (va_up E 1 e) T U) := fun z => by
              rw [if_neg z] at nxt
              exact AJ.run kX7_last [33, 11, 115, 125] 30 nxt
            have take : (0 < b2 p ∧ ((G p).1 = -1 ∨ (G p).2.1 * b2 p < b1 p * (G p).2.2)) → AJ L mX7_last 6 0 0 Q (clsW x xa D E T U).length (0, 0) 89 [some (.ref 0), some (.int w), some (.int (G p).1), some (.int (nI (G p).2.1)), some (.int (nI (G p).2.2)), some (.int (nI p)), some (.int (nI (b2 p))), some (.int (nI (b1 p)))] [] (clsW x xa (va_up D 1 d) (va_up E 1 e) T U) := fun z => by
              rw [if_pos z] at nxt
              exact AJ.run kX7_last [33, 11, 115, 125] 30 nxt
            refine AJ.run kX7_last [33, 89, 99, 11, 115, 125] 30 ⟨fun z => keep ?_, fun z => ⟨fun z2 => take ⟨?_, Or.inl z2⟩, fun z2 => ⟨fun z3 => keep ?_, fun z3 => take ⟨?_, Or.inr ?_⟩⟩⟩⟩
            · have z : nI (b2 p) ≤ nI 0 := z
              rintro ⟨y, -⟩
              exact nI_ge y (by omega) z
            · rcases Nat.eq_zero_or_pos (b2 p) with y | y
              · exact absurd (by rw [y]; exact nI_le (a := 0) (b := 0) (Nat.le_refl _) (by omega)) z
              · exact y
            · have z3 : nI (b1 p) * nI (G p).2.2 ≤ nI (G p).2.1 * nI (b2 p) := z3
              rw [pk_mul, pk_mul] at z3
              rintro ⟨-, y | y⟩
              · exact z2 y
              · have : (G p).2.1 * b2 p ≤ 480 * 8 := Nat.mul_le_mul q1 c2
                have : b1 p * (G p).2.2 ≤ 480 * 8 := Nat.mul_le_mul c1 q3
                exact nI_ge y (by omega) z3
            · rcases Nat.eq_zero_or_pos (b2 p) with y | y
              · exact absurd (by rw [y]; exact nI_le (a := 0) (b := 0) (Nat.le_refl _) (by omega)) z
              · exact y
            · have z3 : ¬ nI (b1 p) * nI (G p).2.2 ≤ nI (G p).2.1 * nI (b2 p) := z3
              rw [pk_mul, pk_mul] at z3
              have : (G p).2.1 * b2 p ≤ 480 * 8 := Nat.mul_le_mul q1 c2
              rcases Nat.lt_or_ge ((G p).2.1 * b2 p) (b1 p * (G p).2.2) with y | y
              · exact y
              · exact absurd (nI_le y (by omega)) z3
          have body : ∀ x6 x7, oI x6 → oI x7 → AJ L mX7_last 6 0 0 Q (clsW x xa D E T U).length (0, 0) 51 [some (.ref 0), some (.int w), some (.int (G p).1), some (.int (nI (G p).2.1)), some (.int (nI (G p).2.2)), some (.int (nI p)), x6, x7] [.int (nI p), .ref 3] (clsW x xa (va_up D 1 d) (va_up E 1 e) T U) := by
            intro x6 x7 h6 h7
            rcases h6 with rfl | ⟨y6, rfl⟩ <;> rcases h7 with rfl | ⟨y7, rfl⟩
            all_goals
              refine AJ.callP kX7_last (cfo p) bX6_folkOf rfl (by decide +kernel) [3, 4, 5, 6, 7, 8, 9, 10, 11, 12] [] rfl rfl rfl rfl rfl rfl rfl (cls_wf rfl) rfl rfl ?_
              rintro r rfl
              refine AJ.run kX7_last [67, 11, 115, 125] 30 ?_
              refine AJ.callP kX7_last (cla p d e hRd) bX0_lateOf rfl (by decide +kernel) [38, 39, 40, 41, 42, 43, 44, 45, 46, 47, 48, 49, 50, 3, 4, 5, 6, 7, 8, 9, 10, 11, 12] [] rfl rfl rfl rfl rfl rfl rfl (cls_wf rfl) rfl rfl ?_
              rintro r rfl
              exact AJ.run kX7_last [67, 11, 115, 125] 30 g67
          have bb := body x6 x7 h6 h7
          rcases h6 with rfl | ⟨y6, rfl⟩ <;> rcases h7 with rfl | ⟨y7, rfl⟩
          all_goals exact AJ.run kX7_last [33, 105, 11, 115, 125] 30 ⟨fun z => absurd z hlt, fun _ => bb⟩
      have := loop l 0 none none (by omega) (Or.inl rfl) (Or.inl rfl)
      rw [G0] at this
      exact AJ.run kX7_last [33, 11, 115, 125] 30 this
    exact AJ.run kX7_last [12, 11, 115, 125] 40 ⟨fun z => absurd z hk0, fun _ => ⟨fun _ => main, fun z => absurd hk1 z⟩⟩
  · rw [if_neg ck] at hv
    exact AJ.run kX7_last [12, 11, 115, 125] 40 ⟨fun _ => (c7_ret kX7_last rfl rfl (fin0 _ hv)), fun z => ⟨fun z2 => absurd (in_mid z (le_nlt.mp z2)) ck, fun _ => (c7_ret kX7_last rfl rfl (fin0 _ hv))⟩⟩
