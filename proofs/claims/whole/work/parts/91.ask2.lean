/-! ===== the class: moods feigned, laws read back, as they are asked for ===== -/
theorem CI.feig {l m sp n c : Nat} {x : xN} {xa : Nat → xN} {D : Nat → xN} {E : Nat → Nat → xN} {T : Nat → xN} {U : Nat → Nat → xN} {s : xN} {a : Nat → xN} (h : CI l m sp n c x xa D E T U s a) {p q : Nat} {B : bT} (hp : p < 8) (hq : q ≤ 2) (hB : ∀ w, w < 4 → ansT B w = feiP (feV s a m p) q w (fun _ => 0)) (t : xN) (ta : Nat → xN) (d1 d2 d3 : xN) (e1 e2 e3 : Nat → xN) : CI l m sp n c (upd (upd (upd (upd (upd (upd (upd (upd x 5 1) 6 (nI p)) 7 (nI q)) 8 (nI B.1)) 9 (hoP B)) 10 B.2.1) 11 B.2.2.1) 12 B.2.2.2) xa (va_up (va_up (va_up D 4 d1) 5 d2) 6 d3) (va_up (va_up (va_up E 4 e1) 5 e2) 6 e3) (va_up T 2 t) (va_up U 2 ta) s a := by
  obtain ⟨h1, h2, h3, h4, h5, h6, h7⟩ := h
  refine ⟨h1, h2, h3, ?_, fun k hk => ?_, ⟨Or.inr rfl, fun _ => ⟨p, q, hp, hq, rfl, rfl, fun w hw => ?_⟩⟩, h7⟩
  · exact h4
  · have e0 : (va_up (va_up (va_up D 4 d1) 5 d2) 6 d3) (2 + k) = D (2 + k) := by rw [va_up_ne _ _ (by omega), va_up_ne _ _ (by omega), va_up_ne _ _ (by omega)]
    have e0' : (va_up (va_up (va_up E 4 e1) 5 e2) 6 e3) (2 + k) = E (2 + k) := by rw [va_up_ne _ _ (by omega), va_up_ne _ _ (by omega), va_up_ne _ _ (by omega)]
    rw [e0, e0']
    exact h5 k hk
  · rw [← hB w hw]
    rcases (show w = 0 ∨ w = 1 ∨ w = 2 ∨ w = 3 by omega) with rfl | rfl | rfl | rfl <;> rfl
set_option maxRecDepth 100000 in
set_option maxHeartbeats 4000000 in
theorem c7_feigned (L : xLn) (l m sp n c : Nat) (x : xN) (xa : Nat → xN) (D : Nat → xN) (E : Nat → Nat → xN) (T : Nat → xN) (U : Nat → Nat → xN) (s : xN) (a : Nat → xN) (hC : CI l m sp n c x xa D E T U s a) (k nn w : Int32) : CT L mX7_feigned 7 0 0 [.ref 0, .int k, .int nn, .int w] (clsW x xa D E T U) (ciQ l m sp n c s a (feiR s a m k nn w)) := by
  obtain ⟨v, hv⟩ : ∃ v, v = feiR s a m k nn w := ⟨_, rfl⟩
  rw [← hv]
  obtain ⟨Q, hQ⟩ : ∃ Q, Q = ciQ l m sp n c s a v := ⟨_, rfl⟩
  have fin : ∀ x xa D E T U y, CI l m sp n c x xa D E T U s a → v = y → Q (some (.int y)) (clsW x xa D E T U) := by rintro x xa D E T U y hC rfl; rw [hQ]; exact ⟨rfl, x, xa, D, E, T, U, hC, rfl⟩
  rw [← hQ]
  clear hQ
  have fin0 := fun y => fin x xa D E T U y hC
  obtain ⟨⟨hW, hT, h2, hs1, hs2⟩, ⟨n1, n2, n3, n4⟩, ⟨c1, c2, c3, c4⟩, ⟨g, hI, hR⟩, hK, hF, hB⟩ := id hC
  obtain ⟨⟨t0, t1, t2, t3, t4, t5, t9, t12⟩, tt, tp, tm, tb⟩ := id hT
  obtain ⟨⟨l2, l12, s0⟩, ⟨m24, s9⟩, -⟩ := id hW
  refine CT.of rfl (Nat.le_of_ble_eq_true rfl) (Nat.le_of_ble_eq_true rfl) ?_
  unfold feiR isPersonP at hv
  refine AJ.run kX7_feigned [13, 34, 79, 87, 95, 103] 30 ?_
  refine AJ.callP kX7_feigned (cT_isPerson L (T 0) (U 0) k) bX6_isPerson rfl (by decide +kernel) [3, 4, 5, 6, 7, 8, 9, 10, 11, 12] [] rfl rfl rfl rfl rfl rfl rfl (cls_wf rfl) rfl rfl ?_
  rintro r rfl
  rw [t9]
  refine AJ.run kX7_feigned [14, 13, 34, 79, 87, 95, 103] 60 ⟨fun z => ?_, fun z => (c7_ret kX7_feigned rfl rfl (fin0 _ (by rw [hv, if_neg (by rw [show inP k 0 7 = inP k 0 (nI 7) from rfl, (bI_eq0 _).mp z]; simp)])))⟩
  have zb := (bI_ne0 _).mp z
  have zb1 : (inP k 0 7 && hasP (s 7) k) = true := zb
  rw [if_pos zb1] at hv
  rw [Bool.and_eq_true] at zb
  obtain ⟨p, hp, rfl⟩ := inP_nI (n := 7) (by omega) zb.1
  have hp : p < 8 := by omega
  rw [nI_clamp (by omega)] at hv
  by_cases cb : (inP nn 0 2 && inP w 0 3) = true
  · rw [if_pos cb] at hv
    rw [Bool.and_eq_true] at cb
    obtain ⟨q, hq, rfl⟩ := inP_nI (n := 2) (by omega) cb.1
    obtain ⟨y, hy, rfl⟩ := inP_nI (n := 3) (by omega) cb.2
    rw [nI_clamp (by omega), nI_clamp (by omega)] at hv
    have hWd : WD l m sp (toldP s) a := by
      obtain ⟨⟨u, hu, eu⟩, -⟩ := hW.2.2.1
      exact hW.w (fun i hi => toldP_lo s (by omega)) eu hu h2 hs1 hs2
    have hTt : RT m (T 0) (U 0) (toldP s) a := RT_s hT (fun i hi => toldP_lo s (by omega)) rfl rfl (fun _ _ => rfl)
    obtain ⟨⟨u, hu, eu⟩, -⟩ := hW.2.2.1
    obtain ⟨kk, hkk, ekk⟩ := kindP_3 hu
    have hfp : hasP (toldP s 7) (nI p) = true := by rw [toldP_lo s (by omega)]; exact zb.2
    obtain ⟨V0, V1, V2, hfV, hV0, hV1, hV2⟩ := fe_pack hWd m24 hp hfp hkk
    have ekind : kindP (s 1) = nI kk := by rw [eu]; exact ekk
    have hB : ∀ w, w < 4 → ansT (finT V0 V1 V2 q) w = feiP (feV s a m p) q w (fun _ => 0) := fun w hw => (fei_ans hw (fei_R ⟨feV_of rfl rfl rfl hV0, hV0.1⟩ (fun i hi => ⟨feV_of (a' := fA1 a m p kk i) rfl rfl (by rw [ekind]; rfl) (hV1 i hi), (hV1 i hi).1⟩) (fun y z h1 h3 => ⟨feV_of (a' := fA2 a m p kk y z) rfl rfl (by rw [ekind]; rfl) (hV2 y z h1 h3), (hV2 y z h1 h3).1⟩) q (fun _ => 0))).symm
    -- behind the search
    have aft : ∀ x xa D E T U, CI l m sp n c x xa D E T U s a → (∀ w, w < 4 → x (9 + w) = feiP (feV s a m p) q w (fun _ => 0)) → AJ L mX7_feigned 7 0 0 Q 133 (0, 0) 44 [some (.ref 0), some (.int (nI p)), some (.int (nI q)), some (.int (nI y))] [] (clsW x xa D E T U) := by
      intro x xa D E T U hC hx
      have ff := fun y => fin x xa D E T U y hC
      rw [← hx y (by omega)] at hv
      rcases (show y = 0 ∨ y = 1 ∨ y = 2 ∨ y = 3 by omega) with rfl | rfl | rfl | rfl
      · exact AJ.run kX7_feigned [13, 34, 79, 87, 95, 103] 40 ⟨fun _ => (c7_ret kX7_feigned rfl rfl (ff _ hv)), fun z => absurd rfl z⟩
      · exact AJ.run kX7_feigned [13, 34, 79, 87, 95, 103] 40 ⟨fun z => absurd z (by decide), fun _ => ⟨fun _ => (c7_ret kX7_feigned rfl rfl (ff _ hv)), fun z => absurd rfl z⟩⟩
      · exact AJ.run kX7_feigned [13, 34, 79, 87, 95, 103] 40 ⟨fun z => absurd z (by decide), fun _ => ⟨fun z => absurd z (by decide), fun _ => ⟨fun _ => (c7_ret kX7_feigned rfl rfl (ff _ hv)), fun z => absurd rfl z⟩⟩⟩
      · exact AJ.run kX7_feigned [13, 34, 79, 87, 95, 103] 40 ⟨fun z => absurd z (by decide), fun _ => ⟨fun z => absurd z (by decide), fun _ => ⟨fun z => absurd z (by decide), fun _ => (c7_ret kX7_feigned rfl rfl (ff _ hv))⟩⟩⟩
    have srch : AJ L mX7_feigned 7 0 0 Q 133 (0, 0) 41 [some (.ref 0), some (.int (nI p)), some (.int (nI q)), some (.int (nI y))] [.int (nI q), .int (nI p), .ref 53] (clsW x xa D E T U) := by
      by_cases kn : x 5 = 1 ∧ x 6 = nI p ∧ x 7 = nI q
      · obtain ⟨k5, k6, k7⟩ := kn
        obtain ⟨p', q', hp', hq', e6, e7, e9⟩ := hF.2 k5
        obtain rfl : p' = p := by
          rw [k6] at e6
          exact ((nI_eq (by omega) (by omega)).mp e6).symm
        obtain rfl : q' = q := by
          rw [k7] at e7
          exact ((nI_eq (by omega) (by omega)).mp e7).symm
        have cc := cF_known L (x 6) (x 7) (x 8) (x 9) (x 10) (x 11) (x 12) (T 2) (U 2) (D 4) (E 4) (D 5) (E 5) (D 6) (E 6) (T 0) (U 0)
        rw [← k5] at cc
        rw [k6, k7] at cc
        rw [← k6, ← k7] at cc ⊢
        refine AJ.callX kX7_feigned cc bX1_search rfl (by decide +kernel) [53, 54, 55, 56, 57, 58, 59, 60, 61, 62, 63, 64, 65, 66, 67, 68, 69, 70, 71, 72, 73, 74, 75, 76, 77, 78, 79, 80, 81, 82, 83, 84, 85, 86, 87, 88, 89, 90, 91, 92, 93, 94, 95, 96, 97, 98, 99, 100, 101, 102, 3, 4, 5, 6, 7, 8, 9, 10, 11, 12] [] rfl rfl rfl rfl rfl rfl rfl (cls_wf rfl) rfl rfl ?_
        rintro r Y ⟨rfl, rfl⟩
        refine ⟨(clsW x xa D E T U), rfl, rfl, ?_⟩
        rw [k6, k7]
        exact aft x xa D E T U hC e9
      · have cc := cF_search L (fun r Y => r = none ∧ ∃ t ta d1 e1 d2 e2 d3 e3, Y = feB2 1 (nI q) p (finT V0 V1 V2 q) t ta d1 e1 d2 e2 d3 e3 (T 0) (U 0)) (x 5) (x 6) (x 7) (x 8) (x 9) (x 10) (x 11) (x 12) l m sp p kk u q V0 V1 V2 (toldP s) a (T 2) (U 2) (D 4) (E 4) (D 5) (E 5) (D 6) (E 6) (T 0) (U 0) hWd m24 hTt t1.symm t2.symm hp hfp hu (t1.trans eu) hkk ekk hq hfV hV0 hV1 hV2 (by
          rcases hF.1 with z | z
          · exact Or.inl z
          · right
            by_cases z6 : x 6 = nI p
            · right
              exact fun z7 => kn ⟨z, z6, z7⟩
            · exact Or.inl z6) (fun t ta d1 e1 d2 e2 d3 e3 => ⟨rfl, t, ta, d1, e1, d2, e2, d3, e3, rfl⟩)
        generalize finT V0 V1 V2 q = B at hB cc
        refine AJ.callX kX7_feigned cc bX1_search rfl (by decide +kernel) [53, 54, 55, 56, 57, 58, 59, 60, 61, 62, 63, 64, 65, 66, 67, 68, 69, 70, 71, 72, 73, 74, 75, 76, 77, 78, 79, 80, 81, 82, 83, 84, 85, 86, 87, 88, 89, 90, 91, 92, 93, 94, 95, 96, 97, 98, 99, 100, 101, 102, 3, 4, 5, 6, 7, 8, 9, 10, 11, 12] [] rfl rfl rfl rfl rfl rfl rfl (cls_wf rfl) rfl rfl ?_
        rintro r Y ⟨rfl, t, ta, d1, e1, d2, e2, d3, e3, rfl⟩
        refine ⟨(clsW (upd (upd (upd (upd (upd (upd (upd (upd x 5 1) 6 (nI p)) 7 (nI q)) 8 (nI B.1)) 9 (hoP B)) 10 B.2.1) 11 B.2.2.1) 12 B.2.2.2) xa (va_up (va_up (va_up D 4 d1) 5 d2) 6 d3) (va_up (va_up (va_up E 4 e1) 5 e2) 6 e3) (va_up T 2 t) (va_up U 2 ta)), rfl, rfl, ?_⟩
        refine aft _ _ _ _ _ _ (hC.feig hp hq hB t ta d1 d2 d3 e1 e2 e3) (fun w hw => ?_)
        rw [← hB w hw]
        rcases (show w = 0 ∨ w = 1 ∨ w = 2 ∨ w = 3 by omega) with rfl | rfl | rfl | rfl <;> rfl
    exact AJ.run kX7_feigned [14, 13, 34, 79, 87, 95, 103] 40 ⟨fun z => absurd z (nI_pos (by omega)), fun _ => ⟨fun z => absurd z (fun z2 => le_nlt.mp (nI_le hq (by omega)) z2), fun _ => ⟨fun z => absurd z (nI_pos (by omega)), fun _ => ⟨fun _ => srch, fun z => absurd (nI_le (b := 3) hy (by omega)) z⟩⟩⟩⟩
  · rw [if_neg cb] at hv
    refine AJ.run kX7_feigned [14, 13, 34, 79, 87, 95, 103] 40 ⟨fun _ => (c7_ret kX7_feigned rfl rfl (fin0 _ hv)), fun z1 => ⟨fun _ => (c7_ret kX7_feigned rfl rfl (fin0 _ hv)), fun z2 => ⟨fun _ => (c7_ret kX7_feigned rfl rfl (fin0 _ hv)), fun z3 => ⟨fun z4 => absurd ?_ cb, fun _ => (c7_ret kX7_feigned rfl rfl (fin0 _ hv))⟩⟩⟩⟩
    rw [Bool.and_eq_true]
    exact ⟨in_mid z1 z2, in_mid z3 (le_nlt.mp z4)⟩
