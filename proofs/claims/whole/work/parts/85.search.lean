/-! ===== the class: the best of all ===== -/
def beT (V0 : Nat) : bT := btN V0 0 0 0 (60, -1, -1, -1)
def finT (V0 : Nat) (V1 : Nat → Nat) (V2 : Nat → Nat → Nat) (n : Nat) : bT := if 1 < n then fo2 V2 (fo1 V1 (beT V0) 60) 60 else if 0 < n then fo1 V1 (beT V0) 60 else beT V0
theorem cF_known (L : xLn) (pe mo li ho us fi se : Int32) (t : xN) (ta : Nat → xN) (d1 : xN) (e1 : Nat → xN) (d2 : xN) (e2 : Nat → xN) (d3 : xN) (e3 : Nat → xN) (u : xN) (ua : Nat → xN) : CT L mX1_search 6 0 0 [.ref 0, .int pe, .int mo] (feW 1 pe mo li ho us fi se t ta d1 e1 d2 e2 d3 e3 u ua) (eqQ none (feW 1 pe mo li ho us fi se t ta d1 e1 d2 e2 d3 e3 u ua)) := by
  refine CT.of rfl (Nat.le_of_ble_eq_true rfl) (Nat.le_of_ble_eq_true rfl) ?_
  exact AJ.run kX1_search [] 30 ⟨fun w => absurd w (by decide), fun _ => ⟨fun w => absurd rfl w, fun _ => ⟨fun w => absurd rfl w, fun _ => ⟨rfl, rfl⟩⟩⟩⟩
set_option maxHeartbeats 2000000 in
theorem cF_search (L : xLn) (Q : Option Value → List xE → Prop) (kn pe mo li ho us fi se : Int32) (l m sp p k v n V0 : Nat) (V1 : Nat → Nat) (V2 : Nat → Nat → Nat) (s : xN) (a : Nat → xN) (t : xN) (ta : Nat → xN) (d1 : xN) (e1 : Nat → xN) (d2 : xN) (e2 : Nat → xN) (d3 : xN) (e3 : Nat → xN) (u : xN) (ua : Nat → xN) (hW : WD l m sp s a) (hm : m ≤ 24) (hT : RT m u ua s a) (h30 : s 30 = u 1) (h31 : s 31 = u 2) (hp : p < 8) (hf : hasP (s 7) (nI p) = true) (hv : v < 8) (ht : u 1 = nI v) (hk : k < 3) (hkv : kindP (nI v) = nI k) (hn : n ≤ 2) (hfV : fV V0 V1 V2) (hV0 : homV s a m p V0) (hV1 : ∀ y, y < 60 → homV s (fA1 a m p k y) (m + 1) p (V1 y)) (hV2 : ∀ y z, y < z → z < 60 → homV s (fA2 a m p k y z) (m + 2) p (V2 y z)) (hkn : kn = 0 ∨ ¬ pe = nI p ∨ ¬ mo = nI n)
    (f : ∀ t ta d1 e1 d2 e2 d3 e3, Q none (feB2 1 (nI n) p (finT V0 V1 V2 n) t ta d1 e1 d2 e2 d3 e3 u ua)) : CT L mX1_search 6 0 0 [.ref 0, .int (nI p), .int (nI n)] (feW kn pe mo li ho us fi se t ta d1 e1 d2 e2 d3 e3 u ua) Q := by
  have b0 := btN_1 V0 0 0 0 ((60, -1, -1, -1) : bT)
  have b0 : (beT V0).1 ≤ 60 ∧ (beT V0).1 ≤ V0 := b0
  have b1 := fo1_le (V1 := V1) (T := beT V0) 60
  refine CT.of rfl (Nat.le_of_ble_eq_true rfl) (Nat.le_of_ble_eq_true rfl) ?_
  obtain ⟨n0, hn0⟩ : ∃ n0, n0 = (feW kn pe mo li ho us fi se t ta d1 e1 d2 e2 d3 e3 u ua).length := ⟨_, rfl⟩
  rw [← hn0]
  clear hn0
  have g104 : ∀ (T : bT) t ta d1 e1 d2 e2 d3 e3, T = finT V0 V1 V2 n → AJ L mX1_search 6 0 0 Q n0 (0, 0) 104 [some (.ref 0), some (.int (nI p)), some (.int (nI n))] [] (feB2 1 (nI n) p T t ta d1 e1 d2 e2 d3 e3 u ua) := by
    rintro T t ta d1 e1 d2 e2 d3 e3 rfl
    exact AJ.run kX1_search [] 30 (f t ta d1 e1 d2 e2 d3 e3)
  have g92 : ∀ (T : bT) t ta d1 e1 d2 e2 d3 e3, T = (if 0 < n then fo1 V1 (beT V0) 60 else beT V0) → RT m t ta s a → t 1 = nI v → t 2 = u 2 → AJ L mX1_search 6 0 0 Q n0 (0, 0) 92 [some (.ref 0), some (.int (nI p)), some (.int (nI n))] [] (feB2 1 (nI n) p T t ta d1 e1 d2 e2 d3 e3 u ua) := by
    intro T t ta d1 e1 d2 e2 d3 e3 hTT hT ht ht2
    refine AJ.run kX1_search [104] 30 ⟨fun w => ?_, fun w => ?_⟩
    · have w : nI n < nI 2 := w
      rw [nI_ltI (by omega) (by omega)] at w
      exact g104 T t ta d1 e1 d2 e2 d3 e3 (by rw [hTT, finT, if_neg (by omega : ¬ 1 < n)])
    · have w : ¬ nI n < nI 2 := w
      rw [nI_ltI (by omega) (by omega)] at w
      rw [if_pos (by omega)] at hTT
      refine AJ.callF kX1_search (cF_tryTwo L (fun r Y => r = none ∧ ∃ t ta d1 e1 d2 e2 d3 e3, Y = (feB2 1 (nI n) p (fo2 V2 T 60) t ta d1 e1 d2 e2 d3 e3 u ua)) 1 (nI n) T l m sp p k v V0 V1 V2 s a t ta d1 e1 d2 e2 d3 e3 u ua hW hm hT (by rw [h30, ht]; assumption) (by rw [h31, ht2]) hp hf hv ht hk hkv (by rw [hTT]; omega) (by rw [hTT]; exact fun y hy => b1.2 y hy) hfV hV1 hV2 (fun t ta d1 e1 d2 e2 d3 e3 => ⟨rfl, t, ta, d1, e1, d2, e2, d3, e3, rfl⟩)) bX1_tryTwo rfl (by decide +kernel) [] rfl rfl rfl rfl rfl rfl rfl rfl ?_
      rintro r Y ⟨rfl, t, ta, d1, e1, d2, e2, d3, e3, rfl⟩
      refine ⟨rfl, rfl, ?_⟩
      exact g104 (fo2 V2 T 60) t ta d1 e1 d2 e2 d3 e3 (by rw [hTT, finT, if_pos (by omega : 1 < n)])
  have g80 : ∀ d1 e1 d2 e2 d3 e3, AJ L mX1_search 6 0 0 Q n0 (0, 0) 80 [some (.ref 0), some (.int (nI p)), some (.int (nI n))] [] (feB2 1 (nI n) p (beT V0) u ua d1 e1 d2 e2 d3 e3 u ua) := by
    intro d1 e1 d2 e2 d3 e3
    refine AJ.run kX1_search [92] 30 ⟨fun w => ?_, fun w => ?_⟩
    · have w : nI n < nI 1 := w
      rw [nI_ltI (by omega) (by omega)] at w
      exact g92 _ u ua d1 e1 d2 e2 d3 e3 (by rw [if_neg (by omega)]) hT ht rfl
    · have w : ¬ nI n < nI 1 := w
      rw [nI_ltI (by omega) (by omega)] at w
      refine AJ.callF kX1_search (cF_tryOne L (fun r Y => r = none ∧ ∃ t ta d1 e1 d2 e2, (RT m t ta s a ∧ t 1 = nI v ∧ t 2 = u 2) ∧ Y = (feB2 1 (nI n) p (fo1 V1 (beT V0) 60) t ta d1 e1 d2 e2 d3 e3 u ua)) 1 (nI n) (beT V0) l m sp p k v V0 V1 V2 s a u ua d1 e1 d2 e2 d3 e3 u ua hW hm hT h30 h31 hp hf hv ht hk (by rw [ht]; exact hkv) b0.1 b0.2 hfV hV1 (fun t ta d1 e1 d2 e2 hT' => ⟨rfl, t, ta, d1, e1, d2, e2, ⟨hT', by rw [hT'.1.2.1, ← hT.1.2.1]; exact ht, by rw [hT'.1.2.2.1, ← hT.1.2.2.1]⟩, rfl⟩)) bX1_tryOne rfl (by decide +kernel) [] rfl rfl rfl rfl rfl rfl rfl rfl ?_
      rintro r Y ⟨rfl, t, ta, d1, e1, d2, e2, ⟨hT', ht', ht2'⟩, rfl⟩
      refine ⟨rfl, rfl, ?_⟩
      exact g92 (fo1 V1 (beT V0) 60) t ta d1 e1 d2 e2 d3 e3 (by rw [if_pos (by omega)]) hT' ht' ht2'
  have g50 : AJ L mX1_search 6 0 0 Q n0 (0, 0) 50 [some (.ref 0), some (.int (nI p)), some (.int (nI n))] [] (feW 1 (nI p) (nI n) li ho us fi se u ua d1 e1 d2 e2 d3 e3 u ua) := by
    have g76 : AJ L mX1_search 6 0 0 Q n0 (0, 0) 76 [some (.ref 0), some (.int (nI p)), some (.int (nI n))] [] (feB2 1 (nI n) p ((60, -1, -1, -1) : bT) u ua d1 e1 d2 e2 d3 e3 u ua) := by
      refine AJ.run kX1_search [] 30 ?_
      refine AJ.callF kX1_search (cF_tryNone L (fun r Y => r = none ∧ ∃ d1 e1, Y = (feB2 1 (nI n) p (btN V0 0 0 0 ((60, -1, -1, -1) : bT)) u ua d1 e1 d2 e2 d3 e3 u ua)) 1 (nI n) ((60, -1, -1, -1) : bT) l m sp p V0 s a u ua d1 e1 d2 e2 d3 e3 u ua hW hT h30 h31 hp (Nat.le_refl _) hV0 (fun d' e' => ⟨rfl, d', e', rfl⟩)) bX1_tryNone rfl (by decide +kernel) [] rfl rfl rfl rfl rfl rfl rfl rfl ?_
      rintro r Y ⟨rfl, d', e', rfl⟩
      exact ⟨rfl, rfl, g80 d' e' d2 e2 d3 e3⟩
    exact AJ.run kX1_search [76] 60 g76
  have g24 : AJ L mX1_search 6 0 0 Q n0 (0, 0) 24 [some (.ref 0), some (.int (nI p)), some (.int (nI n))] [] (feW kn pe mo li ho us fi se t ta d1 e1 d2 e2 d3 e3 u ua) := by
    refine AJ.run kX1_search [] 60 ⟨Or.inr rfl, ?_⟩
    refine AJ.callX kX1_search (cT_copyFrom L t ta u ua) bX6_copyFrom rfl (by decide +kernel) [1, 2, 3, 4, 5, 6, 7, 8, 9, 10, 50, 51, 52, 53, 54, 55, 56, 57, 58, 59] [] rfl rfl rfl rfl rfl rfl rfl rfl rfl rfl ?_
    rintro r Y ⟨rfl, rfl⟩
    exact ⟨(feW 1 (nI p) (nI n) li ho us fi se u ua d1 e1 d2 e2 d3 e3 u ua), rfl, rfl, g50⟩
  refine AJ.run kX1_search [24] 30 ⟨fun _ => g24, fun w => ⟨fun _ => g24, fun w1 => ⟨fun _ => g24, fun w2 => ?_⟩⟩⟩
  rcases hkn with z | z | z
  · exact absurd z w
  · exact absurd w1 z
  · exact absurd w2 z
/-! ===== the reference's best ===== -/
theorem feV_of {s : xN} {a a' : Nat → xN} {m p q y z V : Nat} (h6 : a' 6 = a 6) (h8 : a' 8 = a 8) (h10 : a' 10 = feM (a 10) m (nI p) (kindP (s 1)) y z q) (hV : homV (toldP s) a' (m + q) p V) : feV s a m p q y z = nI V := by
  unfold feV
  have e : dq (feS s m q) (feA s a m p y z q) (m + q) = dq (toldP s) a' (m + q) := dq_congr (s := toldP s) (a := a') (s' := feS s m q) (a' := feA s a m p y z q) ⟨⟨rfl, rfl, rfl, rfl, rfl, rfl, rfl⟩, h6.symm, h8.symm, h10.symm⟩ (m + q)
  rw [e]
  exact hV.2.1
theorem fei_R {V : Nat → Nat → Nat → Int32} {V0 : Nat} {V1 : Nat → Nat} {V2 : Nat → Nat → Nat} (h0 : V 0 0 0 = nI V0 ∧ V0 ≤ 60) (h1 : ∀ i, i < 60 → V 1 i 0 = nI (V1 i) ∧ V1 i ≤ 60) (h2 : ∀ y z, y < z → z < 60 → V 2 y z = nI (V2 y z) ∧ V2 y z ≤ 60) (n : Nat) (b : xN) : bR (feB V n b) (finT V0 V1 V2 n) := by
  have r0 : bR (fe0 b) (60, -1, -1, -1) := ⟨Nat.le_refl _, rfl, rfl, rfl, rfl, fun _ => rfl⟩
  have r1 : bR (bstP (V 0 0 0) 0 0 0 (fe0 b)) (beT V0) := by
    rw [h0.1]
    exact bst_N r0 h0.2
  unfold feB finT
  by_cases c1 : 1 < n
  · rw [if_pos c1, if_pos c1]
    exact fo2_R (fo1_R r1 h1 60 (by omega)) h2 60 (by omega)
  · rw [if_neg c1, if_neg c1]
    by_cases c0 : 0 < n
    · rw [if_pos c0, if_pos c0]
      exact fo1_R r1 h1 60 (by omega)
    · rw [if_neg c0, if_neg c0]
      exact r1
def ansT (T : bT) (w : Nat) : Int32 := if w = 0 then hoP T else if w = 1 then T.2.1 else if w = 2 then T.2.2.1 else T.2.2.2
theorem fei_ans {V : Nat → Nat → Nat → Int32} {n w : Nat} {b : xN} {T : bT} (hw : w < 4) (h : bR (feB V n b) T) : feiP V n w b = ansT T w := by
  obtain ⟨h60, h0, h1, h2, h3, h4⟩ := h
  unfold feiP
  generalize feB V n b = B at *
  rw [h0]
  have e : (nI T.1 = 60) ↔ T.1 = 60 := nI_eq (b := 60) (by omega) (by omega)
  by_cases c : T.1 = 60
  · rw [if_pos (e.mpr c)]
    obtain ⟨T1, T2, T3, T4⟩ := T
    have h4 := h4 c
    have c : T1 = 60 := c
    subst c
    cases h4
    rcases (show w = 0 ∨ w = 1 ∨ w = 2 ∨ w = 3 by omega) with rfl | rfl | rfl | rfl <;> rfl
  · rw [if_neg (fun z => c (e.mp z))]
    rcases (show w = 0 ∨ w = 1 ∨ w = 2 ∨ w = 3 by omega) with rfl | rfl | rfl | rfl
    · rw [h0]; show nI T.1 = hoP T; rw [hoP, if_neg c]
    · exact h1
    · exact h2
    · exact h3
