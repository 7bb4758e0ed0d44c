/-! ===== the class: two moods feigned ===== -/
set_option maxHeartbeats 2000000 in
theorem cF_two_in (L : xLn) (Q : Option Value → List xE → Prop) (n0 : Nat) (kn mo : Int32) (T : bT) (l m sp p k v y V0 : Nat) (V1 : Nat → Nat) (V2 : Nat → Nat → Nat) (s : xN) (a : Nat → xN) (d1 : xN) (e1 : Nat → xN) (u : xN) (ua : Nat → xN) (hW : WD l m sp s a) (hm : m ≤ 24) (hp : p < 8) (hf : hasP (s 7) (nI p) = true) (hv : v < 8) (hk : k < 3) (hkv : kindP (nI v) = nI k) (hy : y < 60) (hL : T.1 ≤ 60) (hT1 : ∀ y, y < 60 → T.1 ≤ V1 y) (hfV : fV V0 V1 V2) (hV1 : homV s (fA1 a m p k y) (m + 1) p (V1 y)) (hV2 : ∀ z, y < z → z < 60 → homV s (fA2 a m p k y z) (m + 2) p (V2 y z))
    (nxt : ∀ t ta d2 e2 d3 e3 (x : Int32), RT (m + 1) t ta s (fA1 a m p k y) → t 1 = nI v → AJ L mX1_tryTwo 5 0 0 Q n0 (0, 0) 157 [some (.ref 0), some (.int (nI y)), some (.int x)] [] (feB2 kn mo p (fo2i V2 y T (59 - y)) t ta d1 e1 d2 e2 d3 e3 u ua)) :
    ∀ (n i : Nat) (t : xN) (ta : Nat → xN) (d2 : xN) (e2 : Nat → xN) (d3 : xN) (e3 : Nat → xN), y + 1 + i + n = 60 → RT (m + 1) t ta s (fA1 a m p k y) → t 1 = nI v → RD (m + 1) (y + 1 + i) sp s (fA1 a m p k y) d2 e2 (dyL s (fA1 a m p k y) (m + 1) (y + 1 + i)) → AJ L mX1_tryTwo 5 0 0 Q n0 (0, 0) 72 [some (.ref 0), some (.int (nI y)), some (.int (nI (y + 1 + i)))] [] (feB2 kn mo p (fo2i V2 y T i) t ta d1 e1 d2 e2 d3 e3 u ua) := by
  have hW1 : WD l (m + 1) sp s (fA1 a m p k y) := WD_add hW (by omega) hp hf hk hy
  have l12 := hW.1.2.1
  have hI : ∀ n, n ≤ 60 → ID l (m + 1) n n s (fA1 a m p k y) (dyL s (fA1 a m p k y) (m + 1) n) := fun n hn => by
    have := ID_goL hW1 (ID_begin hW1 (fun _ => 0)) n (by omega)
    rw [Nat.zero_add] at this
    exact this
  have st : ∀ n, n < 60 → dyL s (fA1 a m p k y) (m + 1) (n + 1) = minP s (fA1 a m p k y) (m + 1) (dyL s (fA1 a m p k y) (m + 1) n) := fun n hn => goL_step hW1 (ID_begin hW1 _) (by omega)
  intro n
  induction n with
  | zero =>
    intro i t ta d2 e2 d3 e3 hi hT ht hR
    have le := fo2i_le (V2 := V2) (y := y) (T := T) i
    have hx := nxt t ta d2 e2 d3 e3 (nI (y + 1 + i)) hT ht
    rw [fV_in hfV hT1 hy (i := i) (Or.inl (by omega)) (by omega)] at hx
    exact AJ.run kX1_tryTwo [157] 30 ⟨fun _ => hx, fun w => absurd (nI_le (by omega) (by omega)) w⟩
  | succ n ih =>
    intro i t ta d2 e2 d3 e3 hi hT ht hR
    have le := fo2i_le (V2 := V2) (y := y) (T := T) i
    have e12 : upd t 12 (nI (m + 1)) = t := upd_id hT.1.2.2.2.2.2.2.2
    have hkd2 : kindP (t 1) = nI k := by rw [ht]; exact hkv
    have e8 : e2 8 p = if V1 y < y + 1 + i then nI (V1 y) else -1 := (hR.2.2.1.2 p hp).1.trans (hV1.2.2 _ (by omega))
    have ex : (fo2i V2 y T i).1 ≤ y + 1 + i ∨ V1 y < y + 1 + i → AJ L mX1_tryTwo 5 0 0 Q n0 (0, 0) 157 [some (.ref 0), some (.int (nI y)), some (.int (nI (y + 1 + i)))] [] (feB2 kn mo p (fo2i V2 y T i) t ta d1 e1 d2 e2 d3 e3 u ua) := fun w => by
      have hx := nxt t ta d2 e2 d3 e3 (nI (y + 1 + i)) hT ht
      rw [fV_in hfV hT1 hy w (by omega)] at hx
      exact hx
    refine AJ.run kX1_tryTwo [72, 157] 30 ⟨fun w => ex (Or.inl ?_), fun w => ⟨p, rfl, by omega, fun w2 => ex (Or.inr ?_), fun w2 => ?_⟩⟩
    · have w : nI (fo2i V2 y T i).1 ≤ nI (y + 1 + i) := w
      rcases Nat.lt_or_ge (y + 1 + i) (fo2i V2 y T i).1 with b | b
      · exact absurd w (nI_ge b (by omega))
      · exact b
    · by_cases c : V1 y < y + 1 + i
      · exact c
      · rw [if_neg c] at e8
        exact absurd e8 w2
    · refine AJ.callP kX1_tryTwo (cT_leastKind L t ta v hv ht) bX6_leastKind rfl (by decide +kernel) [1, 2, 3, 4, 5, 6, 7, 8, 9, 10] [.int (nI p), .ref 1] rfl rfl rfl rfl rfl rfl rfl rfl rfl rfl ?_
      rintro r rfl
      rw [hkd2]
      refine AJ.run kX1_tryTwo [72, 157] 30 ?_
      have ca := cT_addMood L t ta (m + 1) (y + 1 + i) (by omega) (by omega) (nI p) (nI k)
      rw [e12] at ca
      refine AJ.callX kX1_tryTwo ca bX6_addMood rfl (by decide +kernel) [1, 2, 3, 4, 5, 6, 7, 8, 9, 10] [] rfl rfl rfl rfl rfl rfl rfl rfl rfl rfl ?_
      rintro r Y ⟨rfl, rfl⟩
      refine ⟨(feB2 kn mo p (fo2i V2 y T i) (upd t 12 (nI (m + 1) + 1)) (tAdd ta (m + 1) (nI p) (nI k) (y + 1 + i)) d1 e1 d2 e2 d3 e3 u ua), rfl, rfl, ?_⟩
      have hTa : RT (m + 2) (upd t 12 (nI (m + 1) + 1)) (tAdd ta (m + 1) (nI p) (nI k) (y + 1 + i)) s (fA2 a m p k y (y + 1 + i)) := RT_add (by omega) (by omega) hT
      refine AJ.run kX1_tryTwo [72, 157] 30 ?_
      refine AJ.callX kX1_tryTwo (cD_copyFrom L d3 e3 d2 e2 (upd t 12 (nI (m + 1) + 1)) (tAdd ta (m + 1) (nI p) (nI k) (y + 1 + i))) bX0_copyFrom rfl (by decide +kernel) [37, 38, 39, 40, 41, 42, 43, 44, 45, 46, 47, 48, 49, 24, 25, 26, 27, 28, 29, 30, 31, 32, 33, 34, 35, 36, 1, 2, 3, 4, 5, 6, 7, 8, 9, 10] [] rfl rfl rfl rfl rfl rfl rfl rfl rfl rfl ?_
      rintro r Y ⟨rfl, rfl⟩
      refine ⟨(feB2 kn mo p (fo2i V2 y T i) (upd t 12 (nI (m + 1) + 1)) (tAdd ta (m + 1) (nI p) (nI k) (y + 1 + i)) d1 e1 d2 e2 d2 e2 u ua), rfl, rfl, ?_⟩
      have hW2 : WD l (m + 2) sp s (fA2 a m p k y (y + 1 + i)) := WD_add hW1 (by omega) hp hf hk (by omega)
      have hR1 : RD (m + 2) (y + 1 + i) sp s (fA2 a m p k y (y + 1 + i)) d2 e2 (dyL s (fA2 a m p k y (y + 1 + i)) (m + 2) (y + 1 + i)) := by
        unfold fA2
        rw [dyL_ext hW1 (by omega) hp hf hk (by omega) (Nat.le_refl _)]
        exact RD_ext (by omega) l12 (moX_add (m + 1) (fA1 a m p k y) (nI p) (nI k) (y + 1 + i)).1 (hI _ (by omega)) hR
      refine AJ.run kX1_tryTwo [72, 157] 30 ?_
      refine AJ.callF kX1_tryTwo (cF_tk3 L (fun r Y => r = none ∧ ∃ d' e', Y = (feB2 kn mo p (btN (V2 y (y + 1 + i)) 2 y (y + 1 + i) (fo2i V2 y T i)) (upd t 12 (nI (m + 1) + 1)) (tAdd ta (m + 1) (nI p) (nI k) (y + 1 + i)) d1 e1 d2 e2 d' e' u ua)) kn mo (fo2i V2 y T i) l (m + 2) sp (y + 1 + i) p (V2 y (y + 1 + i)) y (y + 1 + i) s (fA2 a m p k y (y + 1 + i)) (upd t 12 (nI (m + 1) + 1)) (tAdd ta (m + 1) (nI p) (nI k) (y + 1 + i)) d1 e1 d2 e2 d2 e2 u ua hW2 hTa hp (by omega) (by omega) (hV2 (y + 1 + i) (by omega) (by omega)) hR1 (fun d' e' => ⟨rfl, d', e', rfl⟩)) bX1_take rfl (by decide +kernel) [] rfl rfl rfl rfl rfl rfl rfl rfl ?_
      rintro r Y ⟨rfl, d3', e3', rfl⟩
      refine ⟨rfl, rfl, ?_⟩
      refine AJ.run kX1_tryTwo [72, 157] 30 ?_
      have cd := cT_dropLastMood L t (tAdd ta (m + 1) (nI p) (nI k) (y + 1 + i)) (m + 1) (y + 1 + i) (by omega) (by omega) pk_us
      rw [← nI_1 (m + 1)] at cd
      refine AJ.callX kX1_tryTwo cd bX6_dropLastMood rfl (by decide +kernel) [1, 2, 3, 4, 5, 6, 7, 8, 9, 10] [] rfl rfl rfl rfl rfl rfl rfl rfl rfl rfl ?_
      rintro r Y ⟨rfl, rfl⟩
      refine ⟨(feB2 kn mo p (btN (V2 y (y + 1 + i)) 2 y (y + 1 + i) (fo2i V2 y T i)) (upd t 12 (nI (m + 1))) (tDrop (tAdd ta (m + 1) (nI p) (nI k) (y + 1 + i)) (m + 1) (y + 1 + i)) d1 e1 d2 e2 d3' e3' u ua), rfl, rfl, ?_⟩
      have hTd := RT_drop (a' := (fA1 a m p k y)) (by omega) (by omega) hTa (moX_add (m + 1) (fA1 a m p k y) (nI p) (nI k) (y + 1 + i)).2 rfl rfl (fun j hj => ((moX_add (m + 1) (fA1 a m p k y) (nI p) (nI k) (y + 1 + i)).1.2.2 j hj).symm)
      rw [upd_upd, e12] at hTd
      rw [e12]
      refine AJ.run kX1_tryTwo [72, 157] 30 ?_
      refine AJ.callX kX1_tryTwo (cD_passMinute L d2 e2 t (tDrop (tAdd ta (m + 1) (nI p) (nI k) (y + 1 + i)) (m + 1) (y + 1 + i)) l (m + 1) sp (y + 1 + i) s (fA1 a m p k y) (dyL s (fA1 a m p k y) (m + 1) (y + 1 + i)) hW1 hTd (by omega) (hI _ (by omega)) hR) bX0_passMinute rfl (by decide +kernel) [24, 25, 26, 27, 28, 29, 30, 31, 32, 33, 34, 35, 36, 1, 2, 3, 4, 5, 6, 7, 8, 9, 10] [] rfl rfl rfl rfl rfl rfl rfl rfl rfl rfl ?_
      rintro r Y ⟨rfl, d2', e2', hR2, rfl⟩
      rw [← st _ (by omega)] at hR2
      refine ⟨(feB2 kn mo p (btN (V2 y (y + 1 + i)) 2 y (y + 1 + i) (fo2i V2 y T i)) t (tDrop (tAdd ta (m + 1) (nI p) (nI k) (y + 1 + i)) (m + 1) (y + 1 + i)) d1 e1 d2' e2' d3' e3' u ua), rfl, rfl, ?_⟩
      have n3 := ih (i + 1) t (tDrop (tAdd ta (m + 1) (nI p) (nI k) (y + 1 + i)) (m + 1) (y + 1 + i)) d2' e2' d3' e3' (by omega) hTd ht hR2
      rw [← Nat.add_assoc, nI_succ, fo2i] at n3
      exact AJ.run kX1_tryTwo [72] 30 n3
set_option maxHeartbeats 2000000 in
theorem cF_tryTwo (L : xLn) (Q : Option Value → List xE → Prop) (kn mo : Int32) (T : bT) (l m sp p k v V0 : Nat) (V1 : Nat → Nat) (V2 : Nat → Nat → Nat) (s : xN) (a : Nat → xN) (t : xN) (ta : Nat → xN) (d1 : xN) (e1 : Nat → xN) (d2 : xN) (e2 : Nat → xN) (d3 : xN) (e3 : Nat → xN) (u : xN) (ua : Nat → xN) (hW : WD l m sp s a) (hm : m ≤ 24) (hT : RT m t ta s a) (h30 : s 30 = t 1) (h31 : s 31 = t 2) (hp : p < 8) (hf : hasP (s 7) (nI p) = true) (hv : v < 8) (ht : t 1 = nI v) (hk : k < 3) (hkv : kindP (nI v) = nI k) (hL : T.1 ≤ 60) (hT1 : ∀ y, y < 60 → T.1 ≤ V1 y) (hfV : fV V0 V1 V2) (hV1 : ∀ y, y < 60 → homV s (fA1 a m p k y) (m + 1) p (V1 y)) (hV2 : ∀ y z, y < z → z < 60 → homV s (fA2 a m p k y z) (m + 2) p (V2 y z))
    (f : ∀ t' ta' d1 e1 d2 e2 d3 e3, Q none (feB2 kn mo p (fo2 V2 T 60) t' ta' d1 e1 d2 e2 d3 e3 u ua)) : CT L mX1_tryTwo 5 0 0 [.ref 0] (feB2 kn mo p T t ta d1 e1 d2 e2 d3 e3 u ua) Q := by
  refine CT.of rfl (Nat.le_of_ble_eq_true rfl) (Nat.le_of_ble_eq_true rfl) ?_
  refine AJ.run kX1_tryTwo [] 30 ?_
  refine AJ.callX kX1_tryTwo (cD_begin L d1 e1 t ta m sp s a (t 1) (t 2) (by have := hW.2.1; omega) hT h30 h31) bX0_begin rfl (by decide +kernel) [11, 12, 13, 14, 15, 16, 17, 18, 19, 20, 21, 22, 23, 1, 2, 3, 4, 5, 6, 7, 8, 9, 10] [] rfl rfl rfl rfl rfl rfl rfl rfl rfl rfl ?_
  rintro r Y ⟨rfl, db, eb, hRb, rfl⟩
  refine ⟨(feB2 kn mo p T t ta db eb d2 e2 d3 e3 u ua), rfl, rfl, ?_⟩
  have hRb := hRb (fun _ => 0)
  have hI : ∀ n, n ≤ 60 → ID l m n n s a (dyL s a m n) := fun n hn => by
    have := ID_goL hW (ID_begin hW (fun _ => 0)) n (by omega)
    rw [Nat.zero_add] at this
    exact this
  have st : ∀ n, n < 60 → dyL s a m (n + 1) = minP s a m (dyL s a m n) := fun n hn => goL_step hW (ID_begin hW _) (by omega)
  have l12 := hW.1.2.1
  have loop : ∀ (n y : Nat) (t : xN) (ta : Nat → xN) (d1 : xN) (e1 : Nat → xN) (d2 : xN) (e2 : Nat → xN) (d3 : xN) (e3 : Nat → xN) (x2 : Option Value), y + n = 60 → RT m t ta s a → t 1 = nI v → RD m y sp s a d1 e1 (dyL s a m y) → oI x2 → AJ L mX1_tryTwo 5 0 0 Q (feB2 kn mo p T t ta d1 e1 d2 e2 d3 e3 u ua).length (0, 0) 23 [some (.ref 0), some (.int (nI y)), x2] [] (feB2 kn mo p (fo2 V2 T y) t ta d1 e1 d2 e2 d3 e3 u ua) := by
    intro n
    induction n with
    | zero =>
      intro y t ta d1 e1 d2 e2 d3 e3 x2 hy hT ht hR hx2
      obtain rfl : y = 60 := by omega
      have le := fo2_le (V2 := V2) (T := T) 60
      have := f t ta d1 e1 d2 e2 d3 e3
      rcases hx2 with rfl | ⟨x, rfl⟩
      · exact AJ.run kX1_tryTwo [23] 30 ⟨fun _ => this, fun w => absurd (nI_le (by omega) (by omega)) w⟩
      · exact AJ.run kX1_tryTwo [23] 30 ⟨fun _ => this, fun w => absurd (nI_le (by omega) (by omega)) w⟩
    | succ n ih =>
      intro y t ta d1 e1 d2 e2 d3 e3 x2 hy hT ht hR hx2
      have le := fo2_le (V2 := V2) (T := T) y
      have e12 : upd t 12 (nI m) = t := upd_id hT.1.2.2.2.2.2.2.2
      have hkd2 : kindP (t 1) = nI k := by rw [ht]; exact hkv
      have hy60 : y < 60 := by omega
      have hW1 : WD l (m + 1) sp s (fA1 a m p k y) := WD_add hW (by omega) hp hf hk hy60
      have hTa : RT (m + 1) (upd t 12 (nI m + 1)) (tAdd ta m (nI p) (nI k) y) s (fA1 a m p k y) := RT_add (by omega) (by omega) hT
      -- behind the inner loop
      have g157 : ∀ t ta d2 e2 d3 e3 (x : Int32), RT (m + 1) t ta s (fA1 a m p k y) → t 1 = nI v → AJ L mX1_tryTwo 5 0 0 Q (feB2 kn mo p T t ta d1 e1 d2 e2 d3 e3 u ua).length (0, 0) 157 [some (.ref 0), some (.int (nI y)), some (.int x)] [] (feB2 kn mo p (fo2i V2 y (fo2 V2 T y) (59 - y)) t ta d1 e1 d2 e2 d3 e3 u ua) := by
        intro t ta d2 e2 d3 e3 x hT ht
        have f12 : upd t 12 (nI (m + 1)) = t := upd_id hT.1.2.2.2.2.2.2.2
        have h15 : ta 15 m = nI y := (hT.2.2.2.1 m (by omega)).2.2.trans (moX_add m a (nI p) (nI k) y).2
        have cd := cT_dropLastMood L t ta m y (by omega) (by omega) h15
        rw [f12] at cd
        refine AJ.run kX1_tryTwo [23] 30 ?_
        refine AJ.callX kX1_tryTwo cd bX6_dropLastMood rfl (by decide +kernel) [1, 2, 3, 4, 5, 6, 7, 8, 9, 10] [] rfl rfl rfl rfl rfl rfl rfl rfl rfl rfl ?_
        rintro r Y ⟨rfl, rfl⟩
        refine ⟨(feB2 kn mo p (fo2i V2 y (fo2 V2 T y) (59 - y)) (upd t 12 (nI m)) (tDrop ta m y) d1 e1 d2 e2 d3 e3 u ua), rfl, rfl, ?_⟩
        have hTd := RT_drop (a' := a) (by omega) (by omega) hT (moX_add m a (nI p) (nI k) y).2 rfl rfl (fun j hj => ((moX_add m a (nI p) (nI k) y).1.2.2 j hj).symm)
        refine AJ.run kX1_tryTwo [23] 30 ?_
        refine AJ.callX kX1_tryTwo (cD_passMinute L d1 e1 (upd t 12 (nI m)) (tDrop ta m y) l m sp y s a (dyL s a m y) hW hTd (by omega) (hI y (by omega)) hR) bX0_passMinute rfl (by decide +kernel) [11, 12, 13, 14, 15, 16, 17, 18, 19, 20, 21, 22, 23, 1, 2, 3, 4, 5, 6, 7, 8, 9, 10] [] rfl rfl rfl rfl rfl rfl rfl rfl rfl rfl ?_
        rintro r Y ⟨rfl, d1', e1', hR2, rfl⟩
        rw [← st y (by omega)] at hR2
        refine ⟨(feB2 kn mo p (fo2i V2 y (fo2 V2 T y) (59 - y)) (upd t 12 (nI m)) (tDrop ta m y) d1' e1' d2 e2 d3 e3 u ua), rfl, rfl, ?_⟩
        have n3 := ih (y + 1) (upd t 12 (nI m)) (tDrop ta m y) d1' e1' d2 e2 d3 e3 (some (.int x)) (by omega) hTd ht hR2 (Or.inr ⟨x, rfl⟩)
        rw [nI_succ] at n3
        exact AJ.run kX1_tryTwo [23] 30 n3
      have body : ∀ x2 : Option Value, oI x2 → AJ L mX1_tryTwo 5 0 0 Q (feB2 kn mo p T t ta d1 e1 d2 e2 d3 e3 u ua).length (0, 0) 43 [some (.ref 0), some (.int (nI y)), x2] [.ref 1, .int (nI p), .ref 1] (feB2 kn mo p (fo2 V2 T y) t ta d1 e1 d2 e2 d3 e3 u ua) := by
        intro x2 hx2
        have inn : ∀ x2 : Option Value, oI x2 → ∀ d2' e2', RD (m + 1) (y + 1) sp s (fA1 a m p k y) d2' e2' (dyL s (fA1 a m p k y) (m + 1) (y + 1)) → AJ L mX1_tryTwo 5 0 0 Q (feB2 kn mo p T t ta d1 e1 d2 e2 d3 e3 u ua).length (0, 0) 68 [some (.ref 0), some (.int (nI y)), x2] [] (feB2 kn mo p (fo2 V2 T y) (upd t 12 (nI m + 1)) (tAdd ta m (nI p) (nI k) y) d1 e1 d2' e2' d3 e3 u ua) := by
          intro x2 hx2 d2' e2' hR2
          have lp := cF_two_in L Q (feB2 kn mo p T t ta d1 e1 d2 e2 d3 e3 u ua).length kn mo (fo2 V2 T y) l m sp p k v y V0 V1 V2 s a d1 e1 u ua hW hm hp hf hv hk hkv hy60 (by omega) (fun y' hy' => Nat.le_trans le (hT1 y' hy')) hfV (hV1 y hy60) (fun z h1 h2 => hV2 y z h1 h2) g157 (59 - y) 0 (upd t 12 (nI m + 1)) (tAdd ta m (nI p) (nI k) y) d2' e2' d3 e3 (by omega) hTa ht hR2
          rw [Nat.add_zero, nI_succ] at lp
          rcases hx2 with rfl | ⟨x, rfl⟩
          · exact AJ.run kX1_tryTwo [72] 30 lp
          · exact AJ.run kX1_tryTwo [72] 30 lp
        have hR0 : RD (m + 1) y sp s (fA1 a m p k y) d1 e1 (dyL s (fA1 a m p k y) (m + 1) y) := by
          unfold fA1
          rw [dyL_ext hW (by omega) hp hf hk hy60 (Nat.le_refl _)]
          exact RD_ext (by omega) l12 (moX_add m a (nI p) (nI k) y).1 (hI y (by omega)) hR
        have hI1 : ID l (m + 1) y y s (fA1 a m p k y) (dyL s (fA1 a m p k y) (m + 1) y) := by
          have := ID_goL hW1 (ID_begin hW1 (fun _ => 0)) y (by omega)
          rw [Nat.zero_add] at this
          exact this
        have st1 : dyL s (fA1 a m p k y) (m + 1) (y + 1) = minP s (fA1 a m p k y) (m + 1) (dyL s (fA1 a m p k y) (m + 1) y) := goL_step hW1 (ID_begin hW1 _) (by omega)
        have ca := cT_addMood L t ta m y (by omega) (by omega) (nI p) (nI k)
        rw [e12] at ca
        rcases hx2 with rfl | ⟨x, rfl⟩
        · refine AJ.callP kX1_tryTwo (cT_leastKind L t ta v hv ht) bX6_leastKind rfl (by decide +kernel) [1, 2, 3, 4, 5, 6, 7, 8, 9, 10] [.int (nI p), .ref 1] rfl rfl rfl rfl rfl rfl rfl rfl rfl rfl ?_
          rintro r rfl
          rw [hkd2]
          refine AJ.run kX1_tryTwo [72] 30 ?_
          refine AJ.callX kX1_tryTwo ca bX6_addMood rfl (by decide +kernel) [1, 2, 3, 4, 5, 6, 7, 8, 9, 10] [] rfl rfl rfl rfl rfl rfl rfl rfl rfl rfl ?_
          rintro r Y ⟨rfl, rfl⟩
          refine ⟨(feB2 kn mo p (fo2 V2 T y) (upd t 12 (nI m + 1)) (tAdd ta m (nI p) (nI k) y) d1 e1 d2 e2 d3 e3 u ua), rfl, rfl, ?_⟩
          refine AJ.run kX1_tryTwo [72] 30 ?_
          refine AJ.callX kX1_tryTwo (cD_copyFrom L d2 e2 d1 e1 (upd t 12 (nI m + 1)) (tAdd ta m (nI p) (nI k) y)) bX0_copyFrom rfl (by decide +kernel) [24, 25, 26, 27, 28, 29, 30, 31, 32, 33, 34, 35, 36, 11, 12, 13, 14, 15, 16, 17, 18, 19, 20, 21, 22, 23, 1, 2, 3, 4, 5, 6, 7, 8, 9, 10] [] rfl rfl rfl rfl rfl rfl rfl rfl rfl rfl ?_
          rintro r Y ⟨rfl, rfl⟩
          refine ⟨(feB2 kn mo p (fo2 V2 T y) (upd t 12 (nI m + 1)) (tAdd ta m (nI p) (nI k) y) d1 e1 d1 e1 d3 e3 u ua), rfl, rfl, ?_⟩
          refine AJ.run kX1_tryTwo [72] 30 ?_
          refine AJ.callX kX1_tryTwo (cD_passMinute L d1 e1 (upd t 12 (nI m + 1)) (tAdd ta m (nI p) (nI k) y) l (m + 1) sp y s (fA1 a m p k y) (dyL s (fA1 a m p k y) (m + 1) y) hW1 hTa hy60 hI1 hR0) bX0_passMinute rfl (by decide +kernel) [24, 25, 26, 27, 28, 29, 30, 31, 32, 33, 34, 35, 36, 1, 2, 3, 4, 5, 6, 7, 8, 9, 10] [] rfl rfl rfl rfl rfl rfl rfl rfl rfl rfl ?_
          rintro r Y ⟨rfl, d2', e2', hR2, rfl⟩
          rw [← st1] at hR2
          exact ⟨(feB2 kn mo p (fo2 V2 T y) (upd t 12 (nI m + 1)) (tAdd ta m (nI p) (nI k) y) d1 e1 d2' e2' d3 e3 u ua), rfl, rfl, inn none (Or.inl rfl) d2' e2' hR2⟩
        · refine AJ.callP kX1_tryTwo (cT_leastKind L t ta v hv ht) bX6_leastKind rfl (by decide +kernel) [1, 2, 3, 4, 5, 6, 7, 8, 9, 10] [.int (nI p), .ref 1] rfl rfl rfl rfl rfl rfl rfl rfl rfl rfl ?_
          rintro r rfl
          rw [hkd2]
          refine AJ.run kX1_tryTwo [72] 30 ?_
          refine AJ.callX kX1_tryTwo ca bX6_addMood rfl (by decide +kernel) [1, 2, 3, 4, 5, 6, 7, 8, 9, 10] [] rfl rfl rfl rfl rfl rfl rfl rfl rfl rfl ?_
          rintro r Y ⟨rfl, rfl⟩
          refine ⟨(feB2 kn mo p (fo2 V2 T y) (upd t 12 (nI m + 1)) (tAdd ta m (nI p) (nI k) y) d1 e1 d2 e2 d3 e3 u ua), rfl, rfl, ?_⟩
          refine AJ.run kX1_tryTwo [72] 30 ?_
          refine AJ.callX kX1_tryTwo (cD_copyFrom L d2 e2 d1 e1 (upd t 12 (nI m + 1)) (tAdd ta m (nI p) (nI k) y)) bX0_copyFrom rfl (by decide +kernel) [24, 25, 26, 27, 28, 29, 30, 31, 32, 33, 34, 35, 36, 11, 12, 13, 14, 15, 16, 17, 18, 19, 20, 21, 22, 23, 1, 2, 3, 4, 5, 6, 7, 8, 9, 10] [] rfl rfl rfl rfl rfl rfl rfl rfl rfl rfl ?_
          rintro r Y ⟨rfl, rfl⟩
          refine ⟨(feB2 kn mo p (fo2 V2 T y) (upd t 12 (nI m + 1)) (tAdd ta m (nI p) (nI k) y) d1 e1 d1 e1 d3 e3 u ua), rfl, rfl, ?_⟩
          refine AJ.run kX1_tryTwo [72] 30 ?_
          refine AJ.callX kX1_tryTwo (cD_passMinute L d1 e1 (upd t 12 (nI m + 1)) (tAdd ta m (nI p) (nI k) y) l (m + 1) sp y s (fA1 a m p k y) (dyL s (fA1 a m p k y) (m + 1) y) hW1 hTa hy60 hI1 hR0) bX0_passMinute rfl (by decide +kernel) [24, 25, 26, 27, 28, 29, 30, 31, 32, 33, 34, 35, 36, 1, 2, 3, 4, 5, 6, 7, 8, 9, 10] [] rfl rfl rfl rfl rfl rfl rfl rfl rfl rfl ?_
          rintro r Y ⟨rfl, d2', e2', hR2, rfl⟩
          rw [← st1] at hR2
          exact ⟨(feB2 kn mo p (fo2 V2 T y) (upd t 12 (nI m + 1)) (tAdd ta m (nI p) (nI k) y) d1 e1 d2' e2' d3 e3 u ua), rfl, rfl, inn (some (.int x)) (Or.inr ⟨x, rfl⟩) d2' e2' hR2⟩
      have fin : (fo2 V2 T y).1 ≤ y → Q none (feB2 kn mo p (fo2 V2 T y) t ta d1 e1 d2 e2 d3 e3 u ua) := fun w => by
        have := f t ta d1 e1 d2 e2 d3 e3
        rw [fV_two hfV hT1 w (by omega)] at this
        exact this
      have hle : nI (fo2 V2 T y).1 ≤ nI y → (fo2 V2 T y).1 ≤ y := fun w => by
        rcases Nat.lt_or_ge y (fo2 V2 T y).1 with b | b
        · exact absurd w (nI_ge b (by omega))
        · exact b
      rcases hx2 with rfl | ⟨x, rfl⟩
      · exact AJ.run kX1_tryTwo [23] 30 ⟨fun w => fin (hle w), fun _ => body _ (Or.inl rfl)⟩
      · exact AJ.run kX1_tryTwo [23] 30 ⟨fun w => fin (hle w), fun _ => body _ (Or.inr ⟨x, rfl⟩)⟩
  exact AJ.run kX1_tryTwo [23] 30 (loop 60 0 t ta db eb d2 e2 d3 e3 none (by omega) hT ht hRb (Or.inl rfl))
