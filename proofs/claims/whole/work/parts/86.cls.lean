/-! ===== the class as a whole: its cells, and what stands between it and the reference ===== -/
def clsW (x : xN) (xa : Nat → xN) (D : Nat → xN) (E : Nat → Nat → xN) (T : Nat → xN) (U : Nat → Nat → xN) : List xE :=
  [.inr (.inr (7, [.ref 1, .ref 3, .ref 13, .ref 25, .ref 38, .ref 51, .ref 52, .ref 53, .ref 103])), .inr (.inr (5, [.ref 2, .int (x 0)])), .inl (0, 200, xa 0)] ++ (tolW 3 (T 0) (U 0) ++
  (.inr (.inr (4, [.ref 1, .ref 3, .ref 14, .ref 24, .int (x 1), .int (x 2), .int (x 3), .int (x 4)])) :: (tolW 14 (T 1) (U 1) ++ (.inl (0, 4, xa 1) :: (dayW 25 3 (D 0) (E 0) ++ (dayW 38 3 (D 1) (E 1) ++
  (.inr (.inl [some 107, some 120]) :: .inl (1, 2, xa 2) :: .inr (.inr (1, [.ref 3, .ref 54, .ref 64, .ref 77, .ref 90, .int (x 5), .int (x 6), .int (x 7), .int (x 8), .int (x 9), .int (x 10), .int (x 11), .int (x 12)])) :: (tolW 54 (T 2) (U 2) ++ (dayW 64 54 (D 4) (E 4) ++ (dayW 77 54 (D 5) (E 5) ++ (dayW 90 54 (D 6) (E 6) ++
  (.inr (.inr (3, [.ref 38, .ref 104, .ref 105, .int (x 13), .int (x 14), .int (x 15), .int (x 16), .int (x 17), .ref 106])) :: .inl (0, 8, xa 3) :: .inl (0, 8, xa 4) :: .inl (0, 3, xa 5) :: (dayW 107 3 (D 2) (E 2) ++ dayW 120 3 (D 3) (E 3))))))))))))))
set_option maxRecDepth 100000 in
theorem cls_len (x : xN) (xa : Nat → xN) (D : Nat → xN) (E : Nat → Nat → xN) (T : Nat → xN) (U : Nat → Nat → xN) : (clsW x xa D E T U).length = 133 := rfl
set_option maxRecDepth 100000 in
theorem cls_ok (x : xN) (xa : Nat → xN) (D : Nat → xN) (E : Nat → Nat → xN) (T : Nat → xN) (U : Nat → Nat → xN) : (clsW x xa D E T U).all (xoke 133) = true := rfl
theorem cls_wf {x : xN} {xa : Nat → xN} {D : Nat → xN} {E : Nat → Nat → xN} {T : Nat → xN} {U : Nat → Nat → xN} {ls : List (Option Value)} {rest : List Value} (h : (ls.all (fun o => match o with | none => true | some v => xokv 133 v) && rest.all (xokv 133) && Nat.ble (rest.map fun v => v.category).sum 8) = true) : xwf (clsW x xa D E T U) ls rest = true := by
  unfold xwf
  rw [cls_len, cls_ok, Bool.true_and]
  exact h
/-- a day as it stands, in both -/
def DAY (l m sp g : Nat) (s : xN) (a : Nat → xN) (d : xN) (e : Nat → xN) (N : xN) : Prop := ID l m g g (toldP s) a N ∧ RD m g sp (toldP s) a d e N
def FK (m : Nat) (x s : xN) (a : Nat → xN) : Prop := ∃ p q, p < 8 ∧ q ≤ 2 ∧ x 6 = nI p ∧ x 7 = nI q ∧ ∀ w, w < 4 → x (9 + w) = feiP (feV s a m p) q w (fun _ => 0)
def RK (m c : Nat) (x : xN) (xa : Nat → xN) (s : xN) (a : Nat → xN) : Prop := x 15 = nI (mnS (fitP s a m c) 210) ∧ x 16 = fkS (fitP s a m c) 210 ∧ x 17 = fsS (fitP s a m c) 210 ∧ ∀ k, k < 3 → xa 5 k = hkS (fitP s a m c) k 210
def CI (l m sp n c : Nat) (x : xN) (xa : Nat → xN) (D : Nat → xN) (E : Nat → Nat → xN) (T : Nat → xN) (U : Nat → Nat → xN) (s : xN) (a : Nat → xN) : Prop :=
  (WT l m s a ∧ RT m (T 0) (U 0) s a ∧ s 2 = nI sp ∧ 1 ≤ sp ∧ sp ≤ 30) ∧
  (n ≤ 200 ∧ s 13 = nI n ∧ x 0 = nI n ∧ ∀ i, i < n → xa 0 i = a 14 i) ∧
  (c ≤ 8 ∧ s 11 = nI c ∧ x 13 = nI c ∧ ∀ i, i < c → xa 3 i = a 12 (2 * i) ∧ xa 4 i = a 12 (2 * i + 1) ∧ ∃ t, t < 60 ∧ a 12 (2 * i + 1) = nI t) ∧
  (∃ g, DAY l m sp g s a (D 0) (E 0) (a 26)) ∧
  (∀ k, k < 2 → xa 2 k = a 29 k ∧ (a 29 k = 0 ∨ a 29 k = 1) ∧ (a 29 k = 1 → ∃ g, DAY l m sp g s a (D (2 + k)) (E (2 + k)) (fun i => a 28 (573 * k + i)))) ∧
  ((x 5 = 0 ∨ x 5 = 1) ∧ (x 5 = 1 → FK m x s a)) ∧ ((x 14 = 0 ∨ x 14 = 1) ∧ (x 14 = 1 → RK m c x xa s a))
def CJ (x : xN) (xa : Nat → xN) (D : Nat → xN) (E : Nat → Nat → xN) (T : Nat → xN) (U : Nat → Nat → xN) (s : xN) (a : Nat → xN) : Prop := ∃ l m sp n c, CI l m sp n c x xa D E T U s a
/-! ===== what counts of the reference is kept ===== -/
theorem ID_cg {l m g : Nat} {s s' : xN} {a a' : Nat → xN} {N N' : xN} (hm : m ≤ 26) (h : ID l m g g s a N) (hs : ∀ i, i < 8 → s' i = s i) (h8 : a' 8 = a 8) (h10 : ∀ i, i < 3 * m → a' 10 i = a 10 i) (hN : ∀ i, i < 573 → N' i = N i) : ID l m g g s' a' N' := by
  obtain ⟨hA, hP, hM, hH⟩ := h
  obtain ⟨hh, hb⟩ := hH.b hm
  refine ⟨?_, ?_, ?_, ?_⟩
  · have := hA.same (B := N') (fun i hi => hN i (by omega))
    unfold IVa at this ⊢
    rw [hs 5 (by omega)]
    exact this
  · have := hP.same (B := N') (fun i _ hi => hN i (by omega))
    intro q hq
    have := this q hq
    rw [hs 5 (by omega), hs 7 (by omega), h8]
    exact this
  · have := hM.same (B := N') (fun i _ hi => hN i (by omega))
    intro k hk
    obtain ⟨m1, m2, m3, m4, m5⟩ := this k hk
    exact ⟨m1, m2, m3, m4, fun z t h1 h2 h3 => m5 z t h1 h2 (by rw [← h10 _ (by omega)]; exact h3)⟩
  · obtain ⟨h, h1, h2, h3, h4⟩ := hH
    have hle : h ≤ 26 := by rw [h2]; exact Nat.le_trans (cntB_le _ _) hm
    refine ⟨h, by rw [hN 7 (by omega), hN 8 (by omega)]; exact h1, by rw [h2]; exact cntB_congr m (fun i hi => by rw [hN (67 + i) (by omega)]), fun k hk => ?_, fun i hi => ?_⟩
    · rw [hN (7 + k) (by omega), h3 k hk]
      exact congrArg nI (cntB_congr h (fun i hi => by rw [hN (93 + 4 * i) (by omega)]))
    · rw [hN (93 + 4 * i + 3) (by omega), hN (93 + 4 * i + 2) (by omega)]
      exact h4 i hi
theorem RD_cg {l m g sp : Nat} {s s' : xN} {a a' : Nat → xN} {d : xN} {e : Nat → xN} {N N' : xN} (hm : m ≤ 26) (hI : ID l m g g s a N) (h : RD m g sp s a d e N) (h30 : s' 30 = s 30) (h31 : s' 31 = s 31) (h10 : ∀ i, i < 3 * m → a' 10 i = a 10 i) (hN : ∀ i, i < 573 → N' i = N i) : RD m g sp s' a' d e N' := by
  obtain ⟨hL, hA, hP, hF, hH⟩ := h
  obtain ⟨k, k1, k2⟩ := hI.2.2.2.b hm
  refine ⟨⟨by rw [h30]; exact hL.1, by rw [h31]; exact hL.2⟩, hA.same (fun i hi => hN i (by omega)), hP.same (fun i _ hi => hN i (by omega)), ?_, ?_⟩
  · have := hF.same (B := N') hm (fun i _ hi => hN i (by omega))
    refine ⟨this.1, this.2.1, fun k hk => ?_⟩
    rw [this.2.2 k hk, h30]
    by_cases hkm : k < m
    · rw [h10 _ (by omega), h10 _ (by omega)]
    · simp [hkm]
  · have e1 : N' 7 + N' 8 = N 7 + N 8 := by rw [hN 7 (by omega), hN 8 (by omega)]
    refine ⟨by rw [e1]; exact hH.1, fun i hi => ?_⟩
    have hi2 : i < hmP N := by
      unfold hmP at hi ⊢
      rw [e1] at hi
      exact hi
    have hi3 : i < 26 := by
      rw [hm_nI k1 (by omega)] at hi2
      omega
    rw [hN _ (by omega), hN _ (by omega), hN _ (by omega), hN _ (by omega)]
    exact hH.2 i hi2
theorem toldP_30 (s : xN) : toldP s 30 = s 1 ∧ toldP s 31 = s 2 ∧ toldP s 32 = s 9 := ⟨rfl, rfl, rfl⟩
theorem DAY_cg {l m sp g : Nat} {s s' : xN} {a a' : Nat → xN} {d : xN} {e : Nat → xN} {N N' : xN} (hm : m ≤ 26) (h : DAY l m sp g s a d e N) (hs : ∀ i, i < 10 → s' i = s i) (h8 : a' 8 = a 8) (h10 : ∀ i, i < 3 * m → a' 10 i = a 10 i) (hN : ∀ i, i < 573 → N' i = N i) : DAY l m sp g s' a' d e N' :=
  ⟨ID_cg hm h.1 (fun i hi => by rw [toldP_lo s' (by omega), toldP_lo s (by omega)]; exact hs i (by omega)) h8 h10 hN, RD_cg hm h.1 h.2 (hs 1 (by omega)) (hs 2 (by omega)) h10 hN⟩
theorem fe_cg {V V' : Nat → Nat → Nat → Int32} (h : ∀ q y z, q ≤ 2 → V q y z = V' q y z) (n : Nat) (b : xN) : feB V n b = feB V' n b := by
  have h1 : ∀ b i, fe1 V b i = fe1 V' b i := by
    intro b i
    induction i with
    | zero => rfl
    | succ i ih => rw [fe1, fe1, ih, h 1 i 0 (by omega)]
  have h2i : ∀ y b i, fe2i V y b i = fe2i V' y b i := by
    intro y b i
    induction i with
    | zero => rfl
    | succ i ih => rw [fe2i, fe2i, ih, h 2 _ _ (by omega)]
  have h2 : ∀ b y, fe2 V b y = fe2 V' b y := by
    intro b y
    induction y with
    | zero => rfl
    | succ y ih => rw [fe2, fe2, ih, h2i]
  unfold feB
  rw [h 0 0 0 (by omega), h1, h2]
theorem fei_cg {V V' : Nat → Nat → Nat → Int32} (h : ∀ q y z, q ≤ 2 → V q y z = V' q y z) (n w : Nat) (b : xN) : feiP V n w b = feiP V' n w b := by
  unfold feiP
  rw [fe_cg h]
theorem fitP_kept {m c : Nat} {s s' : xN} {a a' : Nat → xN} (hm : m ≤ 24) (hK : keptM m s a s' a') : fitP s' a' m c = fitP s a m c := by
  funext t
  obtain ⟨k1, ⟨k6, k8, k12, -, -, -⟩, k10, -⟩ := hK
  have e : dq (lwS s' (30 + t)) a' m = dq (lwS s (30 + t)) a m := dq_mo (by omega) ⟨⟨by rw [lwS_lo s' _ (by omega), lwS_lo s _ (by omega)]; exact k1 0 (by omega), by rw [lwS_lo s' _ (by omega), lwS_lo s _ (by omega)]; exact k1 3 (by omega), by rw [lwS_lo s' _ (by omega), lwS_lo s _ (by omega)]; exact k1 4 (by omega), by rw [lwS_lo s' _ (by omega), lwS_lo s _ (by omega)]; exact k1 5 (by omega), by rw [lwS_lo s' _ (by omega), lwS_lo s _ (by omega)]; exact k1 7 (by omega), rfl, rfl⟩, k6, k8, k10⟩
  unfold fitP
  rw [e, k12]
theorem CI.kept {l m sp n c : Nat} {x : xN} {xa : Nat → xN} {D : Nat → xN} {E : Nat → Nat → xN} {T : Nat → xN} {U : Nat → Nat → xN} {s s' : xN} {a a' : Nat → xN} (h : CI l m sp n c x xa D E T U s a) (hK : keptM m s a s' a') : CI l m sp n c x xa D E T U s' a' := by
  obtain ⟨⟨hW, hT, h2, h3, h4⟩, ⟨n1, n2, n3, n4⟩, ⟨c1, c2, c3, c4⟩, ⟨g, hD⟩, hk, ⟨f1, f2⟩, ⟨r1, r2⟩⟩ := h
  have hm := hW.2.1.1
  have fk := fitP_kept (c := c) hm hK
  have fv : ∀ p, ∀ q y z, q ≤ 2 → feV s' a' m p q y z = feV s a m p q y z := fun p q y z hq => by
    unfold feV
    rw [feV_kept hm hq hK]
  obtain ⟨k1, ⟨k6, k8, k12, k14, k28, k29⟩, k10, k26⟩ := id hK
  refine ⟨⟨WT_congr hW (fun i hi => k1 i (by omega)) k6 k8 k10, RT_s hT (fun i hi => k1 i (by omega)) k6 k8 k10, by rw [k1 2 (by omega)]; exact h2, h3, h4⟩, ⟨n1, by rw [k1 13 (by omega)]; exact n2, n3, by rw [k14]; exact n4⟩, ⟨c1, by rw [k1 11 (by omega)]; exact c2, c3, by rw [k12]; exact c4⟩, ⟨g, DAY_cg (by omega) hD (fun i hi => k1 i (by omega)) k8 k10 k26⟩, fun k hk2 => ?_, ⟨f1, fun z => ?_⟩, ⟨r1, fun z => ?_⟩⟩
  · obtain ⟨q1, q2, q3⟩ := hk k hk2
    rw [k29, k28]
    refine ⟨q1, q2, fun z => ?_⟩
    obtain ⟨g, hg⟩ := q3 z
    exact ⟨g, DAY_cg (by omega) hg (fun i hi => k1 i (by omega)) k8 k10 (fun _ _ => rfl)⟩
  · obtain ⟨p, q, p1, p2, p3, p4, p5⟩ := f2 z
    exact ⟨p, q, p1, p2, p3, p4, fun w hw => by rw [p5 w hw]; exact (fei_cg (fv p) q w _).symm⟩
  · unfold RK
    rw [fk]
    exact r2 z
/-- the class's answer and state beside every answer and state that the reference may have -/
def relQ (MQ : Option Value → List xE → Prop) : Option Value → List xE → Prop := fun r Y => ∃ v x xa D E T U, r = some (.int v) ∧ Y = clsW x xa D E T U ∧ ∀ rm Ym, MQ rm Ym → rm = some (.int v) ∧ ∃ s' j' a', Ym = modW s' j' a' ∧ CJ x xa D E T U s' a'
def ciQ (l m sp n c : Nat) (s : xN) (a : Nat → xN) (v : Int32) : Option Value → List xE → Prop := fun r Y => r = some (.int v) ∧ ∃ x xa D E T U, CI l m sp n c x xa D E T U s a ∧ Y = clsW x xa D E T U
theorem rel_ci {L : xLn} {M : xM} {d : Nat} {av : List Value} {X : List xE} {l m sp n c : Nat} {s : xN} {a : Nat → xN} {v : Int32} {MQ : Option Value → List xE → Prop} (h : CT L M d 0 0 av X (ciQ l m sp n c s a v)) (hM : ∀ r Y, MQ r Y → r = some (.int v) ∧ ∃ s' j' a', Y = modW s' j' a' ∧ keptM m s a s' a') : CT L M d 0 0 av X (relQ MQ) := by
  refine h.mono ?_
  rintro r Y ⟨rfl, x, xa, D, E, T, U, hC, rfl⟩
  refine ⟨v, x, xa, D, E, T, U, rfl, rfl, fun rm Ym h2 => ?_⟩
  obtain ⟨e1, s', j', a', e2, hK⟩ := hM rm Ym h2
  exact ⟨e1, s', j', a', e2, l, m, sp, n, c, hC.kept hK⟩
