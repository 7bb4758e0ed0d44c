/-! ===== the class: text and words ===== -/
set_option maxHeartbeats 1000000 in
/-- a call of a String constant's method: it has no world -/
theorem AJ.callK {L : xLn} {M : xM} {d mc ms : Nat} {Q : Option Value → List xE → Prop} {n0 : Nat} {z : Nat × Nat} {pc : Nat} {ls : List (Option Value)} {st : List Value} {X : List xE} (hM : xMk M = true) {M' : xM} {d' n w0 : Nat} {as : List Value} {P : Option Value → Prop}
    (hC : CT L M' d' 0 0 (.ref (xB + 1 + w0) :: as) [] (fun r Y => P r ∧ Y = [])) (hw : w0 < 10) (hcv : xcB M' 0 n = true) {idx nx tg : Nat} {v : Int32} {w : Int64} {a b t : Nat} {sw : List (Int32 × Nat)} (ho : xat M pc = some (.invokevirtual idx, nx, tg, v, w, a, b, t, sw)) (hlk : xmt t (.methodLink (xown M) idx M'.1) = true)
    (rest : List Value) (hst : st = (as.map (xv (xsg [] X.length))).reverse ++ .ref (xB + 1 + w0) :: rest) (hn : as.length = n) (hr1 : M'.1.cls = "java/lang/String")
    (hwf : xwf X ls rest = true) (hd : Nat.blt d' d = true) (hmm : (Nat.ble z.1 mc && Nat.ble z.2 ms && Nat.ble X.length xB) = true)
    (kk : ∀ r : Option Value, P r → AJ L M d mc ms Q n0 z nx ls (r.toList ++ rest) X) : AJ L M d mc ms Q n0 z pc ls st X := by
  have hk : xsg [] X.length (xB + 1 + w0) = xB + 1 + w0 := by
    unfold xsg
    rw [if_neg (by simp), if_neg (by omega)]
  rw [← hk] at hst
  subst hst
  intro p e R s m args below meth c I A QF ad0 G ad H locs la HH hl
  obtain ⟨⟨hx, hb, hr, hml, hown, hts, hK, hlk2, hini, hA, hfr, hlo⟩, hmc, hms, hF, hret⟩ := id G
  have hck := xat_ck hM ho
  simp only [xck, Bool.and_eq_true] at hck
  obtain ⟨hdg, hnx⟩ := hck
  obtain rfl := xnx hnx
  have hdg := of_decide_eq_true hdg
  rw [Nat.add_sub_cancel_left] at hdg
  simp only [xcB, Bool.and_eq_true, Nat.ble_eq] at hcv
  obtain ⟨⟨⟨⟨⟨c1, c2⟩, c3⟩, c4⟩, c5⟩, c6, c7⟩ := hcv
  simp only [Bool.and_eq_true, Nat.ble_eq] at hmm
  have hd : d' < d := Nat.blt_eq.mp hd
  have hX : ([] : List Nat).map (fun i => X[i]?) = ([] : List xE).map (fun c => some (xrE (xsg [] X.length) c)) := rfl
  obtain ⟨⟨hPc, hFr⟩, hpre⟩ := x_before (av := .ref (xB + 1 + w0) :: as) hK hF hA HH hC.1 (show va_nd [] = true from rfl) hX
  have hwf2 := hwf
  simp only [xwf, Bool.and_eq_true, Nat.ble_eq] at hwf2
  have hG : GoodIn xtb (wsV M.1.cls idx M'.1.cls M'.1 (xW M')) := xgoodL (ws := [.methodLink M.1.cls idx M'.1, .instanceMethod M'.1, .selects M'.1.cls M'.1 M'.1, .initialized M'.1.cls]) c2 (by
    intro w hw
    simp only [List.mem_cons, List.not_mem_nil, or_false] at hw
    rcases hw with rfl | rfl | rfl | rfl
    · exact xmt_in hlk rfl
    · exact xwd_in c6
    · exact xwd_in c7
    · exact xwd_in c1)
  have hmap : ∀ u : Value, xv ad (xv (xsg [] X.length) u) = xv (fun k => ad (xsg [] X.length k)) u := fun u => xv_comp ad (xsg [] X.length) u
  refine x_after (Qc := fun r Y => P r ∧ Y = []) (a := (Value.ref (ad (xsg [] X.length (xB + 1 + w0))) :: as.map (xv fun k => ad (xsg [] X.length k))).toArray) G HH hl hwf (show va_nd [] = true from rfl) hX hFr (mc' := 0) (ms' := 0) ?_ ?_
  · refine va_runV (C := M'.1.cls) (b := ad (xsg [] X.length (xB + 1 + w0))) (As := as.map (xv fun k => ad (xsg [] X.length k))) ⟨hx, hb, hml, hown, hts⟩ (hC.2 I (fun k => ad (xsg [] X.length k)) H.size) (cwV n hts hG rfl rfl rfl ⟨rfl, (of_decide_eq_true c3).1, (of_decide_eq_true c3).2, of_decide_eq_true c4⟩ ⟨?_, ?_⟩) ⟨xPc_blind _ _ _ _ _ _, ?_, hpre⟩ rfl (by rw [List.length_map]; exact hn) hl.1.1 ?_ (lv_room ?_) hdg ⟨by omega, by omega⟩
    · show d' + 1 ≤ R.frames; omega
    · show 8 + (xml M' + 11) + 40 * d' ≤ R.locals; omega
    · obtain ⟨cell, q1, q2, q3⟩ := vk_recv hF.2.2.2.1 hw HH.2.2.2.2.2
      have q1 : H[ad0 (xB + 1 + w0)]? = some cell := q1
      exact ⟨cell, by rw [hk, HH.1 _ (Or.inr (by omega))]; exact q1, q2, by rw [hr1]; exact q3⟩
    · show ((as.map (xv (xsg [] X.length))).reverse ++ .ref (xsg [] X.length (xB + 1 + w0)) :: rest).map (xv ad) = _
      rw [List.map_append, List.map_reverse, List.map_map, List.map_cons]
      have em : as.map (xv ad ∘ xv (xsg [] X.length)) = as.map (xv fun k => ad (xsg [] X.length k)) := List.map_congr_left (fun u _ => hmap u)
      rw [em]
      try rfl
    · rw [List.map_map]
      have : (rest.map ((fun v => v.category) ∘ xv ad)) = rest.map (fun v => v.category) := List.map_congr_left (fun u _ => xv_cat ad u)
      rw [this]; exact hwf2.2
  · rintro r Y ⟨h1, rfl⟩
    refine ⟨?_, ?_⟩
    · simpa using hmm.2
    · have : xput [] X [] = X := by
        unfold xput
        show X ++ [] = X
        rw [List.append_nil]
      rw [this]
      exact kk r h1
def texW (b : Nat) (z : Int32) (f : xN) : List xE := [.inr (.inr (5, [.ref (b + 1), .int z])), .inl (0, 200, f)]
/-- the sign at i: behind the last byte none -/
def sgP (f : xN) (n i : Nat) : Int32 := if i < n then f i else -1
theorem cX_signAt (L : xLn) (f : xN) (n i : Nat) (hn : n ≤ 200) (hi : i < 1000) : CT L mX5_signAt 0 0 0 [.ref 0, .int (nI i)] (texW 0 (nI n) f) (fun r Y => r = some (.int (sgP f n i)) ∧ Y = texW 0 (nI n) f) := by
  refine CT.of rfl (Nat.le_of_ble_eq_true rfl) (Nat.le_of_ble_eq_true rfl) ?_
  refine AJ.run kX5_signAt [] 30 ⟨fun h => absurd h (nI_pos (by omega)), fun _ => ⟨fun h => ⟨?_, rfl⟩, fun h => ⟨fun h2 => ⟨?_, rfl⟩, fun h2 => ⟨i, rfl, ?_, ?_, rfl⟩⟩⟩⟩
  · have h : nI n ≤ nI i := h
    have : ¬ i < n := fun z => nI_ge z (by omega) h
    rw [sgP, if_neg this]
  · have h : ¬ nI n ≤ nI i := h
    have h2 : nI 200 ≤ nI i := h2
    have : i < n := by
      rcases Nat.lt_or_ge i n with z | z
      · exact z
      · exact absurd (nI_le z (by omega)) h
    exact absurd h2 (nI_ge (by omega) (by omega))
  · rcases Nat.lt_or_ge i n with z | z
    · omega
    · exact absurd (nI_le z (by omega)) h
  · have h : ¬ nI n ≤ nI i := h
    have : i < n := by
      rcases Nat.lt_or_ge i n with z | z
      · exact z
      · exact absurd (nI_le z (by omega)) h
    show some (Value.int (f i)) = _
    rw [sgP, if_pos this]
theorem cX_append (L : xLn) (f : xN) (n : Nat) (v : Int32) (hn : n < 200) : CT L mX5_append 0 0 0 [.ref 0, .int v] (texW 0 (nI n) f) (eqQ none (texW 0 (nI n + 1) (upd f n v))) := by
  refine CT.of rfl (Nat.le_of_ble_eq_true rfl) (Nat.le_of_ble_eq_true rfl) ?_
  exact AJ.run kX5_append [] 30 ⟨fun h => absurd h (nI_ge (b := 200) (by omega) (by omega)), fun _ => ⟨n, rfl, by omega, rfl, rfl⟩⟩
theorem in_out {x a b : Int32} (h : x < a ∨ b < x) : inP x a b = false := by
  simp only [inP, decide_eq_false_iff_not, i32_le]
  simp only [i32_lt] at h
  omega
theorem in_mid {x a b : Int32} (h1 : ¬ x < a) (h2 : ¬ b < x) : inP x a b = true := by
  simp only [inP, decide_eq_true_eq, i32_le]
  simp only [i32_lt] at h1 h2
  omega
theorem cR_isWithin (L : xLn) (x a b : Int32) : CT L mX4_isWithin 0 0 0 [.int x, .int a, .int b] [] (fun r Y => r = some (.int (bI (inP x a b))) ∧ Y = []) := by
  refine CT.of rfl (Nat.le_of_ble_eq_true rfl) (Nat.le_of_ble_eq_true rfl) ?_
  refine AJ.run kX4_isWithin [] 20 ⟨fun h => ⟨Or.inl rfl, ?_, rfl⟩, fun h => ⟨fun h2 => ⟨Or.inl rfl, ?_, rfl⟩, fun h2 => ⟨Or.inr rfl, ?_, rfl⟩⟩⟩
  · rw [in_out (Or.inl h)]; rfl
  · rw [in_out (Or.inr h2)]; rfl
  · rw [in_mid h h2]; rfl
theorem cR_isLetter (L : xLn) (x : Int32) : CT L mX4_isLetter 0 0 0 [.int x] [] (fun r Y => r = some (.int (bI (isL x))) ∧ Y = []) := by
  refine CT.of rfl (Nat.le_of_ble_eq_true rfl) (Nat.le_of_ble_eq_true rfl) ?_
  unfold isL
  refine AJ.run kX4_isLetter [] 20 ⟨fun h => ⟨Or.inl rfl, ?_, rfl⟩, fun h => ⟨fun h2 => ⟨Or.inl rfl, ?_, rfl⟩, fun h2 => ⟨Or.inr rfl, ?_, rfl⟩⟩⟩
  · rw [in_out (Or.inl h)]; rfl
  · rw [in_out (Or.inr h2)]; rfl
  · rw [in_mid h h2]; rfl
theorem cR_isDigit (L : xLn) (x : Int32) : CT L mX4_isDigit 0 0 0 [.int x] [] (fun r Y => r = some (.int (bI (isD x))) ∧ Y = []) := by
  refine CT.of rfl (Nat.le_of_ble_eq_true rfl) (Nat.le_of_ble_eq_true rfl) ?_
  unfold isD
  refine AJ.run kX4_isDigit [] 20 ⟨fun h => ⟨Or.inl rfl, ?_, rfl⟩, fun h => ⟨fun h2 => ⟨Or.inl rfl, ?_, rfl⟩, fun h2 => ⟨Or.inr rfl, ?_, rfl⟩⟩⟩
  · rw [in_out (Or.inl h)]; rfl
  · rw [in_out (Or.inr h2)]; rfl
  · rw [in_mid h h2]; rfl
/-! ===== a String constant's length and letters ===== -/
theorem shr0 {n : Nat} (h : n < 2 ^ 31) : nI n >>> ((0 : Int32) &&& 31) = nI n := by
  rw [pk_shrN h _ 0 (by decide)]; simp
theorem cS_coder (L : xLn) (w : Nat) (hw : w < 10) : CT L mJ0_coder_7d493 0 0 0 [.ref (xB + 1 + w)] [] (fun r Y => r = some (.int 0) ∧ Y = []) := by
  rcases w10 hw with rfl | rfl | rfl | rfl | rfl | rfl | rfl | rfl | rfl | rfl <;> exact CT.of rfl (Nat.le_of_ble_eq_true rfl) (Nat.le_of_ble_eq_true rfl) (AJ.run kJ0_coder_7d493 [] 20 ⟨fun h => absurd h (by decide), fun _ => ⟨rfl, rfl, rfl⟩⟩)
theorem cS_isLatin1 (L : xLn) (w : Nat) (hw : w < 10) : CT L mJ0_isLatin1_aae02 0 0 0 [.ref (xB + 1 + w)] [] (fun r Y => r = some (.int 1) ∧ Y = []) := by
  rcases w10 hw with rfl | rfl | rfl | rfl | rfl | rfl | rfl | rfl | rfl | rfl <;> exact CT.of rfl (Nat.le_of_ble_eq_true rfl) (Nat.le_of_ble_eq_true rfl) (AJ.run kJ0_isLatin1_aae02 [] 20 ⟨fun h => absurd h (by decide), fun _ => ⟨fun h => absurd rfl h, fun _ => ⟨Or.inr rfl, rfl, rfl⟩⟩⟩)
theorem cS_length (L : xLn) (w : Nat) (hw : w < 10) : CT L mJ0_length_8abf5 1 0 0 [.ref (xB + 1 + w)] [] (fun r Y => r = some (.int (nI (xsl.getD w 0))) ∧ Y = []) := by
  have cc := cS_coder L w hw
  rcases w10 hw with rfl | rfl | rfl | rfl | rfl | rfl | rfl | rfl | rfl | rfl
  all_goals
    refine CT.of rfl (Nat.le_of_ble_eq_true rfl) (Nat.le_of_ble_eq_true rfl) ?_
    refine AJ.run kJ0_length_8abf5 [] 20 ?_
    refine AJ.callK kJ0_length_8abf5 cc hw bJ0_coder_7d493 rfl (by decide +kernel) [.int _] rfl rfl rfl rfl rfl rfl ?_
    rintro r rfl
    exact AJ.run kJ0_length_8abf5 [] 20 ⟨congrArg (fun v => some (Value.int v)) (shr0 (by decide)), rfl⟩
theorem cJ_check3 (L : xLn) (i n : Nat) (hi : i < n) (hn : n < 1000) (v : Value) (hv : v = .ref (xB + 41) ∨ v = .null) : CT L mJ3_checkIndex_8e157 0 0 0 [.int (nI i), .int (nI n), v] [] (fun r Y => r = some (.int (nI i)) ∧ Y = []) := by
  rcases hv with rfl | rfl
  · exact CT.of rfl (Nat.le_of_ble_eq_true rfl) (Nat.le_of_ble_eq_true rfl) (AJ.run kJ3_checkIndex_8e157 [] 20 ⟨fun h => absurd h (nI_pos (by omega)), fun _ => ⟨fun _ => ⟨rfl, rfl⟩, fun h => absurd (nI_lt hi (by omega)) h⟩⟩)
  · exact CT.of rfl (Nat.le_of_ble_eq_true rfl) (Nat.le_of_ble_eq_true rfl) (AJ.run kJ3_checkIndex_8e157 [] 20 ⟨fun h => absurd h (nI_pos (by omega)), fun _ => ⟨fun _ => ⟨rfl, rfl⟩, fun h => absurd (nI_lt hi (by omega)) h⟩⟩)
theorem cJ_check0 (L : xLn) (i n : Nat) (hi : i < n) (hn : n < 1000) : CT L mJ0_checkIndex_df160 1 0 0 [.int (nI i), .int (nI n)] [] (fun r Y => r = none ∧ Y = []) := by
  refine CT.of rfl (Nat.le_of_ble_eq_true rfl) (Nat.le_of_ble_eq_true rfl) ?_
  refine AJ.run kJ0_checkIndex_df160 [] 20 ⟨?_, ?_⟩
  · refine AJ.callZ kJ0_checkIndex_df160 (cJ_check3 L i n hi hn (.ref (xB + 41)) (Or.inl rfl)) bJ3_checkIndex_8e157 rfl (by decide +kernel) [] rfl rfl rfl rfl rfl ?_
    rintro r rfl
    exact AJ.run kJ0_checkIndex_df160 [] 20 ⟨rfl, rfl⟩
  · refine AJ.callZ kJ0_checkIndex_df160 (cJ_check3 L i n hi hn .null (Or.inr rfl)) bJ3_checkIndex_8e157 rfl (by decide +kernel) [] rfl rfl rfl rfl rfl ?_
    rintro r rfl
    exact AJ.run kJ0_checkIndex_df160 [] 20 ⟨rfl, rfl⟩
def wch (w y : Nat) : Int32 := (xsb.getD w []).getD y 0
theorem ch_ok : ∀ w : Fin 10, ∀ y : Fin 8, y.val < xsl.getD w.val 0 → ((wch w.val y.val &&& 255).toUInt32 % 65536).toInt32 = wch w.val y.val := by decide +kernel
theorem xsl_le : ∀ w : Fin 10, xsl.getD w.val 0 ≤ 8 ∧ 4 ≤ xsl.getD w.val 0 := by decide +kernel
theorem cJ_charAt1 (L : xLn) (w y : Nat) (hw : w < 10) (hy : y < xsl.getD w 0) : CT L mJ1_charAt_3b067 2 0 0 [.ref (xB + 11 + w), .int (nI y)] [] (fun r Y => r = some (.int (wch w y)) ∧ Y = []) := by
  have h8 : y < 8 := Nat.lt_of_lt_of_le hy (xsl_le ⟨w, hw⟩).1
  have c := ch_ok ⟨w, hw⟩ ⟨y, h8⟩ hy
  have cc := cJ_check0 L y _ hy (Nat.lt_of_le_of_lt (xsl_le ⟨w, hw⟩).1 (by decide))
  rcases w10 hw with rfl | rfl | rfl | rfl | rfl | rfl | rfl | rfl | rfl | rfl
  all_goals
    refine CT.of rfl (Nat.le_of_ble_eq_true rfl) (Nat.le_of_ble_eq_true rfl) ?_
    refine AJ.run kJ1_charAt_3b067 [] 20 ?_
    refine AJ.callZ kJ1_charAt_3b067 cc bJ0_checkIndex_df160 rfl (by decide +kernel) [] rfl rfl rfl rfl rfl ?_
    rintro r rfl
    exact AJ.run kJ1_charAt_3b067 [] 20 ⟨y, rfl, hy, by omega, by decide, pk_nc _, congrArg (fun v => some (Value.int v)) c, rfl⟩
theorem cS_charAt (L : xLn) (w y : Nat) (hw : w < 10) (hy : y < xsl.getD w 0) : CT L mJ0_charAt_5068e 3 0 0 [.ref (xB + 1 + w), .int (nI y)] [] (fun r Y => r = some (.int (wch w y)) ∧ Y = []) := by
  have h8 : y < 8 := Nat.lt_of_lt_of_le hy (xsl_le ⟨w, hw⟩).1
  have c := ch_ok ⟨w, hw⟩ ⟨y, h8⟩ hy
  have hnar : narrow .char (.int (wch w y)) = .int (wch w y) := by
    have c : ((wch w y &&& 255).toUInt32 % 65536).toInt32 = wch w y := c
    rw [← c]; exact pk_nc _
  have c1 := cS_isLatin1 L w hw
  have c2 := cJ_charAt1 L w y hw hy
  generalize wch w y = v at c2 hnar ⊢
  rcases w10 hw with rfl | rfl | rfl | rfl | rfl | rfl | rfl | rfl | rfl | rfl
  all_goals
    refine CT.of rfl (Nat.le_of_ble_eq_true rfl) (Nat.le_of_ble_eq_true rfl) ?_
    refine AJ.run kJ0_charAt_5068e [] 20 ?_
    refine AJ.callK kJ0_charAt_5068e c1 hw bJ0_isLatin1_aae02 rfl (by decide +kernel) [] rfl rfl rfl rfl rfl rfl ?_
    rintro r rfl
    refine AJ.run kJ0_charAt_5068e [] 20 ⟨fun h => absurd h (by decide), fun _ => ?_⟩
    refine AJ.callZ kJ0_charAt_5068e c2 bJ1_charAt_3b067 rfl (by decide +kernel) [] rfl rfl rfl rfl rfl ?_
    rintro r rfl
    exact AJ.run kJ0_charAt_5068e [] 20 ⟨hnar, rfl, rfl⟩
/-! ===== a word in the text ===== -/
def allB (P : Nat → Bool) : Nat → Bool
  | 0 => true
  | k + 1 => allB P k && P k
theorem allB_iff {P : Nat → Bool} : ∀ {n : Nat}, allB P n = true ↔ ∀ i, i < n → P i = true
  | 0 => ⟨fun _ i h => by omega, fun _ => rfl⟩
  | n + 1 => by
    rw [allB, Bool.and_eq_true, allB_iff]
    constructor
    · rintro ⟨h1, h2⟩ i hi
      by_cases e : i = n
      · subst e; exact h2
      · exact h1 i (by omega)
    · exact fun h => ⟨fun i hi => h i (by omega), h n (by omega)⟩
theorem allB_f {P : Nat → Bool} {n i : Nat} (hi : i < n) (h : P i = false) : allB P n = false := by
  cases hb : allB P n with
  | false => rfl
  | true => rw [allB_iff.mp hb i hi] at h; cases h
def spB (f : xN) (n q e w : Nat) : Bool := decide (e - q = xsl.getD w 0) && allB (fun i => decide (sgP f n (q + i) = wch w i)) (xsl.getD w 0)
def boQ (b : Bool) (X : List xE) : Option Value → List xE → Prop := fun r Y => r = some (.int (bI b)) ∧ Y = X
abbrev spL (kr q e i : Nat) : List (Option Value) := [some (.ref 0), some (.ref kr), some (.int (nI q)), some (.int (nI e)), some (.int (nI i))]
theorem cX_sp_loop (L : xLn) (Q : Option Value → List xE → Prop) (n0 : Nat) (X : List xE) (q e len kr : Nat) (h8 : len ≤ 8) (sg wc : Nat → Int32) (hX : X.all (xoke X.length) = true)
    (hl : ∀ i, AJ L mX5_spells 4 0 0 Q n0 (0, 0) 21 (spL kr q e i) [.int (nI len), .int (nI i)] X → AJ L mX5_spells 4 0 0 Q n0 (0, 0) 18 (spL kr q e i) [.ref kr, .int (nI i)] X)
    (hs : ∀ i, i < len → AJ L mX5_spells 4 0 0 Q n0 (0, 0) 32 (spL kr q e i) [.int (sg i)] X → AJ L mX5_spells 4 0 0 Q n0 (0, 0) 29 (spL kr q e i) [.int (nI q + nI i), .ref 0] X)
    (hc : ∀ i, i < len → AJ L mX5_spells 4 0 0 Q n0 (0, 0) 38 (spL kr q e i) [.int (wc i), .int (sg i)] X → AJ L mX5_spells 4 0 0 Q n0 (0, 0) 35 (spL kr q e i) [.int (nI i), .ref kr, .int (sg i)] X)
    (f0 : ∀ i, i < len → ¬ sg i = wc i → Q (some (.int 0)) X) (f1 : (∀ i, i < len → sg i = wc i) → Q (some (.int 1)) X) :
    ∀ (k i : Nat), i + k = len → (∀ x, x < i → sg x = wc x) → AJ L mX5_spells 4 0 0 Q n0 (0, 0) 15 (spL kr q e i) [] X := by
  have hX : h_b (X.all (xoke X.length)) True := by rw [hX]; trivial
  intro k
  induction k with
  | zero =>
    intro i hi hx
    obtain rfl : i = len := by omega
    refine AJ.run kX5_spells [15] 30 (hl i ?_)
    refine AJ.run kX5_spells [15] 30 ⟨fun _ => ?_, fun z => absurd (nI_le (Nat.le_refl _) (by omega)) z⟩
    have := f1 hx
    revert hX
    show h_b (X.all (xoke X.length)) True → h_b (true && true && X.all (xoke X.length)) _
    rw [Bool.true_and, Bool.true_and]
    cases X.all (xoke X.length) with
    | false => exact fun z => z.elim
    | true => exact fun _ => ⟨Or.inr rfl, this⟩
  | succ k ih =>
    intro i hi hx
    have nxt := ih (i + 1) (by omega)
    unfold spL at nxt
    rw [nI_succ] at nxt
    refine AJ.run kX5_spells [15] 30 (hl i ?_)
    refine AJ.run kX5_spells [15] 30 ⟨fun z => absurd z (nI_ge (by omega) (by omega)), fun _ => hs i (by omega) ?_⟩
    refine AJ.run kX5_spells [15] 30 (hc i (by omega) ?_)
    refine AJ.run kX5_spells [15] 30 ⟨fun z => nxt (fun x hx2 => ?_), fun z => ?_⟩
    · by_cases ex : x = i
      · subst ex; exact z
      · exact hx x (by omega)
    · have := f0 i (by omega) z
      revert hX
      show h_b (X.all (xoke X.length)) True → h_b (true && true && X.all (xoke X.length)) _
      rw [Bool.true_and, Bool.true_and]
      cases X.all (xoke X.length) with
      | false => exact fun z => z.elim
      | true => exact fun _ => ⟨Or.inl rfl, this⟩
set_option maxHeartbeats 2000000 in
theorem cX_spells (L : xLn) (f : xN) (n q e w : Nat) (hw : w < 10) (hn : n ≤ 200) (hqe : q ≤ e) (he : e ≤ 200) : CT L mX5_spells 4 0 0 [.ref 0, .ref (xB + 1 + w), .int (nI q), .int (nI e)] (texW 0 (nI n) f) (boQ (spB f n q e w) (texW 0 (nI n) f)) := by
  obtain ⟨b, hb⟩ : ∃ b, b = spB f n q e w := ⟨_, rfl⟩
  obtain ⟨len, hlen⟩ : ∃ len, len = xsl.getD w 0 := ⟨_, rfl⟩
  have h8 : len ≤ 8 := by rw [hlen]; exact (xsl_le ⟨w, hw⟩).1
  have cl := cS_length L w hw
  have cc : ∀ y, y < len → CT L mJ0_charAt_5068e 3 0 0 [.ref (xB + 1 + w), .int (nI y)] [] (fun r Y => r = some (.int (wch w y)) ∧ Y = []) := fun y hy => cS_charAt L w y hw (by rw [← hlen]; exact hy)
  rw [← hlen] at cl
  rw [← hb]
  obtain ⟨Q, hQ⟩ : ∃ Q, Q = boQ b (texW 0 (nI n) f) := ⟨_, rfl⟩
  have fin : ∀ v, v = b → Q (some (.int (bI v))) (texW 0 (nI n) f) := by rintro v rfl; rw [hQ]; exact ⟨rfl, rfl⟩
  rw [← hQ]
  clear hQ
  have hfin0 : b = false → Q (some (.int 0)) (texW 0 (nI n) f) := fun z => fin false z.symm
  have hfin1 : b = true → Q (some (.int 1)) (texW 0 (nI n) f) := fun z => fin true z.symm
  have hb0 : ¬ e - q = len → b = false := fun z => by rw [hb, spB, ← hlen, decide_eq_false z]; rfl
  have hbi : ∀ i, i < len → ¬ sgP f n (q + i) = wch w i → b = false := fun i hi z => by
    rw [hb, spB, ← hlen, allB_f hi (decide_eq_false z), Bool.and_false]
  have hb1 : e - q = len → (∀ i, i < len → sgP f n (q + i) = wch w i) → b = true := fun z1 z2 => by
    rw [hb, spB, ← hlen, decide_eq_true z1, allB_iff.mpr (fun i hi => decide_eq_true (z2 i hi))]; rfl
  have hsub : nI e - nI q = nI (e - q) := pk_sub hqe
  have cg : ∀ i, i < len → e - q = len → CT L mX5_signAt 0 0 0 [.ref 0, .int (nI q + nI i)] (texW 0 (nI n) f) (fun r Y => r = some (.int (sgP f n (q + i))) ∧ Y = texW 0 (nI n) f) := fun i hi z => by
    rw [nI_add]; exact cX_signAt L f n (q + i) hn (by omega)
  clear hb hlen
  generalize wch w = wc at *
  rcases w10 hw with rfl | rfl | rfl | rfl | rfl | rfl | rfl | rfl | rfl | rfl
  all_goals
    refine CT.of rfl (Nat.le_of_ble_eq_true rfl) (Nat.le_of_ble_eq_true rfl) ?_
    refine AJ.run kX5_spells [] 30 ?_
    refine AJ.callK kX5_spells cl hw bJ0_length_8abf5 rfl (by decide +kernel) [.int (nI e - nI q)] rfl rfl rfl rfl rfl rfl ?_
    rintro r rfl
    refine AJ.run kX5_spells [15] 30 ⟨fun h => ?_, fun h => ⟨Or.inl rfl, hfin0 (hb0 (fun z => h (by rw [hsub, z])))⟩⟩
    have hel : e - q = len := by
      rw [hsub] at h
      exact (nI_eq (by omega) (by omega)).mp h
    refine cX_sp_loop L Q _ _ q e len _ h8 (fun i => sgP f n (q + i)) wc rfl ?_ ?_ ?_ (fun i hi z => hfin0 (hbi i hi z)) (fun z => hfin1 (hb1 hel z)) len 0 (by omega) (fun x hx => by omega)
    · intro i hz
      refine AJ.callK kX5_spells cl hw bJ0_length_8abf5 rfl (by decide +kernel) [.int (nI i)] rfl rfl rfl rfl rfl rfl ?_
      rintro r rfl
      exact hz
    · intro i hi hz
      refine AJ.callF kX5_spells (cg i hi hel) bX5_signAt rfl (by decide +kernel) [] rfl rfl rfl rfl rfl rfl rfl rfl ?_
      rintro r Y ⟨rfl, rfl⟩
      exact ⟨rfl, rfl, hz⟩
    · intro i hi hz
      refine AJ.callK kX5_spells (cc i hi) hw bJ0_charAt_5068e rfl (by decide +kernel) [.int (sgP f n (q + i))] rfl rfl rfl rfl rfl rfl ?_
      rintro r rfl
      exact hz
