/-! ===== calls ===== -/
def xwf (X : List xE) (ls : List (Option Value)) (rest : List Value) : Bool := X.all (xoke X.length) && ls.all (fun o => match o with | none => true | some v => xokv X.length v) && rest.all (xokv X.length) && Nat.ble (rest.map fun v => v.category).sum 8
set_option maxHeartbeats 1000000 in
theorem x_after {L : xLn} {M : xM} {d mc ms : Nat} {Q : Option Value → List xE → Prop} {n0 : Nat} {z : Nat × Nat} {pc : Nat} {ls : List (Option Value)} {X : List xE} {p : Program} {e : Env} {R : Room} {s : State} {m : MethodId} {args : Array Value} {below : List Frame} {meth : Method} {c : Code} {I : xI} {A : Nat → Prop} {QF : State → Prop} {ad0 ad : Nat → Nat} {H : Heap} {locs : List Loc} {la : Array Slot} {mc' ms' : Nat} {rest st0 : List Value} {σ : List Nat} {Xc : List xE} {Qc : Option Value → List xE → Prop} {a : Array Value}
    (G : xG L M d mc ms Q n0 p e R s m args below meth c I A QF ad0) (HH : xH I A s n0 ad0 ad X H locs) (hl : xL la (xml M) ad ls) (hwf : xwf X ls rest = true) (hnd : va_nd σ = true) (hX : σ.map (fun i => X[i]?) = Xc.map (fun c => some (xrE (xsg σ X.length) c)))
    (hF : ∀ q, va_A (xw I (fun k => ad (xsg σ X.length k)) Xc) H.size q → A q)
    (hr : va_Run p L.1 e R s m args below meth c H locs z.1 z.2 mc' ms' (F0 m pc la st0) (rest.map (xv ad)) (xQc I (fun k => ad (xsg σ X.length k)) Xc.length (va_A (xw I (fun k => ad (xsg σ X.length k)) Xc) H.size) Qc a) (va_A (xw I (fun k => ad (xsg σ X.length k)) Xc) H.size))
    (kk : ∀ (r : Option Value) (Y : List xE), Qc r Y → Nat.ble (X.length + Y.length) xB = true ∧ AJ L M d mc ms Q n0 (z.1 + mc', z.2 + ms') (pc + 3) ls (r.toList ++ rest) (xput σ X Y)) : W p L.1 e R s m args below meth c H locs z.1 z.2 QF (F0 m pc la st0) := by
  intro T hT XX
  obtain ⟨v, st₀, t, T', L', h0, X', hL, e1, e2, hq, st⟩ := hr T hT XX
  obtain ⟨⟨r, Y, ac, hv, ha, hn, hB, hw, hrr, hQ, hP1, hK1, hD1⟩, hz, hk⟩ := hq
  have hv : v = r.map (xv ac) := Outcome.returned.inj hv
  subst hv
  rw [h0] at hz hk
  simp only [xwf, Bool.and_eq_true, Nat.ble_eq] at hwf
  obtain ⟨⟨⟨w1, w2⟩, w3⟩, w4⟩ := hwf
  obtain ⟨k1, k2⟩ := kk r Y hQ
  have hS := HH.2.2.2.2.2
  have hA := G.1.2.2.2.2.2.2.2.2.2.1
  have hS' : va_S A s.heap T'.heap (locs ++ L') := ⟨Nat.le_trans hS.1 (by rw [e1]; exact hz), fun q h1 h2 => by rw [e1, hk q (Nat.lt_of_lt_of_le h1 hS.1) (fun z => h2 (hF q z))]; exact hS.2.1 q h1 h2, fun q hq => by
      rcases List.mem_append.mp hq with h | h
      · exact hS.2.2 q h
      · exact hF _ (hL q h)⟩
  obtain ⟨ad', H2, hold⟩ := xjoin HH hA w1 hnd hX (fun i hi => ha i hi) hn (Nat.ble_eq.mp k1) hw (by rw [e1]; exact hP1) hD1 (fun q h1 h2 => by rw [e1]; exact hk q h1 h2) hF hS'
  have hW := k2 p e R s m args below meth c I A QF ad0 G ad' T'.heap (locs ++ L') la H2 (xL_ad hl hold w2)
  have es : ((r.toList ++ rest).map (xv ad')) = (r.map (xv ac)).toList ++ rest.map (xv ad) := by
    rw [List.map_append, xmap_ad hold w3]
    congr 1
    cases r with
    | none => rfl
    | some u =>
      have hu := hrr u rfl
      have : xv ad' u = xv ac u := by
        refine (xv_congr (P := fun k => k < 0 ∨ xB ≤ k) (fun k hk => ?_) (xokv_sp hu)).symm
        have hk2 : xB ≤ k := by omega
        rw [ha k (Or.inr hk2), ← hold k (Or.inr hk2)]
        show ad (xsg σ X.length k) = ad k
        unfold xsg
        have hsl : σ.length ≤ xB := by
          have := congrArg List.length hX
          simp at this
          omega
        rw [if_neg (by omega), if_neg (by omega)]
      show [xv ad' u] = [xv ac u]
      rw [this]
  rw [es] at hW
  obtain ⟨t2, a1, b1⟩ := hW T' rfl X'
  exact ⟨t2, st t2 a1, b1⟩
/-- what the callee's start asks, in the caller's world -/
theorem x_before {L : xLn} {n0 : Nat} {X : List xE} {s : State} {I : xI} {A : Nat → Prop} {ad0 ad : Nat → Nat} {H : Heap} {locs : List Loc} {σ : List Nat} {Xc : List xE} {av : List Value} (hK : va_K I.1 vwCl (xT I) s) (hFF : xFF L ad0 A s s.heap) (hA : ∀ q, s.heap.size ≤ q → A q) (HH : xH I A s n0 ad0 ad X H locs) (hXB : Xc.length ≤ xB) (hnd : va_nd σ = true) (hX : σ.map (fun i => X[i]?) = Xc.map (fun c => some (xrE (xsg σ X.length) c))) :
    (va_P I.1 vwCl (xw I (fun k => ad (xsg σ X.length k)) Xc) H ∧ (∀ q, va_A (xw I (fun k => ad (xsg σ X.length k)) Xc) H.size q → A q)) ∧ ∀ U : State, U.heap = H → s.WarmedH U.vm → xPc L I (fun k => ad (xsg σ X.length k)) Xc H.size av (av.map (xv fun k => ad (xsg σ X.length k))).toArray U := by
  obtain ⟨hag, hn0, hB, hP, hD, hS⟩ := HH
  have hsl : σ.length = Xc.length := by
    have := congrArg List.length hX
    simpa using this
  have hC : σ.map (fun i => (xw I ad X)[i]?) = (xw I (fun k => ad (xsg σ X.length k)) Xc).map some := by
    apply List.ext_getElem?
    intro j
    rw [List.getElem?_map, List.getElem?_map, xw_at]
    cases hj : σ[j]? with
    | none =>
      have : Xc[j]? = none := by
        rw [List.getElem?_eq_none_iff] at hj ⊢
        omega
      rw [this]; rfl
    | some i =>
      have e1 := congrArg (fun l => l[j]?) hX
      simp only [List.getElem?_map, hj, Option.map_some] at e1
      cases hc : Xc[j]? with
      | none => rw [hc] at e1; cases e1
      | some c =>
        rw [hc] at e1
        have e2 : X[i]? = some (xrE (xsg σ X.length) c) := Option.some.inj e1
        have e3 : xsg σ X.length j = i := by
          unfold xsg
          rw [if_pos (List.getElem?_eq_some_iff.mp hj).1, List.getD_eq_getElem?_getD, hj]; rfl
        simp only [Option.map_some]
        rw [xw_get e2, xe_comp, e3]
  have hPc : va_P I.1 vwCl (xw I (fun k => ad (xsg σ X.length k)) Xc) H := by
    refine hP.sub σ ?_
    have : ∀ (σ : List Nat) (w1 w2 : va_W), σ.map (fun i => w1[i]?) = w2.map some → σ.filterMap (fun i => w1[i]?) = w2 := by
      intro σ w1
      induction σ with
      | nil => intro w2 h; cases w2 with
        | nil => rfl
        | cons a b => cases h
      | cons i r ih =>
        intro w2 h
        cases w2 with
        | nil => cases h
        | cons a b =>
          simp only [List.map_cons, List.cons.injEq] at h
          rw [List.filterMap_cons, h.1]
          simp only
          rw [ih b h.2]
    exact this _ _ _ hC
  have hDc : va_D A (xw I (fun k => ad (xsg σ X.length k)) Xc) := hD.sub σ hnd hC
  have hFr := va_free hD hS hA σ hC
  refine ⟨⟨hPc, hFr⟩, fun U hU hW => ⟨rfl, by rw [hU], by rw [hU]; exact hPc, va_K.moved hW.alike hK, hDc.weaken (fun _ _ _ _ => trivial), ?_⟩⟩
  have f1 : xFF L ad0 (va_A (xw I (fun k => ad (xsg σ X.length k)) Xc) H.size) s H := (hFF.kept (H1 := H) (fun q h1 h2 => hS.2.1 q h1 h2)).narrow hFr
  rw [hU]
  refine (f1.warm hW).ad (fun i hi => ?_)
  show ad (xsg σ X.length i) = ad0 i
  unfold xsg
  rw [if_neg (by omega), if_neg (by omega)]
  exact hag i (Or.inr hi)

theorem xwd_in {w : Cond} (h : xwd w = true) : w ∈ xtb := by
  simp only [xwd, Bool.and_eq_true, decide_eq_true_eq] at h
  exact List.mem_filter.mpr h
theorem xgoodW {M : xM} (h : xwd (.code M.1 (xcc M) (xml M) (xret M)) = true) : GoodIn xtb (xW M) := fun w hw => by
  rcases List.mem_cons.mp hw with rfl | hw
  · exact ⟨xwd_in h, good_of_word (List.mem_filter.mp (xwd_in h)).2⟩
  · exact ⟨hw, good_of_word (List.mem_filter.mp hw).2⟩
theorem xgoodL {ws : List Cond} {M : xM} (h : xwd (.code M.1 (xcc M) (xml M) (xret M)) = true) (hw : ∀ w ∈ ws, w ∈ xtb) : GoodIn xtb (ws ++ xW M) := fun w h2 => by
  rcases List.mem_append.mp h2 with h2 | h2
  · exact ⟨hw w h2, good_of_word (List.mem_filter.mp (hw w h2)).2⟩
  · exact xgoodW h w h2
set_option maxHeartbeats 1000000 in
/-- a call of an instance's method -/
theorem AJ.callV {L : xLn} {M : xM} {d mc ms : Nat} {Q : Option Value → List xE → Prop} {n0 : Nat} {z : Nat × Nat} {pc : Nat} {ls : List (Option Value)} {st : List Value} {X : List xE} (hM : xMk M = true) {M' : xM} {d' mc' ms' q0 n : Nat} {as : List Value} {Xc : List xE} {Qc : Option Value → List xE → Prop}
    (hC : CT L M' d' mc' ms' (.ref q0 :: as) Xc Qc) (hcv : xcB M' 0 n = true) {idx nx tg : Nat} {v : Int32} {w : Int64} {a b t : Nat} {sw : List (Int32 × Nat)} (ho : xat M pc = some (.invokevirtual idx, nx, tg, v, w, a, b, t, sw)) (hlk : xmt t (.methodLink (xown M) idx M'.1) = true)
    (σ : List Nat) (rest : List Value) (hst : st = (as.map (xv (xsg σ X.length))).reverse ++ .ref (xsg σ X.length q0) :: rest) (hn : as.length = n) (hX : σ.map (fun i => X[i]?) = Xc.map (fun c => some (xrE (xsg σ X.length) c))) {ci : Nat} {fs : List Value} (hq : Xc[q0]? = some (.inr (.inr (ci, fs)))) {r : vw_C} (hci : vwCl[ci]? = some r) (hr1 : r.1 = M'.1.cls)
    (hnd : va_nd σ = true) (hwf : xwf X ls rest = true) (hd : Nat.blt d' d = true) (hmm : (Nat.ble (z.1 + mc') mc && Nat.ble (z.2 + ms') ms) = true)
    (kk : ∀ (r : Option Value) (Y : List xE), Qc r Y → Nat.ble (X.length + Y.length) xB = true ∧ AJ L M d mc ms Q n0 (z.1 + mc', z.2 + ms') nx ls (r.toList ++ rest) (xput σ X Y)) : AJ L M d mc ms Q n0 z pc ls st X := by
  subst hst
  intro p e R s m args below meth c I A QF ad0 G ad H locs la HH hl
  obtain ⟨⟨hx, hb, hr, hml, hown, hts, hK, hlk2, hini, hA, hfr, hlo⟩, hmc, hms, hF, hret⟩ := id G
  have hck := xat_ck hM ho
  simp only [xck, Bool.and_eq_true] at hck
  obtain ⟨hdg, hnx⟩ := hck
  obtain rfl := xnx hnx
  have hdg := of_decide_eq_true hdg
  rw [Nat.add_sub_cancel_left] at hdg
  simp only [xcB, Bool.and_eq_true, Nat.ble_eq] at hcv
  obtain ⟨⟨⟨⟨⟨c1, c2⟩, c3⟩, c4⟩, c5⟩, c6, c7⟩ := hcv
  simp only [Bool.and_eq_true, Nat.ble_eq] at hmm
  have hd : d' < d := Nat.blt_eq.mp hd
  obtain ⟨⟨hPc, hFr⟩, hpre⟩ := x_before (av := .ref q0 :: as) hK hF hA HH hC.1 hnd hX
  have hwf2 := hwf
  simp only [xwf, Bool.and_eq_true, Nat.ble_eq] at hwf2
  have hG : GoodIn xtb (wsV M.1.cls idx M'.1.cls M'.1 (xW M')) := xgoodL (ws := [.methodLink M.1.cls idx M'.1, .instanceMethod M'.1, .selects M'.1.cls M'.1 M'.1, .initialized M'.1.cls]) c2 (by
    intro w hw
    simp only [List.mem_cons, List.not_mem_nil, or_false] at hw
    rcases hw with rfl | rfl | rfl | rfl
    · exact xmt_in hlk rfl
    · exact xwd_in c6
    · exact xwd_in c7
    · exact xwd_in c1)
  have hmap : ∀ u : Value, xv ad (xv (xsg σ X.length) u) = xv (fun k => ad (xsg σ X.length k)) u := fun u => xv_comp ad (xsg σ X.length) u
  refine x_after (a := (Value.ref (ad (xsg σ X.length q0)) :: as.map (xv fun k => ad (xsg σ X.length k))).toArray) G HH hl hwf hnd hX hFr ?_ kk
  refine va_runV (C := M'.1.cls) (b := ad (xsg σ X.length q0)) (As := as.map (xv fun k => ad (xsg σ X.length k))) ⟨hx, hb, hml, hown, hts⟩ (hC.2 I (fun k => ad (xsg σ X.length k)) H.size) (cwV n hts hG rfl rfl rfl ⟨rfl, (of_decide_eq_true c3).1, (of_decide_eq_true c3).2, of_decide_eq_true c4⟩ ⟨?_, ?_⟩) ⟨xPc_blind _ _ _ _ _ _, ?_, hpre⟩ rfl (by rw [List.length_map]; exact hn) hl.1.1 ?_ (lv_room ?_) hdg ⟨by omega, by omega⟩
  · show d' + 1 ≤ R.frames; omega
  · show 8 + (xml M' + 11) + 40 * d' ≤ R.locals; omega
  · obtain ⟨cell, q1, q2, q3⟩ := va_recv hK hPc hci (xw_get hq)
    exact ⟨cell, q1, q2, by rw [← hr1]; exact q3⟩
  · show ((as.map (xv (xsg σ X.length))).reverse ++ .ref (xsg σ X.length q0) :: rest).map (xv ad) = _
    rw [List.map_append, List.map_reverse, List.map_map, List.map_cons]
    have em : as.map (xv ad ∘ xv (xsg σ X.length)) = as.map (xv fun k => ad (xsg σ X.length k)) := List.map_congr_left (fun u _ => hmap u)
    rw [em]
    try rfl
  · rw [List.map_map]
    have : (rest.map ((fun v => v.category) ∘ xv ad)) = rest.map (fun v => v.category) := List.map_congr_left (fun u _ => xv_cat ad u)
    rw [this]; exact hwf2.2
set_option maxHeartbeats 1000000 in
/-- a call of a static method -/
theorem AJ.callS {L : xLn} {M : xM} {d mc ms : Nat} {Q : Option Value → List xE → Prop} {n0 : Nat} {z : Nat × Nat} {pc : Nat} {ls : List (Option Value)} {st : List Value} {X : List xE} (hM : xMk M = true) {M' : xM} {d' mc' ms' n : Nat} {as : List Value} {Xc : List xE} {Qc : Option Value → List xE → Prop}
    (hC : CT L M' d' mc' ms' as Xc Qc) (hcv : xcB M' 1 n = true) {idx nx tg : Nat} {v : Int32} {w : Int64} {a b t : Nat} {sw : List (Int32 × Nat)} (ho : xat M pc = some (.invokestatic idx, nx, tg, v, w, a, b, t, sw)) (hlk : xmt t (.methodLink (xown M) idx M'.1) = true)
    (σ : List Nat) (rest : List Value) (hst : st = (as.map (xv (xsg σ X.length))).reverse ++ rest) (hn : as.length = n) (hX : σ.map (fun i => X[i]?) = Xc.map (fun c => some (xrE (xsg σ X.length) c)))
    (hnd : va_nd σ = true) (hwf : xwf X ls rest = true) (hd : Nat.blt d' d = true) (hmm : (Nat.ble (z.1 + mc') mc && Nat.ble (z.2 + ms') ms) = true)
    (kk : ∀ (r : Option Value) (Y : List xE), Qc r Y → Nat.ble (X.length + Y.length) xB = true ∧ AJ L M d mc ms Q n0 (z.1 + mc', z.2 + ms') nx ls (r.toList ++ rest) (xput σ X Y)) : AJ L M d mc ms Q n0 z pc ls st X := by
  subst hst
  intro p e R s m args below meth c I A QF ad0 G ad H locs la HH hl
  obtain ⟨⟨hx, hb, hr, hml, hown, hts, hK, hlk2, hini, hA, hfr, hlo⟩, hmc, hms, hF, hret⟩ := id G
  have hck := xat_ck hM ho
  simp only [xck, Bool.and_eq_true] at hck
  obtain ⟨hdg, hnx, -⟩ := hck
  obtain rfl := xnx hnx
  have hdg := of_decide_eq_true hdg
  rw [Nat.add_sub_cancel_left] at hdg
  simp only [xcB, Bool.and_eq_true, Nat.ble_eq] at hcv
  obtain ⟨⟨⟨⟨⟨c1, c2⟩, c3⟩, c4⟩, c5⟩, c6⟩ := hcv
  simp only [Bool.and_eq_true, Nat.ble_eq] at hmm
  have hd : d' < d := Nat.blt_eq.mp hd
  obtain ⟨⟨hPc, hFr⟩, hpre⟩ := x_before (av := as) hK hF hA HH hC.1 hnd hX
  have hwf2 := hwf
  simp only [xwf, Bool.and_eq_true, Nat.ble_eq] at hwf2
  have hG : GoodIn xtb (va_wsS M.1.cls idx M'.1 (xW M')) := xgoodL (ws := [.methodLink M.1.cls idx M'.1, .static M'.1, .initialized M'.1.cls]) c2 (by
    intro w hw
    simp only [List.mem_cons, List.not_mem_nil, or_false] at hw
    rcases hw with rfl | rfl | rfl
    · exact xmt_in hlk rfl
    · exact xwd_in c6
    · exact xwd_in c1)
  have hmap : ∀ u : Value, xv ad (xv (xsg σ X.length) u) = xv (fun k => ad (xsg σ X.length k)) u := fun u => xv_comp ad (xsg σ X.length) u
  refine x_after (a := (as.map (xv fun k => ad (xsg σ X.length k))).toArray) G HH hl hwf hnd hX hFr ?_ kk
  refine va_runS (As := as.map (xv fun k => ad (xsg σ X.length k))) ⟨hx, hb, hml, hown, hts⟩ (hC.2 I (fun k => ad (xsg σ X.length k)) H.size) (va_cwS n hts hG rfl rfl rfl ⟨(of_decide_eq_true c3).1, (of_decide_eq_true c3).2, of_decide_eq_true c4⟩ ⟨?_, ?_⟩) ⟨xPc_blind _ _ _ _ _ _, hpre⟩ rfl (by rw [List.length_map]; exact hn) hl.1.1 ?_ (lv_room ?_) hdg ⟨by omega, by omega⟩
  · show d' + 1 ≤ R.frames; omega
  · show 8 + (xml M' + 11) + 40 * d' ≤ R.locals; omega
  · show ((as.map (xv (xsg σ X.length))).reverse ++ rest).map (xv ad) = _
    rw [List.map_append, List.map_reverse, List.map_map]
    have em : as.map (xv ad ∘ xv (xsg σ X.length)) = as.map (xv fun k => ad (xsg σ X.length k)) := List.map_congr_left (fun u _ => hmap u)
    rw [em]
    try rfl
  · rw [List.map_map]
    have : (rest.map ((fun v => v.category) ∘ xv ad)) = rest.map (fun v => v.category) := List.map_congr_left (fun u _ => xv_cat ad u)
    rw [this]; exact hwf2.2
set_option maxHeartbeats 1000000 in
/-- a call of a constructor -/
theorem AJ.callI {L : xLn} {M : xM} {d mc ms : Nat} {Q : Option Value → List xE → Prop} {n0 : Nat} {z : Nat × Nat} {pc : Nat} {ls : List (Option Value)} {st : List Value} {X : List xE} (hM : xMk M = true) {M' : xM} {d' mc' ms' q0 n : Nat} {as : List Value} {Xc : List xE} {Qc : Option Value → List xE → Prop}
    (hC : CT L M' d' mc' ms' (.ref q0 :: as) Xc Qc) (hcv : xcB M' 2 n = true) {idx nx tg : Nat} {v : Int32} {w : Int64} {a b t : Nat} {sw : List (Int32 × Nat)} (ho : xat M pc = some (.invokespecial idx, nx, tg, v, w, a, b, t, sw)) (hlk : xmt t (.methodLink (xown M) idx M'.1) = true)
    (σ : List Nat) (rest : List Value) (hst : st = (as.map (xv (xsg σ X.length))).reverse ++ .ref (xsg σ X.length q0) :: rest) (hn : as.length = n) (hX : σ.map (fun i => X[i]?) = Xc.map (fun c => some (xrE (xsg σ X.length) c)))
    (hnd : va_nd σ = true) (hwf : xwf X ls rest = true) (hd : Nat.blt d' d = true) (hmm : (Nat.ble (z.1 + mc') mc && Nat.ble (z.2 + ms') ms) = true)
    (kk : ∀ (r : Option Value) (Y : List xE), Qc r Y → Nat.ble (X.length + Y.length) xB = true ∧ AJ L M d mc ms Q n0 (z.1 + mc', z.2 + ms') nx ls (r.toList ++ rest) (xput σ X Y)) : AJ L M d mc ms Q n0 z pc ls st X := by
  subst hst
  intro p e R s m args below meth c I A QF ad0 G ad H locs la HH hl
  obtain ⟨⟨hx, hb, hr, hml, hown, hts, hK, hlk2, hini, hA, hfr, hlo⟩, hmc, hms, hF, hret⟩ := id G
  have hck := xat_ck hM ho
  simp only [xck, Bool.and_eq_true] at hck
  obtain ⟨hdg, hnx, -⟩ := hck
  obtain rfl := xnx hnx
  have hdg := of_decide_eq_true hdg
  rw [Nat.add_sub_cancel_left] at hdg
  simp only [xcB, Bool.and_eq_true, Nat.ble_eq] at hcv
  obtain ⟨⟨⟨⟨⟨c1, c2⟩, c3⟩, c4⟩, c5⟩, ⟨c6, c7⟩, c8⟩ := hcv
  have c8 := of_decide_eq_true c8
  simp only [Bool.and_eq_true, Nat.ble_eq] at hmm
  have hd : d' < d := Nat.blt_eq.mp hd
  obtain ⟨⟨hPc, hFr⟩, hpre⟩ := x_before (av := .ref q0 :: as) hK hF hA HH hC.1 hnd hX
  have hwf2 := hwf
  simp only [xwf, Bool.and_eq_true, Nat.ble_eq] at hwf2
  have hmap : ∀ u : Value, xv ad (xv (xsg σ X.length) u) = xv (fun k => ad (xsg σ X.length k)) u := fun u => xv_comp ad (xsg σ X.length) u
  have hwe : xW M' = Cond.code M'.1 (xcc M') (xml M') none :: xtb := by unfold xW; rw [c8]
  refine x_after (a := (Value.ref (ad (xsg σ X.length q0)) :: as.map (xv fun k => ad (xsg σ X.length k))).toArray) G HH hl hwf hnd hX hFr ?_ kk
  refine va_runI (b := ad (xsg σ X.length q0)) (As := as.map (xv fun k => ad (xsg σ X.length k))) ⟨hx, hb, hml, hown, hts⟩ (hC.2 I (fun k => ad (xsg σ X.length k)) H.size) (cwI n hts (xgoodW c2) hwe rfl rfl (hts _ (xwd_in c1)) (hts _ (xmt_in hlk rfl)) (hts _ (xwd_in c6)) (of_decide_eq_true c7) ⟨(of_decide_eq_true c3).1, (of_decide_eq_true c3).2, of_decide_eq_true c4⟩ ⟨?_, ?_⟩) ⟨xPc_blind _ _ _ _ _ _, hpre⟩ rfl (by rw [List.length_map]; exact hn) hl.1.1 ?_ (lv_room ?_) hdg ⟨by omega, by omega⟩
  · show d' + 1 ≤ R.frames; omega
  · show 8 + (xml M' + 11) + 40 * d' ≤ R.locals; omega
  · show ((as.map (xv (xsg σ X.length))).reverse ++ .ref (xsg σ X.length q0) :: rest).map (xv ad) = _
    rw [List.map_append, List.map_reverse, List.map_map, List.map_cons]
    have em : as.map (xv ad ∘ xv (xsg σ X.length)) = as.map (xv fun k => ad (xsg σ X.length k)) := List.map_congr_left (fun u _ => hmap u)
    rw [em]
    try rfl
  · rw [List.map_map]
    have : (rest.map ((fun v => v.category) ∘ xv ad)) = rest.map (fun v => v.category) := List.map_congr_left (fun u _ => xv_cat ad u)
    rw [this]; exact hwf2.2
set_option maxHeartbeats 1000000 in
/-- a call of a private constructor of the nest -/
theorem AJ.callN {L : xLn} {M : xM} {d mc ms : Nat} {Q : Option Value → List xE → Prop} {n0 : Nat} {z : Nat × Nat} {pc : Nat} {ls : List (Option Value)} {st : List Value} {X : List xE} (hM : xMk M = true) {M' : xM} {d' mc' ms' q0 n : Nat} {as : List Value} {Xc : List xE} {Qc : Option Value → List xE → Prop}
    (hC : CT L M' d' mc' ms' (.ref q0 :: as) Xc Qc) (hcv : xcB M' 2 n = true) {idx nx tg : Nat} {v : Int32} {w : Int64} {a b t : Nat} {sw : List (Int32 × Nat)} (ho : xat M pc = some (.invokespecial idx, nx, tg, v, w, a, b, t, sw)) (hlk : (xown M, idx, M'.1) ∈ xnl)
    (σ : List Nat) (rest : List Value) (hst : st = (as.map (xv (xsg σ X.length))).reverse ++ .ref (xsg σ X.length q0) :: rest) (hn : as.length = n) (hX : σ.map (fun i => X[i]?) = Xc.map (fun c => some (xrE (xsg σ X.length) c)))
    (hnd : va_nd σ = true) (hwf : xwf X ls rest = true) (hd : Nat.blt d' d = true) (hmm : (Nat.ble (z.1 + mc') mc && Nat.ble (z.2 + ms') ms) = true)
    (kk : ∀ (r : Option Value) (Y : List xE), Qc r Y → Nat.ble (X.length + Y.length) xB = true ∧ AJ L M d mc ms Q n0 (z.1 + mc', z.2 + ms') nx ls (r.toList ++ rest) (xput σ X Y)) : AJ L M d mc ms Q n0 z pc ls st X := by
  subst hst
  intro p e R s m args below meth c I A QF ad0 G ad H locs la HH hl
  obtain ⟨⟨hx, hb, hr, hml, hown, hts, hK, hlk2, hini, hA, hfr, hlo⟩, hmc, hms, hF, hret⟩ := id G
  have hck := xat_ck hM ho
  simp only [xck, Bool.and_eq_true] at hck
  obtain ⟨hdg, hnx, -⟩ := hck
  obtain rfl := xnx hnx
  have hdg := of_decide_eq_true hdg
  rw [Nat.add_sub_cancel_left] at hdg
  simp only [xcB, Bool.and_eq_true, Nat.ble_eq] at hcv
  obtain ⟨⟨⟨⟨⟨c1, c2⟩, c3⟩, c4⟩, c5⟩, ⟨c6, c7⟩, c8⟩ := hcv
  have c8 := of_decide_eq_true c8
  simp only [Bool.and_eq_true, Nat.ble_eq] at hmm
  have hd : d' < d := Nat.blt_eq.mp hd
  obtain ⟨⟨hPc, hFr⟩, hpre⟩ := x_before (av := .ref q0 :: as) hK hF hA HH hC.1 hnd hX
  have hwf2 := hwf
  simp only [xwf, Bool.and_eq_true, Nat.ble_eq] at hwf2
  have hmap : ∀ u : Value, xv ad (xv (xsg σ X.length) u) = xv (fun k => ad (xsg σ X.length k)) u := fun u => xv_comp ad (xsg σ X.length) u
  have hwe : xW M' = Cond.code M'.1 (xcc M') (xml M') none :: xtb := by unfold xW; rw [c8]
  refine x_after (a := (Value.ref (ad (xsg σ X.length q0)) :: as.map (xv fun k => ad (xsg σ X.length k))).toArray) G HH hl hwf hnd hX hFr ?_ kk
  refine va_runIN (host := "NeededStop") (b := ad (xsg σ X.length q0)) (As := as.map (xv fun k => ad (xsg σ X.length k))) ⟨hx, hb, hml, hown, hts⟩ (hC.2 I (fun k => ad (xsg σ X.length k)) H.size) ⟨va_cnB n hts (xgoodW c2) hwe rfl rfl (hF.2.2.2.2.2.2.2.1 _ hlk) (hts _ (xwd_in c1)) ⟨(of_decide_eq_true c3).1, (of_decide_eq_true c3).2, of_decide_eq_true c4⟩ ⟨?_, ?_⟩, of_decide_eq_true c7, hts _ (xwd_in c6)⟩ ⟨xPc_blind _ _ _ _ _ _, hpre⟩ rfl (by rw [List.length_map]; exact hn) hl.1.1 ?_ (lv_room ?_) hdg ⟨by omega, by omega⟩
  · show d' + 1 ≤ R.frames; omega
  · show 8 + (xml M' + 11) + 40 * d' ≤ R.locals; omega
  · show ((as.map (xv (xsg σ X.length))).reverse ++ .ref (xsg σ X.length q0) :: rest).map (xv ad) = _
    rw [List.map_append, List.map_reverse, List.map_map, List.map_cons]
    have em : as.map (xv ad ∘ xv (xsg σ X.length)) = as.map (xv fun k => ad (xsg σ X.length k)) := List.map_congr_left (fun u _ => hmap u)
    rw [em]
    try rfl
  · rw [List.map_map]
    have : (rest.map ((fun v => v.category) ∘ xv ad)) = rest.map (fun v => v.category) := List.map_congr_left (fun u _ => xv_cat ad u)
    rw [this]; exact hwf2.2
