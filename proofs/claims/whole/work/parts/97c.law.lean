/-! ===== the law ===== -/
def modS (s : xN) (j : Int64) (a : Nat → xN) : List xE := (modW s j a).map (xrE (fun k => 133 + k))
def lawW (x : xN) (xa : Nat → xN) (D : Nat → xN) (E : Nat → Nat → xN) (T : Nat → xN) (U : Nat → Nat → xN) (s : xN) (j : Int64) (a : Nat → xN) : List xE := clsW x xa D E T U ++ modS s j a
set_option maxRecDepth 100000 in
theorem law_len (x : xN) (xa : Nat → xN) (D : Nat → xN) (E : Nat → Nat → xN) (T : Nat → xN) (U : Nat → Nat → xN) (s : xN) (j : Int64) (a : Nat → xN) : (lawW x xa D E T U s j a).length = 146 := rfl
set_option maxRecDepth 100000 in
theorem law_ok (x : xN) (xa : Nat → xN) (D : Nat → xN) (E : Nat → Nat → xN) (T : Nat → xN) (U : Nat → Nat → xN) (s : xN) (j : Int64) (a : Nat → xN) : (lawW x xa D E T U s j a).all (xoke 146) = true := rfl
theorem law_wf {x : xN} {xa : Nat → xN} {D : Nat → xN} {E : Nat → Nat → xN} {T : Nat → xN} {U : Nat → Nat → xN} {s : xN} {j : Int64} {a : Nat → xN} {ls : List (Option Value)} {rest : List Value} (h : (ls.all (fun o => match o with | none => true | some v => xokv 146 v) && rest.all (xokv 146) && Nat.ble (rest.map fun v => v.category).sum 8) = true) : xwf (lawW x xa D E T U s j a) ls rest = true := by
  unfold xwf
  rw [law_len, law_ok, Bool.true_and]
  exact h
set_option maxRecDepth 100000 in
theorem cls_se (x : xN) (xa : Nat → xN) (D : Nat → xN) (E : Nat → Nat → xN) (T : Nat → xN) (U : Nat → Nat → xN) : (clsW x xa D E T U).all (xse 133) = true := rfl
theorem mod_se (s : xN) (j : Int64) (a : Nat → xN) : (modW s j a).all (xse 13) = true := rfl
theorem mod_len (s : xN) (j : Int64) (a : Nat → xN) : (modW s j a).length = 13 := rfl
theorem law_c (x : xN) (xa : Nat → xN) (D : Nat → xN) (E : Nat → Nat → xN) (T : Nat → xN) (U : Nat → Nat → xN) (s : xN) (j : Int64) (a : Nat → xN) : segW [] (clsW x xa D E T U) (modS s j a) = lawW x xa D E T U s j a := by
  show [] ++ ((clsW x xa D E T U).map (xrE (fun k => 0 + k)) ++ modS s j a) = _
  rw [map_self]
  rfl
theorem law_m (x : xN) (xa : Nat → xN) (D : Nat → xN) (E : Nat → Nat → xN) (T : Nat → xN) (U : Nat → Nat → xN) (s : xN) (j : Int64) (a : Nat → xN) : segW (clsW x xa D E T U) (modW s j a) [] = lawW x xa D E T U s j a := by
  unfold segW
  rw [cls_len, List.append_nil]
  rfl
theorem nd_c : va_nd (List.range' 0 133) = true := by decide +kernel
theorem nd_m : va_nd (List.range' 133 13) = true := by decide +kernel
abbrev lwL (i : Int32) : List (Option Value) := [some (.ref (xB + 40)), some (.ref 0), some (.ref 133), some (.int i)]
theorem yw_okL (i : Int32) (rest : List Value) (h : (rest.all (xokv 146) && Nat.ble (rest.map fun v => v.category).sum 8) = true) : ((lwL i).all (fun o => match o with | none => true | some v => xokv 146 v) && rest.all (xokv 146) && Nat.ble (rest.map fun v => v.category).sum 8) = true := by
  rw [Bool.and_assoc, h]
  rfl
abbrev lwZ : Nat × Nat := (146, 4791)
abbrev lwJ (L : xLn) (Q : Option Value → List xE → Prop) (pc : Nat) (i : Int32) (st : List Value) (X : List xE) : Prop := AJ L mL_law 10 146 4791 Q 0 lwZ pc (lwL i) st X
theorem yw_x {L : xLn} {Q : Option Value → List xE → Prop} {pc nx : Nat} {i : Int32} {st : List Value} {x : xN} {xa : Nat → xN} {D : Nat → xN} {E : Nat → Nat → xN} {T : Nat → xN} {U : Nat → Nat → xN} {s : xN} {j : Int64} {a : Nat → xN} {M' : xM} {d' n : Nat} {as : List Value} {MQ : Option Value → List xE → Prop} (hC : CT L M' d' 0 0 (.ref 0 :: as) (clsW x xa D E T U) (relQ MQ)) (hcv : xcB M' 0 n = true) {idx tg : Nat} {v : Int32} {w : Int64} {b0 b t : Nat} {sw : List (Int32 × Nat)} (ho : xat mL_law pc = some (.invokevirtual idx, nx, tg, v, w, b0, b, t, sw)) (hlk : xmt t (.methodLink (xown mL_law) idx M'.1) = true) (hst : st = as.reverse ++ [.ref 0]) (has : ∀ f, as.map (xv f) = as) (hn : as.length = n) (hr1 : "NeededStop" = M'.1.cls) (hd : Nat.blt d' 10 = true)
    (kk : ∀ v x xa D E T U, (∀ rm Ym, MQ rm Ym → rm = some (.int v) ∧ ∃ s' j' a', Ym = modW s' j' a' ∧ CJ x xa D E T U s' a') → lwJ L Q nx i [.int v] (lawW x xa D E T U s j a)) : lwJ L Q pc i st (lawW x xa D E T U s j a) := by
  unfold lwJ
  rw [← law_c]
  refine AJ.callG kL_law hC hcv ho hlk [] hst has hn (by rw [cls_len]; omega) (by rw [cls_len]; exact cls_se x xa D E T U) (ci := 7) rfl (r := vwCl[7]) rfl hr1 (by rw [cls_len]; exact nd_c) ?_ hd rfl (by rw [law_c, law_len, cls_len]; rfl) ?_
  · rw [law_c]
    exact law_wf (yw_okL i [] rfl)
  · rintro r Y ⟨v, x', xa', D', E', T', U', rfl, rfl, h⟩
    refine ⟨by rw [cls_len, cls_len], by rw [cls_len]; exact cls_se x' xa' D' E' T' U', ?_⟩
    rw [law_c]
    exact kk v x' xa' D' E' T' U' h
theorem yw_m {L : xLn} {Q : Option Value → List xE → Prop} {pc nx : Nat} {i : Int32} {st : List Value} {x : xN} {xa : Nat → xN} {D : Nat → xN} {E : Nat → Nat → xN} {T : Nat → xN} {U : Nat → Nat → xN} {s : xN} {j : Int64} {a : Nat → xN} {M' : xM} {d' n : Nat} {as : List Value} {MQ : Option Value → List xE → Prop} (hC : CT L M' d' 0 0 (.ref 0 :: as) (modW s j a) MQ) {v : Int32} (hR : ∀ rm Ym, MQ rm Ym → rm = some (.int v) ∧ ∃ s' j' a', Ym = modW s' j' a' ∧ CJ x xa D E T U s' a') (hcv : xcB M' 0 n = true) {idx tg : Nat} {v0 : Int32} {w : Int64} {b0 b t : Nat} {sw : List (Int32 × Nat)} (ho : xat mL_law pc = some (.invokevirtual idx, nx, tg, v0, w, b0, b, t, sw)) (hlk : xmt t (.methodLink (xown mL_law) idx M'.1) = true) (hst : st = as.reverse ++ [.ref 133, .int v]) (has : ∀ f, as.map (xv f) = as) (hn : as.length = n) (hr1 : "NeededStopModel" = M'.1.cls) (hd : Nat.blt d' 10 = true)
    (kk : ∀ s j a, CJ x xa D E T U s a → lwJ L Q nx i [.int v, .int v] (lawW x xa D E T U s j a)) : lwJ L Q pc i st (lawW x xa D E T U s j a) := by
  unfold lwJ
  rw [← law_m]
  refine AJ.callG kL_law hC hcv ho hlk [.int v] (by rw [cls_len]; exact hst) has hn (by rw [mod_len]; omega) (by rw [mod_len]; exact mod_se s j a) (ci := 8) rfl (r := vwCl[8]) rfl hr1 (by rw [cls_len, mod_len]; exact nd_m) ?_ hd rfl (by rw [law_m, law_len, mod_len]; rfl) ?_
  · rw [law_m]
    exact law_wf (yw_okL i [.int v] rfl)
  · intro r Y hq
    obtain ⟨rfl, s', j', a', rfl, hJ⟩ := hR r Y hq
    refine ⟨by rw [mod_len, mod_len], by rw [mod_len]; exact mod_se s' j' a', ?_⟩
    rw [law_m]
    exact kk s' j' a' hJ

set_option maxRecDepth 100000 in
theorem yw_write (L : xLn) (Q : Option Value → List xE → Prop) (i : Nat) (hi : i + 4 ≤ L.2.1) (hL : L.2.1 ≤ 256) (h : ∀ x xa D E T U s j a, CJ x xa D E T U s a → lwJ L Q 18 (nI i + 4) [] (lawW x xa D E T U s j a)) (x : xN) (xa : Nat → xN) (D : Nat → xN) (E : Nat → Nat → xN) (T : Nat → xN) (U : Nat → Nat → xN) (s : xN) (j : Int64) (a : Nat → xN) (hJ : CJ x xa D E T U s a) : lwJ L Q 144 (nI i) [] (lawW x xa D E T U s j a) := by
  have e1 : nI i + 1 = nI (i + 1) := nI_add i 1
  have e2 : nI i + 2 = nI (i + 2) := nI_add i 2
  have e3 : nI i + 3 = nI (i + 3) := nI_add i 3
  obtain ⟨dx, dm, MQ, hdx, hdm, cx, cm⟩ := p_write L x xa D E T U s j a hJ ((L.2.2 (i + 1)).toInt64 <<< ((32 : Int32).toInt64 &&& 63) ||| (L.2.2 (i + 2)).toInt64 &&& 4294967295) (L.2.2 (i + 3))
  refine AJ.run kL_law [] 40 ⟨i + 1, e1, by omega, by omega, ⟨i + 2, e2, by omega, by omega, ⟨i + 3, e3, by omega, by omega, ?_⟩⟩⟩
  refine yw_x cx bX7_write rfl (by decide +kernel) rfl (fun _ => rfl) rfl rfl hdx (fun v x xa D E T U hR => ?_)
  refine AJ.run kL_law [] 40 ⟨i + 1, e1, by omega, by omega, ⟨i + 2, e2, by omega, by omega, ⟨i + 3, e3, by omega, by omega, ?_⟩⟩⟩
  refine yw_m cm hR bX8_write rfl (by decide +kernel) rfl (fun _ => rfl) rfl rfl hdm (fun s j a hJ => ?_)
  exact AJ.run kL_law [18] 20 ⟨fun _ => h x xa D E T U s j a hJ, fun z => absurd rfl z⟩
set_option maxRecDepth 100000 in
theorem yw_erase (L : xLn) (Q : Option Value → List xE → Prop) (i : Nat) (hi : i + 4 ≤ L.2.1) (hL : L.2.1 ≤ 256) (h : ∀ x xa D E T U s j a, CJ x xa D E T U s a → lwJ L Q 18 (nI i + 4) [] (lawW x xa D E T U s j a)) (x : xN) (xa : Nat → xN) (D : Nat → xN) (E : Nat → Nat → xN) (T : Nat → xN) (U : Nat → Nat → xN) (s : xN) (j : Int64) (a : Nat → xN) (hJ : CJ x xa D E T U s a) : lwJ L Q 207 (nI i) [] (lawW x xa D E T U s j a) := by
  have e1 : nI i + 1 = nI (i + 1) := nI_add i 1
  have e2 : nI i + 2 = nI (i + 2) := nI_add i 2
  have e3 : nI i + 3 = nI (i + 3) := nI_add i 3
  obtain ⟨dx, dm, MQ, hdx, hdm, cx, cm⟩ := p_erase L x xa D E T U s j a hJ
  refine AJ.run kL_law [] 40 ?_
  refine yw_x cx bX7_erase rfl (by decide +kernel) rfl (fun _ => rfl) rfl rfl hdx (fun v x xa D E T U hR => ?_)
  refine AJ.run kL_law [] 40 ?_
  refine yw_m cm hR bX8_erase rfl (by decide +kernel) rfl (fun _ => rfl) rfl rfl hdm (fun s j a hJ => ?_)
  exact AJ.run kL_law [18] 20 ⟨fun _ => h x xa D E T U s j a hJ, fun z => absurd rfl z⟩
set_option maxRecDepth 100000 in
theorem yw_fault (L : xLn) (Q : Option Value → List xE → Prop) (i : Nat) (hi : i + 4 ≤ L.2.1) (hL : L.2.1 ≤ 256) (h : ∀ x xa D E T U s j a, CJ x xa D E T U s a → lwJ L Q 18 (nI i + 4) [] (lawW x xa D E T U s j a)) (x : xN) (xa : Nat → xN) (D : Nat → xN) (E : Nat → Nat → xN) (T : Nat → xN) (U : Nat → Nat → xN) (s : xN) (j : Int64) (a : Nat → xN) (hJ : CJ x xa D E T U s a) : lwJ L Q 220 (nI i) [] (lawW x xa D E T U s j a) := by
  have e1 : nI i + 1 = nI (i + 1) := nI_add i 1
  have e2 : nI i + 2 = nI (i + 2) := nI_add i 2
  have e3 : nI i + 3 = nI (i + 3) := nI_add i 3
  obtain ⟨dx, dm, MQ, hdx, hdm, cx, cm⟩ := p_fault L x xa D E T U s j a hJ
  refine AJ.run kL_law [] 40 ?_
  refine yw_x cx bX7_fault rfl (by decide +kernel) rfl (fun _ => rfl) rfl rfl hdx (fun v x xa D E T U hR => ?_)
  refine AJ.run kL_law [] 40 ?_
  refine yw_m cm hR bX8_fault rfl (by decide +kernel) rfl (fun _ => rfl) rfl rfl hdm (fun s j a hJ => ?_)
  exact AJ.run kL_law [18] 20 ⟨fun _ => h x xa D E T U s j a hJ, fun z => absurd rfl z⟩
set_option maxRecDepth 100000 in
theorem yw_rail (L : xLn) (Q : Option Value → List xE → Prop) (i : Nat) (hi : i + 4 ≤ L.2.1) (hL : L.2.1 ≤ 256) (h : ∀ x xa D E T U s j a, CJ x xa D E T U s a → lwJ L Q 18 (nI i + 4) [] (lawW x xa D E T U s j a)) (x : xN) (xa : Nat → xN) (D : Nat → xN) (E : Nat → Nat → xN) (T : Nat → xN) (U : Nat → Nat → xN) (s : xN) (j : Int64) (a : Nat → xN) (hJ : CJ x xa D E T U s a) : lwJ L Q 233 (nI i) [] (lawW x xa D E T U s j a) := by
  have e1 : nI i + 1 = nI (i + 1) := nI_add i 1
  have e2 : nI i + 2 = nI (i + 2) := nI_add i 2
  have e3 : nI i + 3 = nI (i + 3) := nI_add i 3
  obtain ⟨dx, dm, MQ, hdx, hdm, cx, cm⟩ := p_rail L x xa D E T U s j a hJ
  refine AJ.run kL_law [] 40 ?_
  refine yw_x cx bX7_rail rfl (by decide +kernel) rfl (fun _ => rfl) rfl rfl hdx (fun v x xa D E T U hR => ?_)
  refine AJ.run kL_law [] 40 ?_
  refine yw_m cm hR bX8_rail rfl (by decide +kernel) rfl (fun _ => rfl) rfl rfl hdm (fun s j a hJ => ?_)
  exact AJ.run kL_law [18] 20 ⟨fun _ => h x xa D E T U s j a hJ, fun z => absurd rfl z⟩
set_option maxRecDepth 100000 in
theorem yw_mood (L : xLn) (Q : Option Value → List xE → Prop) (i : Nat) (hi : i + 4 ≤ L.2.1) (hL : L.2.1 ≤ 256) (h : ∀ x xa D E T U s j a, CJ x xa D E T U s a → lwJ L Q 18 (nI i + 4) [] (lawW x xa D E T U s j a)) (x : xN) (xa : Nat → xN) (D : Nat → xN) (E : Nat → Nat → xN) (T : Nat → xN) (U : Nat → Nat → xN) (s : xN) (j : Int64) (a : Nat → xN) (hJ : CJ x xa D E T U s a) : lwJ L Q 246 (nI i) [] (lawW x xa D E T U s j a) := by
  have e1 : nI i + 1 = nI (i + 1) := nI_add i 1
  have e2 : nI i + 2 = nI (i + 2) := nI_add i 2
  have e3 : nI i + 3 = nI (i + 3) := nI_add i 3
  obtain ⟨dx, dm, MQ, hdx, hdm, cx, cm⟩ := p_mood L x xa D E T U s j a hJ (L.2.2 (i + 1)) (L.2.2 (i + 2))
  refine AJ.run kL_law [] 40 ⟨i + 1, e1, by omega, by omega, ⟨i + 2, e2, by omega, by omega, ?_⟩⟩
  refine yw_x cx bX7_mood rfl (by decide +kernel) rfl (fun _ => rfl) rfl rfl hdx (fun v x xa D E T U hR => ?_)
  refine AJ.run kL_law [] 40 ⟨i + 1, e1, by omega, by omega, ⟨i + 2, e2, by omega, by omega, ?_⟩⟩
  refine yw_m cm hR bX8_mood rfl (by decide +kernel) rfl (fun _ => rfl) rfl rfl hdm (fun s j a hJ => ?_)
  exact AJ.run kL_law [18] 20 ⟨fun _ => h x xa D E T U s j a hJ, fun z => absurd rfl z⟩
set_option maxRecDepth 100000 in
theorem yw_drawn (L : xLn) (Q : Option Value → List xE → Prop) (i : Nat) (hi : i + 4 ≤ L.2.1) (hL : L.2.1 ≤ 256) (h : ∀ x xa D E T U s j a, CJ x xa D E T U s a → lwJ L Q 18 (nI i + 4) [] (lawW x xa D E T U s j a)) (x : xN) (xa : Nat → xN) (D : Nat → xN) (E : Nat → Nat → xN) (T : Nat → xN) (U : Nat → Nat → xN) (s : xN) (j : Int64) (a : Nat → xN) (hJ : CJ x xa D E T U s a) : lwJ L Q 279 (nI i) [] (lawW x xa D E T U s j a) := by
  have e1 : nI i + 1 = nI (i + 1) := nI_add i 1
  have e2 : nI i + 2 = nI (i + 2) := nI_add i 2
  have e3 : nI i + 3 = nI (i + 3) := nI_add i 3
  obtain ⟨dx, dm, MQ, hdx, hdm, cx, cm⟩ := p_drawn L x xa D E T U s j a hJ (L.2.2 (i + 1)) (L.2.2 (i + 2))
  refine AJ.run kL_law [] 40 ⟨i + 1, e1, by omega, by omega, ⟨i + 2, e2, by omega, by omega, ?_⟩⟩
  refine yw_x cx bX7_drawn rfl (by decide +kernel) rfl (fun _ => rfl) rfl rfl hdx (fun v x xa D E T U hR => ?_)
  refine AJ.run kL_law [] 40 ⟨i + 1, e1, by omega, by omega, ⟨i + 2, e2, by omega, by omega, ?_⟩⟩
  refine yw_m cm hR bX8_drawn rfl (by decide +kernel) rfl (fun _ => rfl) rfl rfl hdm (fun s j a hJ => ?_)
  exact AJ.run kL_law [18] 20 ⟨fun _ => h x xa D E T U s j a hJ, fun z => absurd rfl z⟩
set_option maxRecDepth 100000 in
theorem yw_go (L : xLn) (Q : Option Value → List xE → Prop) (i : Nat) (hi : i + 4 ≤ L.2.1) (hL : L.2.1 ≤ 256) (h : ∀ x xa D E T U s j a, CJ x xa D E T U s a → lwJ L Q 18 (nI i + 4) [] (lawW x xa D E T U s j a)) (x : xN) (xa : Nat → xN) (D : Nat → xN) (E : Nat → Nat → xN) (T : Nat → xN) (U : Nat → Nat → xN) (s : xN) (j : Int64) (a : Nat → xN) (hJ : CJ x xa D E T U s a) : lwJ L Q 312 (nI i) [] (lawW x xa D E T U s j a) := by
  have e1 : nI i + 1 = nI (i + 1) := nI_add i 1
  have e2 : nI i + 2 = nI (i + 2) := nI_add i 2
  have e3 : nI i + 3 = nI (i + 3) := nI_add i 3
  obtain ⟨dx, dm, MQ, hdx, hdm, cx, cm⟩ := p_go L x xa D E T U s j a hJ (L.2.2 (i + 1))
  refine AJ.run kL_law [] 40 ⟨i + 1, e1, by omega, by omega, ?_⟩
  refine yw_x cx bX7_go rfl (by decide +kernel) rfl (fun _ => rfl) rfl rfl hdx (fun v x xa D E T U hR => ?_)
  refine AJ.run kL_law [] 40 ⟨i + 1, e1, by omega, by omega, ?_⟩
  refine yw_m cm hR bX8_go rfl (by decide +kernel) rfl (fun _ => rfl) rfl rfl hdm (fun s j a hJ => ?_)
  exact AJ.run kL_law [18] 20 ⟨fun _ => h x xa D E T U s j a hJ, fun z => absurd rfl z⟩
set_option maxRecDepth 100000 in
theorem yw_tram (L : xLn) (Q : Option Value → List xE → Prop) (i : Nat) (hi : i + 4 ≤ L.2.1) (hL : L.2.1 ≤ 256) (h : ∀ x xa D E T U s j a, CJ x xa D E T U s a → lwJ L Q 18 (nI i + 4) [] (lawW x xa D E T U s j a)) (x : xN) (xa : Nat → xN) (D : Nat → xN) (E : Nat → Nat → xN) (T : Nat → xN) (U : Nat → Nat → xN) (s : xN) (j : Int64) (a : Nat → xN) (hJ : CJ x xa D E T U s a) : lwJ L Q 335 (nI i) [] (lawW x xa D E T U s j a) := by
  have e1 : nI i + 1 = nI (i + 1) := nI_add i 1
  have e2 : nI i + 2 = nI (i + 2) := nI_add i 2
  have e3 : nI i + 3 = nI (i + 3) := nI_add i 3
  obtain ⟨dx, dm, MQ, hdx, hdm, cx, cm⟩ := p_tram L x xa D E T U s j a hJ (L.2.2 (i + 1)) (L.2.2 (i + 2))
  refine AJ.run kL_law [] 40 ⟨i + 1, e1, by omega, by omega, ⟨i + 2, e2, by omega, by omega, ?_⟩⟩
  refine yw_x cx bX7_tram rfl (by decide +kernel) rfl (fun _ => rfl) rfl rfl hdx (fun v x xa D E T U hR => ?_)
  refine AJ.run kL_law [] 40 ⟨i + 1, e1, by omega, by omega, ⟨i + 2, e2, by omega, by omega, ?_⟩⟩
  refine yw_m cm hR bX8_tram rfl (by decide +kernel) rfl (fun _ => rfl) rfl rfl hdm (fun s j a hJ => ?_)
  exact AJ.run kL_law [18] 20 ⟨fun _ => h x xa D E T U s j a hJ, fun z => absurd rfl z⟩
set_option maxRecDepth 100000 in
theorem yw_person (L : xLn) (Q : Option Value → List xE → Prop) (i : Nat) (hi : i + 4 ≤ L.2.1) (hL : L.2.1 ≤ 256) (h : ∀ x xa D E T U s j a, CJ x xa D E T U s a → lwJ L Q 18 (nI i + 4) [] (lawW x xa D E T U s j a)) (x : xN) (xa : Nat → xN) (D : Nat → xN) (E : Nat → Nat → xN) (T : Nat → xN) (U : Nat → Nat → xN) (s : xN) (j : Int64) (a : Nat → xN) (hJ : CJ x xa D E T U s a) : lwJ L Q 368 (nI i) [] (lawW x xa D E T U s j a) := by
  have e1 : nI i + 1 = nI (i + 1) := nI_add i 1
  have e2 : nI i + 2 = nI (i + 2) := nI_add i 2
  have e3 : nI i + 3 = nI (i + 3) := nI_add i 3
  obtain ⟨dx, dm, MQ, hdx, hdm, cx, cm⟩ := p_person L x xa D E T U s j a hJ (L.2.2 (i + 1)) (L.2.2 (i + 2))
  refine AJ.run kL_law [] 40 ⟨i + 1, e1, by omega, by omega, ⟨i + 2, e2, by omega, by omega, ?_⟩⟩
  refine yw_x cx bX7_person rfl (by decide +kernel) rfl (fun _ => rfl) rfl rfl hdx (fun v x xa D E T U hR => ?_)
  refine AJ.run kL_law [] 40 ⟨i + 1, e1, by omega, by omega, ⟨i + 2, e2, by omega, by omega, ?_⟩⟩
  refine yw_m cm hR bX8_person rfl (by decide +kernel) rfl (fun _ => rfl) rfl rfl hdm (fun s j a hJ => ?_)
  exact AJ.run kL_law [18] 20 ⟨fun _ => h x xa D E T U s j a hJ, fun z => absurd rfl z⟩
set_option maxRecDepth 100000 in
theorem yw_halt (L : xLn) (Q : Option Value → List xE → Prop) (i : Nat) (hi : i + 4 ≤ L.2.1) (hL : L.2.1 ≤ 256) (h : ∀ x xa D E T U s j a, CJ x xa D E T U s a → lwJ L Q 18 (nI i + 4) [] (lawW x xa D E T U s j a)) (x : xN) (xa : Nat → xN) (D : Nat → xN) (E : Nat → Nat → xN) (T : Nat → xN) (U : Nat → Nat → xN) (s : xN) (j : Int64) (a : Nat → xN) (hJ : CJ x xa D E T U s a) : lwJ L Q 401 (nI i) [] (lawW x xa D E T U s j a) := by
  have e1 : nI i + 1 = nI (i + 1) := nI_add i 1
  have e2 : nI i + 2 = nI (i + 2) := nI_add i 2
  have e3 : nI i + 3 = nI (i + 3) := nI_add i 3
  obtain ⟨dx, dm, MQ, hdx, hdm, cx, cm⟩ := p_halt L x xa D E T U s j a hJ (L.2.2 (i + 1)) (L.2.2 (i + 2))
  refine AJ.run kL_law [] 40 ⟨i + 1, e1, by omega, by omega, ⟨i + 2, e2, by omega, by omega, ?_⟩⟩
  refine yw_x cx bX7_halt rfl (by decide +kernel) rfl (fun _ => rfl) rfl rfl hdx (fun v x xa D E T U hR => ?_)
  refine AJ.run kL_law [] 40 ⟨i + 1, e1, by omega, by omega, ⟨i + 2, e2, by omega, by omega, ?_⟩⟩
  refine yw_m cm hR bX8_halt rfl (by decide +kernel) rfl (fun _ => rfl) rfl rfl hdm (fun s j a hJ => ?_)
  exact AJ.run kL_law [18] 20 ⟨fun _ => h x xa D E T U s j a hJ, fun z => absurd rfl z⟩
set_option maxRecDepth 100000 in
theorem yw_keep (L : xLn) (Q : Option Value → List xE → Prop) (i : Nat) (hi : i + 4 ≤ L.2.1) (hL : L.2.1 ≤ 256) (h : ∀ x xa D E T U s j a, CJ x xa D E T U s a → lwJ L Q 18 (nI i + 4) [] (lawW x xa D E T U s j a)) (x : xN) (xa : Nat → xN) (D : Nat → xN) (E : Nat → Nat → xN) (T : Nat → xN) (U : Nat → Nat → xN) (s : xN) (j : Int64) (a : Nat → xN) (hJ : CJ x xa D E T U s a) : lwJ L Q 434 (nI i) [] (lawW x xa D E T U s j a) := by
  have e1 : nI i + 1 = nI (i + 1) := nI_add i 1
  have e2 : nI i + 2 = nI (i + 2) := nI_add i 2
  have e3 : nI i + 3 = nI (i + 3) := nI_add i 3
  obtain ⟨dx, dm, MQ, hdx, hdm, cx, cm⟩ := p_keep L x xa D E T U s j a hJ (L.2.2 (i + 1))
  refine AJ.run kL_law [] 40 ⟨i + 1, e1, by omega, by omega, ?_⟩
  refine yw_x cx bX7_keep rfl (by decide +kernel) rfl (fun _ => rfl) rfl rfl hdx (fun v x xa D E T U hR => ?_)
  refine AJ.run kL_law [] 40 ⟨i + 1, e1, by omega, by omega, ?_⟩
  refine yw_m cm hR bX8_keep rfl (by decide +kernel) rfl (fun _ => rfl) rfl rfl hdm (fun s j a hJ => ?_)
  exact AJ.run kL_law [18] 20 ⟨fun _ => h x xa D E T U s j a hJ, fun z => absurd rfl z⟩
set_option maxRecDepth 100000 in
theorem yw_back (L : xLn) (Q : Option Value → List xE → Prop) (i : Nat) (hi : i + 4 ≤ L.2.1) (hL : L.2.1 ≤ 256) (h : ∀ x xa D E T U s j a, CJ x xa D E T U s a → lwJ L Q 18 (nI i + 4) [] (lawW x xa D E T U s j a)) (x : xN) (xa : Nat → xN) (D : Nat → xN) (E : Nat → Nat → xN) (T : Nat → xN) (U : Nat → Nat → xN) (s : xN) (j : Int64) (a : Nat → xN) (hJ : CJ x xa D E T U s a) : lwJ L Q 457 (nI i) [] (lawW x xa D E T U s j a) := by
  have e1 : nI i + 1 = nI (i + 1) := nI_add i 1
  have e2 : nI i + 2 = nI (i + 2) := nI_add i 2
  have e3 : nI i + 3 = nI (i + 3) := nI_add i 3
  obtain ⟨dx, dm, MQ, hdx, hdm, cx, cm⟩ := p_back L x xa D E T U s j a hJ (L.2.2 (i + 1))
  refine AJ.run kL_law [] 40 ⟨i + 1, e1, by omega, by omega, ?_⟩
  refine yw_x cx bX7_back rfl (by decide +kernel) rfl (fun _ => rfl) rfl rfl hdx (fun v x xa D E T U hR => ?_)
  refine AJ.run kL_law [] 40 ⟨i + 1, e1, by omega, by omega, ?_⟩
  refine yw_m cm hR bX8_back rfl (by decide +kernel) rfl (fun _ => rfl) rfl rfl hdm (fun s j a hJ => ?_)
  exact AJ.run kL_law [18] 20 ⟨fun _ => h x xa D E T U s j a hJ, fun z => absurd rfl z⟩
set_option maxRecDepth 100000 in
theorem yw_home (L : xLn) (Q : Option Value → List xE → Prop) (i : Nat) (hi : i + 4 ≤ L.2.1) (hL : L.2.1 ≤ 256) (h : ∀ x xa D E T U s j a, CJ x xa D E T U s a → lwJ L Q 18 (nI i + 4) [] (lawW x xa D E T U s j a)) (x : xN) (xa : Nat → xN) (D : Nat → xN) (E : Nat → Nat → xN) (T : Nat → xN) (U : Nat → Nat → xN) (s : xN) (j : Int64) (a : Nat → xN) (hJ : CJ x xa D E T U s a) : lwJ L Q 480 (nI i) [] (lawW x xa D E T U s j a) := by
  have e1 : nI i + 1 = nI (i + 1) := nI_add i 1
  have e2 : nI i + 2 = nI (i + 2) := nI_add i 2
  have e3 : nI i + 3 = nI (i + 3) := nI_add i 3
  obtain ⟨dx, dm, MQ, hdx, hdm, cx, cm⟩ := p_home L x xa D E T U s j a hJ (L.2.2 (i + 1))
  refine AJ.run kL_law [] 40 ⟨i + 1, e1, by omega, by omega, ?_⟩
  refine yw_x cx bX7_home rfl (by decide +kernel) rfl (fun _ => rfl) rfl rfl hdx (fun v x xa D E T U hR => ?_)
  refine AJ.run kL_law [] 40 ⟨i + 1, e1, by omega, by omega, ?_⟩
  refine yw_m cm hR bX8_home rfl (by decide +kernel) rfl (fun _ => rfl) rfl rfl hdm (fun s j a hJ => ?_)
  exact AJ.run kL_law [18] 20 ⟨fun _ => h x xa D E T U s j a hJ, fun z => absurd rfl z⟩
set_option maxRecDepth 100000 in
theorem yw_feigned (L : xLn) (Q : Option Value → List xE → Prop) (i : Nat) (hi : i + 4 ≤ L.2.1) (hL : L.2.1 ≤ 256) (h : ∀ x xa D E T U s j a, CJ x xa D E T U s a → lwJ L Q 18 (nI i + 4) [] (lawW x xa D E T U s j a)) (x : xN) (xa : Nat → xN) (D : Nat → xN) (E : Nat → Nat → xN) (T : Nat → xN) (U : Nat → Nat → xN) (s : xN) (j : Int64) (a : Nat → xN) (hJ : CJ x xa D E T U s a) : lwJ L Q 503 (nI i) [] (lawW x xa D E T U s j a) := by
  have e1 : nI i + 1 = nI (i + 1) := nI_add i 1
  have e2 : nI i + 2 = nI (i + 2) := nI_add i 2
  have e3 : nI i + 3 = nI (i + 3) := nI_add i 3
  obtain ⟨dx, dm, MQ, hdx, hdm, cx, cm⟩ := p_feigned L x xa D E T U s j a hJ (L.2.2 (i + 1)) (L.2.2 (i + 2)) (L.2.2 (i + 3))
  refine AJ.run kL_law [] 40 ⟨i + 1, e1, by omega, by omega, ⟨i + 2, e2, by omega, by omega, ⟨i + 3, e3, by omega, by omega, ?_⟩⟩⟩
  refine yw_x cx bX7_feigned rfl (by decide +kernel) rfl (fun _ => rfl) rfl rfl hdx (fun v x xa D E T U hR => ?_)
  refine AJ.run kL_law [] 40 ⟨i + 1, e1, by omega, by omega, ⟨i + 2, e2, by omega, by omega, ⟨i + 3, e3, by omega, by omega, ?_⟩⟩⟩
  refine yw_m cm hR bX8_feigned rfl (by decide +kernel) rfl (fun _ => rfl) rfl rfl hdm (fun s j a hJ => ?_)
  exact AJ.run kL_law [18] 20 ⟨fun _ => h x xa D E T U s j a hJ, fun z => absurd rfl z⟩
set_option maxRecDepth 100000 in
theorem yw_law (L : xLn) (Q : Option Value → List xE → Prop) (i : Nat) (hi : i + 4 ≤ L.2.1) (hL : L.2.1 ≤ 256) (h : ∀ x xa D E T U s j a, CJ x xa D E T U s a → lwJ L Q 18 (nI i + 4) [] (lawW x xa D E T U s j a)) (x : xN) (xa : Nat → xN) (D : Nat → xN) (E : Nat → Nat → xN) (T : Nat → xN) (U : Nat → Nat → xN) (s : xN) (j : Int64) (a : Nat → xN) (hJ : CJ x xa D E T U s a) : lwJ L Q 546 (nI i) [] (lawW x xa D E T U s j a) := by
  have e1 : nI i + 1 = nI (i + 1) := nI_add i 1
  have e2 : nI i + 2 = nI (i + 2) := nI_add i 2
  have e3 : nI i + 3 = nI (i + 3) := nI_add i 3
  obtain ⟨dx, dm, MQ, hdx, hdm, cx, cm⟩ := p_law L x xa D E T U s j a hJ (L.2.2 (i + 1))
  refine AJ.run kL_law [] 40 ⟨i + 1, e1, by omega, by omega, ?_⟩
  refine yw_x cx bX7_law rfl (by decide +kernel) rfl (fun _ => rfl) rfl rfl hdx (fun v x xa D E T U hR => ?_)
  refine AJ.run kL_law [] 40 ⟨i + 1, e1, by omega, by omega, ?_⟩
  refine yw_m cm hR bX8_law rfl (by decide +kernel) rfl (fun _ => rfl) rfl rfl hdm (fun s j a hJ => ?_)
  exact AJ.run kL_law [18] 20 ⟨fun _ => h x xa D E T U s j a hJ, fun z => absurd rfl z⟩
set_option maxRecDepth 100000 in
theorem yw_worn (L : xLn) (Q : Option Value → List xE → Prop) (i : Nat) (hi : i + 4 ≤ L.2.1) (hL : L.2.1 ≤ 256) (h : ∀ x xa D E T U s j a, CJ x xa D E T U s a → lwJ L Q 18 (nI i + 4) [] (lawW x xa D E T U s j a)) (x : xN) (xa : Nat → xN) (D : Nat → xN) (E : Nat → Nat → xN) (T : Nat → xN) (U : Nat → Nat → xN) (s : xN) (j : Int64) (a : Nat → xN) (hJ : CJ x xa D E T U s a) : lwJ L Q 569 (nI i) [] (lawW x xa D E T U s j a) := by
  have e1 : nI i + 1 = nI (i + 1) := nI_add i 1
  have e2 : nI i + 2 = nI (i + 2) := nI_add i 2
  have e3 : nI i + 3 = nI (i + 3) := nI_add i 3
  obtain ⟨dx, dm, MQ, hdx, hdm, cx, cm⟩ := p_worn L x xa D E T U s j a hJ (L.2.2 (i + 1))
  refine AJ.run kL_law [] 40 ⟨i + 1, e1, by omega, by omega, ?_⟩
  refine yw_x cx bX7_worn rfl (by decide +kernel) rfl (fun _ => rfl) rfl rfl hdx (fun v x xa D E T U hR => ?_)
  refine AJ.run kL_law [] 40 ⟨i + 1, e1, by omega, by omega, ?_⟩
  refine yw_m cm hR bX8_worn rfl (by decide +kernel) rfl (fun _ => rfl) rfl rfl hdm (fun s j a hJ => ?_)
  exact AJ.run kL_law [18] 20 ⟨fun _ => h x xa D E T U s j a hJ, fun z => absurd rfl z⟩
set_option maxRecDepth 100000 in
theorem yw_dry (L : xLn) (Q : Option Value → List xE → Prop) (i : Nat) (hi : i + 4 ≤ L.2.1) (hL : L.2.1 ≤ 256) (h : ∀ x xa D E T U s j a, CJ x xa D E T U s a → lwJ L Q 18 (nI i + 4) [] (lawW x xa D E T U s j a)) (x : xN) (xa : Nat → xN) (D : Nat → xN) (E : Nat → Nat → xN) (T : Nat → xN) (U : Nat → Nat → xN) (s : xN) (j : Int64) (a : Nat → xN) (hJ : CJ x xa D E T U s a) : lwJ L Q 592 (nI i) [] (lawW x xa D E T U s j a) := by
  have e1 : nI i + 1 = nI (i + 1) := nI_add i 1
  have e2 : nI i + 2 = nI (i + 2) := nI_add i 2
  have e3 : nI i + 3 = nI (i + 3) := nI_add i 3
  obtain ⟨dx, dm, MQ, hdx, hdm, cx, cm⟩ := p_dry L x xa D E T U s j a hJ
  refine AJ.run kL_law [] 40 ?_
  refine yw_x cx bX7_dry rfl (by decide +kernel) rfl (fun _ => rfl) rfl rfl hdx (fun v x xa D E T U hR => ?_)
  refine AJ.run kL_law [] 40 ?_
  refine yw_m cm hR bX8_dry rfl (by decide +kernel) rfl (fun _ => rfl) rfl rfl hdm (fun s j a hJ => ?_)
  exact AJ.run kL_law [18] 20 ⟨fun _ => h x xa D E T U s j a hJ, fun z => absurd rfl z⟩
set_option maxRecDepth 100000 in
theorem yw_last (L : xLn) (Q : Option Value → List xE → Prop) (i : Nat) (hi : i + 4 ≤ L.2.1) (hL : L.2.1 ≤ 256) (h : ∀ x xa D E T U s j a, CJ x xa D E T U s a → lwJ L Q 18 (nI i + 4) [] (lawW x xa D E T U s j a)) (x : xN) (xa : Nat → xN) (D : Nat → xN) (E : Nat → Nat → xN) (T : Nat → xN) (U : Nat → Nat → xN) (s : xN) (j : Int64) (a : Nat → xN) (hJ : CJ x xa D E T U s a) : lwJ L Q 605 (nI i) [] (lawW x xa D E T U s j a) := by
  have e1 : nI i + 1 = nI (i + 1) := nI_add i 1
  have e2 : nI i + 2 = nI (i + 2) := nI_add i 2
  have e3 : nI i + 3 = nI (i + 3) := nI_add i 3
  obtain ⟨dx, dm, MQ, hdx, hdm, cx, cm⟩ := p_last L x xa D E T U s j a hJ (L.2.2 (i + 1))
  refine AJ.run kL_law [] 40 ⟨i + 1, e1, by omega, by omega, ?_⟩
  refine yw_x cx bX7_last rfl (by decide +kernel) rfl (fun _ => rfl) rfl rfl hdx (fun v x xa D E T U hR => ?_)
  refine AJ.run kL_law [] 40 ⟨i + 1, e1, by omega, by omega, ?_⟩
  refine yw_m cm hR bX8_last rfl (by decide +kernel) rfl (fun _ => rfl) rfl rfl hdm (fun s j a hJ => ?_)
  exact AJ.run kL_law [18] 20 ⟨fun _ => h x xa D E T U s j a hJ, fun z => absurd rfl z⟩
set_option maxRecDepth 100000 in
theorem yw_fares (L : xLn) (Q : Option Value → List xE → Prop) (i : Nat) (hi : i + 4 ≤ L.2.1) (hL : L.2.1 ≤ 256) (h : ∀ x xa D E T U s j a, CJ x xa D E T U s a → lwJ L Q 18 (nI i + 4) [] (lawW x xa D E T U s j a)) (x : xN) (xa : Nat → xN) (D : Nat → xN) (E : Nat → Nat → xN) (T : Nat → xN) (U : Nat → Nat → xN) (s : xN) (j : Int64) (a : Nat → xN) (hJ : CJ x xa D E T U s a) : lwJ L Q 628 (nI i) [] (lawW x xa D E T U s j a) := by
  have e1 : nI i + 1 = nI (i + 1) := nI_add i 1
  have e2 : nI i + 2 = nI (i + 2) := nI_add i 2
  have e3 : nI i + 3 = nI (i + 3) := nI_add i 3
  obtain ⟨dx, dm, MQ, hdx, hdm, cx, cm⟩ := p_fares L x xa D E T U s j a hJ
  refine AJ.run kL_law [] 40 ?_
  refine yw_x cx bX7_fares rfl (by decide +kernel) rfl (fun _ => rfl) rfl rfl hdx (fun v x xa D E T U hR => ?_)
  refine AJ.run kL_law [] 40 ?_
  refine yw_m cm hR bX8_fares rfl (by decide +kernel) rfl (fun _ => rfl) rfl rfl hdm (fun s j a hJ => ?_)
  exact AJ.run kL_law [18] 20 ⟨fun _ => h x xa D E T U s j a hJ, fun z => absurd rfl z⟩
set_option maxRecDepth 100000 in
theorem yw_seen (L : xLn) (Q : Option Value → List xE → Prop) (i : Nat) (hi : i + 4 ≤ L.2.1) (hL : L.2.1 ≤ 256) (h : ∀ x xa D E T U s j a, CJ x xa D E T U s a → lwJ L Q 18 (nI i + 4) [] (lawW x xa D E T U s j a)) (x : xN) (xa : Nat → xN) (D : Nat → xN) (E : Nat → Nat → xN) (T : Nat → xN) (U : Nat → Nat → xN) (s : xN) (j : Int64) (a : Nat → xN) (hJ : CJ x xa D E T U s a) : lwJ L Q 641 (nI i) [] (lawW x xa D E T U s j a) := by
  have e1 : nI i + 1 = nI (i + 1) := nI_add i 1
  have e2 : nI i + 2 = nI (i + 2) := nI_add i 2
  have e3 : nI i + 3 = nI (i + 3) := nI_add i 3
  obtain ⟨dx, dm, MQ, hdx, hdm, cx, cm⟩ := p_seen L x xa D E T U s j a hJ (L.2.2 (i + 1)) (L.2.2 (i + 2))
  refine AJ.run kL_law [] 40 ⟨i + 1, e1, by omega, by omega, ⟨i + 2, e2, by omega, by omega, ?_⟩⟩
  refine yw_x cx bX7_seen rfl (by decide +kernel) rfl (fun _ => rfl) rfl rfl hdx (fun v x xa D E T U hR => ?_)
  refine AJ.run kL_law [] 40 ⟨i + 1, e1, by omega, by omega, ⟨i + 2, e2, by omega, by omega, ?_⟩⟩
  refine yw_m cm hR bX8_seen rfl (by decide +kernel) rfl (fun _ => rfl) rfl rfl hdm (fun s j a hJ => ?_)
  exact AJ.run kL_law [18] 20 ⟨fun _ => h x xa D E T U s j a hJ, fun z => absurd rfl z⟩
set_option maxRecDepth 100000 in
theorem yw_forget (L : xLn) (Q : Option Value → List xE → Prop) (i : Nat) (hi : i + 4 ≤ L.2.1) (hL : L.2.1 ≤ 256) (h : ∀ x xa D E T U s j a, CJ x xa D E T U s a → lwJ L Q 18 (nI i + 4) [] (lawW x xa D E T U s j a)) (x : xN) (xa : Nat → xN) (D : Nat → xN) (E : Nat → Nat → xN) (T : Nat → xN) (U : Nat → Nat → xN) (s : xN) (j : Int64) (a : Nat → xN) (hJ : CJ x xa D E T U s a) : lwJ L Q 674 (nI i) [] (lawW x xa D E T U s j a) := by
  have e1 : nI i + 1 = nI (i + 1) := nI_add i 1
  have e2 : nI i + 2 = nI (i + 2) := nI_add i 2
  have e3 : nI i + 3 = nI (i + 3) := nI_add i 3
  obtain ⟨dx, dm, MQ, hdx, hdm, cx, cm⟩ := p_forget L x xa D E T U s j a hJ
  refine AJ.run kL_law [] 40 ?_
  refine yw_x cx bX7_forget rfl (by decide +kernel) rfl (fun _ => rfl) rfl rfl hdx (fun v x xa D E T U hR => ?_)
  refine AJ.run kL_law [] 40 ?_
  refine yw_m cm hR bX8_forget rfl (by decide +kernel) rfl (fun _ => rfl) rfl rfl hdm (fun s j a hJ => ?_)
  exact AJ.run kL_law [18] 20 ⟨fun _ => h x xa D E T U s j a hJ, fun z => absurd rfl z⟩
set_option maxRecDepth 100000 in
theorem yw_read (L : xLn) (Q : Option Value → List xE → Prop) (i : Nat) (hi : i + 4 ≤ L.2.1) (hL : L.2.1 ≤ 256) (h : ∀ x xa D E T U s j a, CJ x xa D E T U s a → lwJ L Q 18 (nI i + 4) [] (lawW x xa D E T U s j a)) (x : xN) (xa : Nat → xN) (D : Nat → xN) (E : Nat → Nat → xN) (T : Nat → xN) (U : Nat → Nat → xN) (s : xN) (j : Int64) (a : Nat → xN) (hJ : CJ x xa D E T U s a) : lwJ L Q 687 (nI i) [] (lawW x xa D E T U s j a) := by
  have e1 : nI i + 1 = nI (i + 1) := nI_add i 1
  have e2 : nI i + 2 = nI (i + 2) := nI_add i 2
  have e3 : nI i + 3 = nI (i + 3) := nI_add i 3
  obtain ⟨dx, dm, MQ, hdx, hdm, cx, cm⟩ := p_read L x xa D E T U s j a hJ (L.2.2 (i + 1))
  refine AJ.run kL_law [] 40 ⟨i + 1, e1, by omega, by omega, ?_⟩
  refine yw_x cx bX7_read rfl (by decide +kernel) rfl (fun _ => rfl) rfl rfl hdx (fun v x xa D E T U hR => ?_)
  refine AJ.run kL_law [] 40 ⟨i + 1, e1, by omega, by omega, ?_⟩
  refine yw_m cm hR bX8_read rfl (by decide +kernel) rfl (fun _ => rfl) rfl rfl hdm (fun s j a hJ => ?_)
  exact AJ.run kL_law [18] 20 ⟨fun _ => h x xa D E T U s j a hJ, fun z => absurd rfl z⟩
set_option maxRecDepth 100000 in
theorem yw_odds (L : xLn) (Q : Option Value → List xE → Prop) (i : Nat) (hi : i + 4 ≤ L.2.1) (hL : L.2.1 ≤ 256) (h : ∀ x xa D E T U s j a, CJ x xa D E T U s a → lwJ L Q 18 (nI i + 4) [] (lawW x xa D E T U s j a)) (x : xN) (xa : Nat → xN) (D : Nat → xN) (E : Nat → Nat → xN) (T : Nat → xN) (U : Nat → Nat → xN) (s : xN) (j : Int64) (a : Nat → xN) (hJ : CJ x xa D E T U s a) : lwJ L Q 710 (nI i) [] (lawW x xa D E T U s j a) := by
  have e1 : nI i + 1 = nI (i + 1) := nI_add i 1
  have e2 : nI i + 2 = nI (i + 2) := nI_add i 2
  have e3 : nI i + 3 = nI (i + 3) := nI_add i 3
  obtain ⟨dx, dm, MQ, hdx, hdm, cx, cm⟩ := p_odds L x xa D E T U s j a hJ (L.2.2 (i + 1)) (L.2.2 (i + 2))
  refine AJ.run kL_law [] 40 ⟨i + 1, e1, by omega, by omega, ⟨i + 2, e2, by omega, by omega, ?_⟩⟩
  refine yw_x cx bX7_odds rfl (by decide +kernel) rfl (fun _ => rfl) rfl rfl hdx (fun v x xa D E T U hR => ?_)
  refine AJ.run kL_law [] 40 ⟨i + 1, e1, by omega, by omega, ⟨i + 2, e2, by omega, by omega, ?_⟩⟩
  refine yw_m cm hR bX8_odds rfl (by decide +kernel) rfl (fun _ => rfl) rfl rfl hdm (fun s j a hJ => ?_)
  exact AJ.run kL_law [18] 20 ⟨fun _ => h x xa D E T U s j a hJ, fun z => absurd rfl z⟩
set_option maxRecDepth 100000 in
theorem yw_count (L : xLn) (Q : Option Value → List xE → Prop) (i : Nat) (hi : i + 4 ≤ L.2.1) (hL : L.2.1 ≤ 256) (h : ∀ x xa D E T U s j a, CJ x xa D E T U s a → lwJ L Q 18 (nI i + 4) [] (lawW x xa D E T U s j a)) (x : xN) (xa : Nat → xN) (D : Nat → xN) (E : Nat → Nat → xN) (T : Nat → xN) (U : Nat → Nat → xN) (s : xN) (j : Int64) (a : Nat → xN) (hJ : CJ x xa D E T U s a) : lwJ L Q 743 (nI i) [] (lawW x xa D E T U s j a) := by
  have e1 : nI i + 1 = nI (i + 1) := nI_add i 1
  have e2 : nI i + 2 = nI (i + 2) := nI_add i 2
  have e3 : nI i + 3 = nI (i + 3) := nI_add i 3
  obtain ⟨dx, dm, MQ, hdx, hdm, cx, cm⟩ := p_count L x xa D E T U s j a hJ (L.2.2 (i + 1))
  refine AJ.run kL_law [] 40 ⟨i + 1, e1, by omega, by omega, ?_⟩
  refine yw_x cx bX7_count rfl (by decide +kernel) rfl (fun _ => rfl) rfl rfl hdx (fun v x xa D E T U hR => ?_)
  refine AJ.run kL_law [] 40 ⟨i + 1, e1, by omega, by omega, ?_⟩
  refine yw_m cm hR bX8_count rfl (by decide +kernel) rfl (fun _ => rfl) rfl rfl hdm (fun s j a hJ => ?_)
  exact AJ.run kL_law [18] 20 ⟨fun _ => h x xa D E T U s j a hJ, fun z => absurd rfl z⟩
theorem yw_gt {n i : Nat} (hn : n ≤ 256) (hi : i ≤ 300) : (nI n - 4 < nI i) ↔ n < i + 4 := by
  by_cases h : 4 ≤ n
  · obtain ⟨k, rfl⟩ : ∃ k, n = k + 4 := ⟨n - 4, by omega⟩
    rw [← nI_add k 4, show nI 4 = (4 : Int32) from rfl, Int32.add_sub_cancel, nI_ltI (by omega) (by omega)]
    omega
  · have : nI n - 4 < nI 0 := by
      rcases (show n = 0 ∨ n = 1 ∨ n = 2 ∨ n = 3 by omega) with rfl | rfl | rfl | rfl <;> decide
    have h2 : nI 0 ≤ nI i := nI_le (by omega) (by omega)
    simp only [i32_lt, i32_le] at this h2 ⊢
    constructor <;> intro _ <;> omega
set_option maxRecDepth 100000 in
theorem yw_ret {L : xLn} {Q : Option Value → List xE → Prop} {i : Int32} {x : xN} {xa : Nat → xN} {D : Nat → xN} {E : Nat → Nat → xN} {T : Nat → xN} {U : Nat → Nat → xN} {s : xN} {j : Int64} {a : Nat → xN} (h : ∀ Y, Q (some (.int 1)) Y) : lwJ L Q 773 i [.int 1] (lawW x xa D E T U s j a) := by
  refine AJ.run kL_law [] 0 ?_
  show h_b (Nat.ble 146 146 && Nat.ble 4791 4791 && (lawW x xa D E T U s j a).all (xoke (lawW x xa D E T U s j a).length)) (xrr mL_law Q [.int 1] (lawW x xa D E T U s j a))
  rw [law_len, law_ok]
  exact ⟨Or.inr rfl, h _⟩
set_option maxRecDepth 100000 in
theorem yw_loop (L : xLn) (Q : Option Value → List xE → Prop) (hL : L.2.1 ≤ 256) (hQ : ∀ Y, Q (some (.int 1)) Y) : ∀ (f i : Nat), i ≤ 260 → L.2.1 ≤ i + 4 * f → ∀ x xa D E T U s j a, CJ x xa D E T U s a → lwJ L Q 18 (nI i) [] (lawW x xa D E T U s j a) := by
  intro f
  induction f with
  | zero =>
    intro i h260 hf x xa D E T U s j a hJ
    have g : lwJ L Q 773 (nI i) [.int 1] (lawW x xa D E T U s j a) := yw_ret hQ
    exact AJ.run kL_law [18, 773] 20 ⟨fun _ => g, fun z => absurd ((yw_gt hL (by omega)).mpr (by omega)) z⟩
  | succ f ih =>
    intro i h260 hf x xa D E T U s j a hJ
    have g : lwJ L Q 773 (nI i) [.int 1] (lawW x xa D E T U s j a) := yw_ret hQ
    refine AJ.run kL_law [18, 773, 32] 20 ⟨fun _ => g, fun z => ?_⟩
    have hi : i + 4 ≤ L.2.1 := by
      have := mt (yw_gt hL (by omega)).mpr z
      omega
    refine ⟨i, rfl, by omega, by omega, ?_⟩
    have k : ∀ x xa D E T U s j a, CJ x xa D E T U s a → lwJ L Q 18 (nI i + 4) [] (lawW x xa D E T U s j a) := by
      have := ih (i + 4) (by omega) (by omega)
      rw [← nI_add i 4] at this
      exact this
    generalize L.2.2 i &&& 31 = w
    exact AJ.run kL_law [144, 207, 220, 233, 246, 279, 312, 335, 368, 401, 434, 457, 480, 503, 546, 569, 592, 605, 628, 641, 674, 687, 710, 743, 766] 2 ⟨fun _ => yw_write L Q i hi hL k x xa D E T U s j a hJ, fun _ => ⟨fun _ => yw_erase L Q i hi hL k x xa D E T U s j a hJ, fun _ => ⟨fun _ => yw_fault L Q i hi hL k x xa D E T U s j a hJ, fun _ => ⟨fun _ => yw_rail L Q i hi hL k x xa D E T U s j a hJ, fun _ => ⟨fun _ => yw_mood L Q i hi hL k x xa D E T U s j a hJ, fun _ => ⟨fun _ => yw_drawn L Q i hi hL k x xa D E T U s j a hJ, fun _ => ⟨fun _ => yw_go L Q i hi hL k x xa D E T U s j a hJ, fun _ => ⟨fun _ => yw_tram L Q i hi hL k x xa D E T U s j a hJ, fun _ => ⟨fun _ => yw_person L Q i hi hL k x xa D E T U s j a hJ, fun _ => ⟨fun _ => yw_halt L Q i hi hL k x xa D E T U s j a hJ, fun _ => ⟨fun _ => yw_keep L Q i hi hL k x xa D E T U s j a hJ, fun _ => ⟨fun _ => yw_back L Q i hi hL k x xa D E T U s j a hJ, fun _ => ⟨fun _ => yw_home L Q i hi hL k x xa D E T U s j a hJ, fun _ => ⟨fun _ => yw_feigned L Q i hi hL k x xa D E T U s j a hJ, fun _ => ⟨fun _ => yw_law L Q i hi hL k x xa D E T U s j a hJ, fun _ => ⟨fun _ => yw_worn L Q i hi hL k x xa D E T U s j a hJ, fun _ => ⟨fun _ => yw_dry L Q i hi hL k x xa D E T U s j a hJ, fun _ => ⟨fun _ => yw_last L Q i hi hL k x xa D E T U s j a hJ, fun _ => ⟨fun _ => yw_fares L Q i hi hL k x xa D E T U s j a hJ, fun _ => ⟨fun _ => yw_seen L Q i hi hL k x xa D E T U s j a hJ, fun _ => ⟨fun _ => yw_forget L Q i hi hL k x xa D E T U s j a hJ, fun _ => ⟨fun _ => yw_read L Q i hi hL k x xa D E T U s j a hJ, fun _ => ⟨fun _ => yw_odds L Q i hi hL k x xa D E T U s j a hJ, fun _ => ⟨fun _ => yw_count L Q i hi hL k x xa D E T U s j a hJ, fun _ => AJ.run kL_law [18] 5 (k x xa D E T U s j a hJ)⟩⟩⟩⟩⟩⟩⟩⟩⟩⟩⟩⟩⟩⟩⟩⟩⟩⟩⟩⟩⟩⟩⟩⟩
def lwQ : Option Value → List xE → Prop := fun r _ => r = some (.int 1)
set_option maxRecDepth 100000 in
theorem yw_start (L : xLn) (hL : L.2.1 ≤ 256) : AJ L mL_law 10 146 4791 lwQ 0 (0, 0) 0 [some (.ref (xB + 40)), none, none, none] [] [] := by
  have hQ : ∀ Y, lwQ (some (.int 1)) Y := fun _ => rfl
  generalize lwQ = Q at hQ ⊢
  refine AJ.run kL_law [] 10 ?_
  refine AJ.callI kL_law (c7_init L) bX7_init rfl (by decide +kernel) [0] [.ref 0] rfl rfl rfl rfl rfl rfl rfl ?_
  rintro r Y ⟨rfl, x, xa, D, E, T, U, hJ, rfl⟩
  have e : xput [0] [.inr (.inr (7, xdf.getD 7 []))] (clsW x xa D E T U) = clsW x xa D E T U := rfl
  refine ⟨rfl, ?_⟩
  show AJ L mL_law 10 146 4791 Q 0 (133, 2087) 7 [some (.ref (xB + 40)), none, none, none] [.ref 0] (xput [0] [.inr (.inr (7, xdf.getD 7 []))] (clsW x xa D E T U))
  rw [e]
  refine AJ.run kL_law [] 10 ?_
  refine AJ.callIX (X' := lawW x xa D E T U iniS 0 iniA) kL_law (c8_init L) bX8_init rfl (by decide +kernel) [133] [.ref 133] rfl rfl rfl rfl rfl rfl rfl rfl rfl ?_
  exact AJ.run kL_law [18] 10 (yw_loop L Q hL hQ 64 0 (by omega) (by omega) x xa D E T U iniS 0 iniA hJ)
