/-! ===== calls over the whole world, and over none ===== -/
theorem xsg_id (n k : Nat) : xsg (List.range n) n k = k := by
  unfold xsg
  rw [List.length_range]
  by_cases h : k < n
  · rw [if_pos h, List.getD_eq_getElem?_getD, List.getElem?_range h]; rfl
  · rw [if_neg h]
    split
    · omega
    · rfl
theorem xsg_idf (n : Nat) : xsg (List.range n) n = fun k => k := funext fun k => xsg_id n k
theorem xv_idf (v : Value) : xv (fun k => k) v = v := by cases v <;> rfl
theorem xrE_idf (c : xE) : xrE (fun k => k) c = c := by
  rcases c with ⟨t, n, f⟩ | l | ⟨ci, fs⟩
  · rfl
  · show (Sum.inr (Sum.inl (l.map (Option.map fun k => k))) : xE) = _
    have : (Option.map fun k : Nat => k) = id := by funext o; cases o <;> rfl
    rw [this, List.map_id]
  · show (Sum.inr (Sum.inr (ci, fs.map (xv fun k => k))) : xE) = _
    have : (xv fun k : Nat => k) = id := by funext v; exact xv_idf v
    rw [this, List.map_id]
theorem xputs_range (X Y : List xE) (h : X.length ≤ Y.length) : xput (List.range X.length) X Y = Y := by
  unfold xput
  rw [xsg_idf, List.length_range]
  have e1 : xputs (fun k => k) X (List.range X.length) Y = Y.take X.length := by
    apply List.ext_getElem?
    intro i
    by_cases hi : i < X.length
    · have hy : i < Y.length := by omega
      rw [xputs_in (fun k => k) (List.range X.length) X Y (by
        have : ∀ n, va_nd (List.range n) = true := by
          intro n
          have key : ∀ l : List Nat, l.Nodup → va_nd l = true := by
            intro l hl
            induction l with
            | nil => rfl
            | cons a l ih =>
              rw [List.nodup_cons] at hl
              simp only [va_nd, Bool.and_eq_true, decide_eq_true_eq]
              exact ⟨hl.1, ih hl.2⟩
          exact key _ List.nodup_range
        exact this _) (fun k hk => List.mem_range.mp hk) (by rw [List.length_range]; exact h) i i Y[i] (List.getElem?_range hi) (List.getElem?_eq_getElem hy), xrE_idf, List.getElem?_take, if_pos hi, List.getElem?_eq_getElem hy]
    · rw [List.getElem?_eq_none (by rw [xputs_len]; omega), List.getElem?_eq_none (by rw [List.length_take]; omega)]
  have e2 : (Y.drop X.length).map (xrE fun k => k) = Y.drop X.length := by
    have : (xrE fun k : Nat => k) = id := by funext c; exact xrE_idf c
    rw [this, List.map_id]
  rw [e1, e2, List.take_append_drop]
theorem va_nd_range (n : Nat) : va_nd (List.range n) = true := by
  have key : ∀ l : List Nat, l.Nodup → va_nd l = true := by
    intro l hl
    induction l with
    | nil => rfl
    | cons a l ih =>
      rw [List.nodup_cons] at hl
      simp only [va_nd, Bool.and_eq_true, decide_eq_true_eq]
      exact ⟨hl.1, ih hl.2⟩
  exact key _ List.nodup_range
theorem range_map (X : List xE) : (List.range X.length).map (fun i => X[i]?) = X.map (fun c => some (xrE (xsg (List.range X.length) X.length) c)) := by
  rw [xsg_idf]
  apply List.ext_getElem?
  intro i
  rw [List.getElem?_map, List.getElem?_map]
  by_cases hi : i < X.length
  · rw [List.getElem?_range hi, List.getElem?_eq_getElem hi]
    simp only [Option.map_some]
    rw [xrE_idf, List.getElem?_eq_getElem hi]
  · rw [List.getElem?_eq_none (by rw [List.length_range]; omega), List.getElem?_eq_none (by omega)]; rfl
/-- a call of an instance's method over the caller's whole world -/
theorem AJ.callF {L : xLn} {M : xM} {d mc ms : Nat} {Q : Option Value → List xE → Prop} {n0 : Nat} {z : Nat × Nat} {pc : Nat} {ls : List (Option Value)} {st : List Value} {X : List xE} (hM : xMk M = true) {M' : xM} {d' q0 n : Nat} {as : List Value} {Qc : Option Value → List xE → Prop}
    (hC : CT L M' d' 0 0 (.ref q0 :: as) X Qc) (hcv : xcB M' 0 n = true) {idx nx tg : Nat} {v : Int32} {w : Int64} {a b t : Nat} {sw : List (Int32 × Nat)} (ho : xat M pc = some (.invokevirtual idx, nx, tg, v, w, a, b, t, sw)) (hlk : xmt t (.methodLink (xown M) idx M'.1) = true)
    (rest : List Value) (hst : st = as.reverse ++ .ref q0 :: rest) (hn : as.length = n) {ci : Nat} {fs : List Value} (hq : X[q0]? = some (.inr (.inr (ci, fs)))) {r : vw_C} (hci : vwCl[ci]? = some r) (hr1 : r.1 = M'.1.cls)
    (hwf : xwf X ls rest = true) (hd : Nat.blt d' d = true) (hmm : (Nat.ble z.1 mc && Nat.ble z.2 ms) = true)
    (kk : ∀ (r : Option Value) (Y : List xE), Qc r Y → Nat.ble X.length Y.length = true ∧ Nat.ble (X.length + Y.length) xB = true ∧ AJ L M d mc ms Q n0 z nx ls (r.toList ++ rest) Y) : AJ L M d mc ms Q n0 z pc ls st X := by
  refine AJ.callV hM hC hcv ho hlk (List.range X.length) rest ?_ hn (range_map X) hq hci hr1 (va_nd_range _) hwf hd hmm ?_
  · rw [hst, xsg_idf]
    have : (xv fun k : Nat => k) = id := by funext v; exact xv_idf v
    rw [this, List.map_id]
  · intro r Y hr
    obtain ⟨k1, k2, k3⟩ := kk r Y hr
    rw [xputs_range X Y (Nat.le_of_ble_eq_true k1)]
    exact ⟨k2, k3⟩
/-- a call of a static method that has no world -/
theorem AJ.callZ {L : xLn} {M : xM} {d mc ms : Nat} {Q : Option Value → List xE → Prop} {n0 : Nat} {z : Nat × Nat} {pc : Nat} {ls : List (Option Value)} {st : List Value} {X : List xE} (hM : xMk M = true) {M' : xM} {d' n : Nat} {as : List Value} {P : Option Value → Prop}
    (hC : CT L M' d' 0 0 as [] (fun r Y => P r ∧ Y = [])) (hcv : xcB M' 1 n = true) {idx nx tg : Nat} {v : Int32} {w : Int64} {a b t : Nat} {sw : List (Int32 × Nat)} (ho : xat M pc = some (.invokestatic idx, nx, tg, v, w, a, b, t, sw)) (hlk : xmt t (.methodLink (xown M) idx M'.1) = true)
    (rest : List Value) (hst : st = (as.map (xv (xsg [] X.length))).reverse ++ rest) (hn : as.length = n) (hwf : xwf X ls rest = true) (hd : Nat.blt d' d = true) (hmm : (Nat.ble z.1 mc && Nat.ble z.2 ms && Nat.ble X.length xB) = true)
    (kk : ∀ (r : Option Value), P r → AJ L M d mc ms Q n0 z nx ls (r.toList ++ rest) X) : AJ L M d mc ms Q n0 z pc ls st X := by
  simp only [Bool.and_eq_true] at hmm
  refine AJ.callS hM hC hcv ho hlk [] rest hst hn rfl rfl hwf hd (by simp only [Bool.and_eq_true]; exact hmm.1) ?_
  rintro r Y ⟨h1, rfl⟩
  refine ⟨?_, ?_⟩
  · simpa using hmm.2
  · have : xput [] X [] = X := by
      unfold xput
      show X ++ [] = X
      rw [List.append_nil]
    rw [this]
    exact kk r h1
