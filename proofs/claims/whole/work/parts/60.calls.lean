/-! ===== calls over a part of the world ===== -/
theorem xput_same {σ : List Nat} {X Xc : List xE} (hX : σ.map (fun i => X[i]?) = Xc.map (fun c => some (xrE (xsg σ X.length) c))) (hnd : va_nd σ = true) : xput σ X Xc = X := by
  have hl : σ.length = Xc.length := by simpa using congrArg List.length hX
  have hat : ∀ (j i : Nat), σ[j]? = some i → ∃ c, Xc[j]? = some c ∧ X[i]? = some (xrE (xsg σ X.length) c) := by
    intro j i h
    have h1 := congrArg (fun l : List (Option xE) => l[j]?) hX
    simp only [List.getElem?_map, h, Option.map_some] at h1
    cases hc : Xc[j]? with
    | none => rw [hc] at h1; cases h1
    | some c => rw [hc] at h1; exact ⟨c, rfl, by simpa using h1⟩
  unfold xput
  rw [List.drop_eq_nil_of_le (by omega), List.map_nil, List.append_nil]
  apply List.ext_getElem?
  intro i
  by_cases hi : i ∈ σ
  · obtain ⟨j, hj⟩ := List.getElem?_of_mem hi
    obtain ⟨c, h1, h2⟩ := hat j i hj
    rw [xputs_in _ σ X Xc hnd (fun q hq => by
      obtain ⟨j', hj'⟩ := List.getElem?_of_mem hq
      obtain ⟨c', -, h4⟩ := hat j' q hj'
      exact (List.getElem?_eq_some_iff.mp h4).1) (by omega) j i c hj h1, h2]
  · exact xputs_out _ _ _ _ _ hi
/-- a call of an instance's method that leaves the world as it was -/
theorem AJ.callP {L : xLn} {M : xM} {d mc ms : Nat} {Q : Option Value → List xE → Prop} {n0 : Nat} {z : Nat × Nat} {pc : Nat} {ls : List (Option Value)} {st : List Value} {X : List xE} (hM : xMk M = true) {M' : xM} {d' q0 n : Nat} {as : List Value} {Xc : List xE} {P : Option Value → Prop}
    (hC : CT L M' d' 0 0 (.ref q0 :: as) Xc (fun r Y => P r ∧ Y = Xc)) (hcv : xcB M' 0 n = true) {idx nx tg : Nat} {v : Int32} {w : Int64} {a b t : Nat} {sw : List (Int32 × Nat)} (ho : xat M pc = some (.invokevirtual idx, nx, tg, v, w, a, b, t, sw)) (hlk : xmt t (.methodLink (xown M) idx M'.1) = true)
    (σ : List Nat) (rest : List Value) (hst : st = (as.map (xv (xsg σ X.length))).reverse ++ .ref (xsg σ X.length q0) :: rest) (hn : as.length = n) (hX : σ.map (fun i => X[i]?) = Xc.map (fun c => some (xrE (xsg σ X.length) c))) {ci : Nat} {fs : List Value} (hq : Xc[q0]? = some (.inr (.inr (ci, fs)))) {r : vw_C} (hci : vwCl[ci]? = some r) (hr1 : r.1 = M'.1.cls)
    (hnd : va_nd σ = true) (hwf : xwf X ls rest = true) (hd : Nat.blt d' d = true) (hmm : (Nat.ble z.1 mc && Nat.ble z.2 ms && Nat.ble (X.length + Xc.length) xB) = true)
    (kk : ∀ r : Option Value, P r → AJ L M d mc ms Q n0 z nx ls (r.toList ++ rest) X) : AJ L M d mc ms Q n0 z pc ls st X := by
  simp only [Bool.and_eq_true] at hmm
  refine AJ.callV hM hC hcv ho hlk σ rest hst hn hX hq hci hr1 hnd hwf hd (by simp only [Bool.and_eq_true]; exact hmm.1) ?_
  rintro r Y ⟨h1, rfl⟩
  rw [xput_same hX hnd]
  exact ⟨hmm.2, kk r h1⟩
/-- a call of an instance's method over a part; the world behind it is named -/
theorem AJ.callU {L : xLn} {M : xM} {d mc ms : Nat} {Q : Option Value → List xE → Prop} {n0 : Nat} {z : Nat × Nat} {pc : Nat} {ls : List (Option Value)} {st : List Value} {X : List xE} (hM : xMk M = true) {M' : xM} {d' mc' ms' q0 n : Nat} {as : List Value} {Xc : List xE} {Qc : Option Value → List xE → Prop}
    (hC : CT L M' d' mc' ms' (.ref q0 :: as) Xc Qc) (hcv : xcB M' 0 n = true) {idx nx tg : Nat} {v : Int32} {w : Int64} {a b t : Nat} {sw : List (Int32 × Nat)} (ho : xat M pc = some (.invokevirtual idx, nx, tg, v, w, a, b, t, sw)) (hlk : xmt t (.methodLink (xown M) idx M'.1) = true)
    (σ : List Nat) (rest : List Value) (hst : st = (as.map (xv (xsg σ X.length))).reverse ++ .ref (xsg σ X.length q0) :: rest) (hn : as.length = n) (hX : σ.map (fun i => X[i]?) = Xc.map (fun c => some (xrE (xsg σ X.length) c))) {ci : Nat} {fs : List Value} (hq : Xc[q0]? = some (.inr (.inr (ci, fs)))) {r : vw_C} (hci : vwCl[ci]? = some r) (hr1 : r.1 = M'.1.cls)
    (hnd : va_nd σ = true) (hwf : xwf X ls rest = true) (hd : Nat.blt d' d = true) (hmm : (Nat.ble (z.1 + mc') mc && Nat.ble (z.2 + ms') ms) = true)
    (kk : ∀ (r : Option Value) (Y : List xE), Qc r Y → ∃ X', xput σ X Y = X' ∧ Nat.ble (X.length + Y.length) xB = true ∧ AJ L M d mc ms Q n0 (z.1 + mc', z.2 + ms') nx ls (r.toList ++ rest) X') : AJ L M d mc ms Q n0 z pc ls st X := by
  refine AJ.callV hM hC hcv ho hlk σ rest hst hn hX hq hci hr1 hnd hwf hd hmm ?_
  intro r Y hr
  obtain ⟨X', h1, h2, h3⟩ := kk r Y hr
  rw [h1]
  exact ⟨h2, h3⟩
/-- the same for a static method -/
theorem AJ.callT {L : xLn} {M : xM} {d mc ms : Nat} {Q : Option Value → List xE → Prop} {n0 : Nat} {z : Nat × Nat} {pc : Nat} {ls : List (Option Value)} {st : List Value} {X : List xE} (hM : xMk M = true) {M' : xM} {d' mc' ms' n : Nat} {as : List Value} {Xc : List xE} {Qc : Option Value → List xE → Prop}
    (hC : CT L M' d' mc' ms' as Xc Qc) (hcv : xcB M' 1 n = true) {idx nx tg : Nat} {v : Int32} {w : Int64} {a b t : Nat} {sw : List (Int32 × Nat)} (ho : xat M pc = some (.invokestatic idx, nx, tg, v, w, a, b, t, sw)) (hlk : xmt t (.methodLink (xown M) idx M'.1) = true)
    (σ : List Nat) (rest : List Value) (hst : st = (as.map (xv (xsg σ X.length))).reverse ++ rest) (hn : as.length = n) (hX : σ.map (fun i => X[i]?) = Xc.map (fun c => some (xrE (xsg σ X.length) c)))
    (hnd : va_nd σ = true) (hwf : xwf X ls rest = true) (hd : Nat.blt d' d = true) (hmm : (Nat.ble (z.1 + mc') mc && Nat.ble (z.2 + ms') ms) = true)
    (kk : ∀ (r : Option Value) (Y : List xE), Qc r Y → ∃ X', xput σ X Y = X' ∧ Nat.ble (X.length + Y.length) xB = true ∧ AJ L M d mc ms Q n0 (z.1 + mc', z.2 + ms') nx ls (r.toList ++ rest) X') : AJ L M d mc ms Q n0 z pc ls st X := by
  refine AJ.callS hM hC hcv ho hlk σ rest hst hn hX hnd hwf hd hmm ?_
  intro r Y hr
  obtain ⟨X', h1, h2, h3⟩ := kk r Y hr
  rw [h1]
  exact ⟨h2, h3⟩
/-! ===== a row filled; the bits counted ===== -/
theorem cJ_fill3 (L : xLn) (f : xN) (v : Int32) : CT L mJ7_fill_53178 0 0 0 [.ref 0, .int v] [.inl (0, 3, f)] (fun r Y => r = none ∧ ∃ g : xN, (∀ i, i < 3 → g i = v) ∧ Y = [.inl (0, 3, g)]) := by
  refine CT.of rfl (Nat.le_of_ble_eq_true rfl) (Nat.le_of_ble_eq_true rfl) ?_
  have loop : ∀ (k i : Nat) (g : xN), i + k = 3 → (∀ q, q < i → g q = v) → AJ L mJ7_fill_53178 0 0 0 (fun r Y => r = none ∧ ∃ g : xN, (∀ i, i < 3 → g i = v) ∧ Y = [.inl (0, 3, g)]) 1 (0, 0) 5 [some (.ref 0), some (.int v), some (.int (nI i)), some (.int (nI 3))] [] [.inl (0, 3, g)] := by
    intro k
    induction k with
    | zero =>
      intro i g hi hg
      obtain rfl : i = 3 := by omega
      exact AJ.run kJ7_fill_53178 [5] 20 ⟨fun _ => ⟨rfl, g, hg, rfl⟩, fun hz => absurd (by decide) hz⟩
    | succ k ih =>
      intro i g hi hg
      have h2 := ih (i + 1) (upd g i v) (by omega) (fun q hq => by
        by_cases e : q = i
        · subst e; rw [pk_us]
        · rw [pk_un e]; exact hg q (by omega))
      rw [nI_succ] at h2
      exact AJ.run kJ7_fill_53178 [5] 20 ⟨fun hz => absurd hz (nI_ge (b := 3) (by omega) (by omega)), fun _ => ⟨i, rfl, by omega, h2⟩⟩
  exact AJ.run kJ7_fill_53178 [5] 20 (loop 3 0 f (by omega) (fun q hq => by omega))
theorem cJ_fill8 (L : xLn) (f : xN) (v : Int32) : CT L mJ7_fill_53178 0 0 0 [.ref 0, .int v] [.inl (0, 8, f)] (fun r Y => r = none ∧ ∃ g : xN, (∀ i, i < 8 → g i = v) ∧ Y = [.inl (0, 8, g)]) := by
  refine CT.of rfl (Nat.le_of_ble_eq_true rfl) (Nat.le_of_ble_eq_true rfl) ?_
  have loop : ∀ (k i : Nat) (g : xN), i + k = 8 → (∀ q, q < i → g q = v) → AJ L mJ7_fill_53178 0 0 0 (fun r Y => r = none ∧ ∃ g : xN, (∀ i, i < 8 → g i = v) ∧ Y = [.inl (0, 8, g)]) 1 (0, 0) 5 [some (.ref 0), some (.int v), some (.int (nI i)), some (.int (nI 8))] [] [.inl (0, 8, g)] := by
    intro k
    induction k with
    | zero =>
      intro i g hi hg
      obtain rfl : i = 8 := by omega
      exact AJ.run kJ7_fill_53178 [5] 20 ⟨fun _ => ⟨rfl, g, hg, rfl⟩, fun hz => absurd (by decide) hz⟩
    | succ k ih =>
      intro i g hi hg
      have h2 := ih (i + 1) (upd g i v) (by omega) (fun q hq => by
        by_cases e : q = i
        · subst e; rw [pk_us]
        · rw [pk_un e]; exact hg q (by omega))
      rw [nI_succ] at h2
      exact AJ.run kJ7_fill_53178 [5] 20 ⟨fun hz => absurd hz (nI_ge (b := 8) (by omega) (by omega)), fun _ => ⟨i, rfl, by omega, h2⟩⟩
  exact AJ.run kJ7_fill_53178 [5] 20 (loop 8 0 f (by omega) (fun q hq => by omega))
theorem cJ_fill12 (L : xLn) (f : xN) (v : Int32) : CT L mJ7_fill_53178 0 0 0 [.ref 0, .int v] [.inl (0, 12, f)] (fun r Y => r = none ∧ ∃ g : xN, (∀ i, i < 12 → g i = v) ∧ Y = [.inl (0, 12, g)]) := by
  refine CT.of rfl (Nat.le_of_ble_eq_true rfl) (Nat.le_of_ble_eq_true rfl) ?_
  have loop : ∀ (k i : Nat) (g : xN), i + k = 12 → (∀ q, q < i → g q = v) → AJ L mJ7_fill_53178 0 0 0 (fun r Y => r = none ∧ ∃ g : xN, (∀ i, i < 12 → g i = v) ∧ Y = [.inl (0, 12, g)]) 1 (0, 0) 5 [some (.ref 0), some (.int v), some (.int (nI i)), some (.int (nI 12))] [] [.inl (0, 12, g)] := by
    intro k
    induction k with
    | zero =>
      intro i g hi hg
      obtain rfl : i = 12 := by omega
      exact AJ.run kJ7_fill_53178 [5] 20 ⟨fun _ => ⟨rfl, g, hg, rfl⟩, fun hz => absurd (by decide) hz⟩
    | succ k ih =>
      intro i g hi hg
      have h2 := ih (i + 1) (upd g i v) (by omega) (fun q hq => by
        by_cases e : q = i
        · subst e; rw [pk_us]
        · rw [pk_un e]; exact hg q (by omega))
      rw [nI_succ] at h2
      exact AJ.run kJ7_fill_53178 [5] 20 ⟨fun hz => absurd hz (nI_ge (b := 12) (by omega) (by omega)), fun _ => ⟨i, rfl, by omega, h2⟩⟩
  exact AJ.run kJ7_fill_53178 [5] 20 (loop 12 0 f (by omega) (fun q hq => by omega))
theorem cJ_fill26 (L : xLn) (f : xN) (v : Int32) : CT L mJ7_fill_53178 0 0 0 [.ref 0, .int v] [.inl (0, 26, f)] (fun r Y => r = none ∧ ∃ g : xN, (∀ i, i < 26 → g i = v) ∧ Y = [.inl (0, 26, g)]) := by
  refine CT.of rfl (Nat.le_of_ble_eq_true rfl) (Nat.le_of_ble_eq_true rfl) ?_
  have loop : ∀ (k i : Nat) (g : xN), i + k = 26 → (∀ q, q < i → g q = v) → AJ L mJ7_fill_53178 0 0 0 (fun r Y => r = none ∧ ∃ g : xN, (∀ i, i < 26 → g i = v) ∧ Y = [.inl (0, 26, g)]) 1 (0, 0) 5 [some (.ref 0), some (.int v), some (.int (nI i)), some (.int (nI 26))] [] [.inl (0, 26, g)] := by
    intro k
    induction k with
    | zero =>
      intro i g hi hg
      obtain rfl : i = 26 := by omega
      exact AJ.run kJ7_fill_53178 [5] 20 ⟨fun _ => ⟨rfl, g, hg, rfl⟩, fun hz => absurd (by decide) hz⟩
    | succ k ih =>
      intro i g hi hg
      have h2 := ih (i + 1) (upd g i v) (by omega) (fun q hq => by
        by_cases e : q = i
        · subst e; rw [pk_us]
        · rw [pk_un e]; exact hg q (by omega))
      rw [nI_succ] at h2
      exact AJ.run kJ7_fill_53178 [5] 20 ⟨fun hz => absurd hz (nI_ge (b := 26) (by omega) (by omega)), fun _ => ⟨i, rfl, by omega, h2⟩⟩
  exact AJ.run kJ7_fill_53178 [5] 20 (loop 26 0 f (by omega) (fun q hq => by omega))
theorem cJ_fill60 (L : xLn) (f : xN) (v : Int32) : CT L mJ7_fill_53178 0 0 0 [.ref 0, .int v] [.inl (0, 60, f)] (fun r Y => r = none ∧ ∃ g : xN, (∀ i, i < 60 → g i = v) ∧ Y = [.inl (0, 60, g)]) := by
  refine CT.of rfl (Nat.le_of_ble_eq_true rfl) (Nat.le_of_ble_eq_true rfl) ?_
  have loop : ∀ (k i : Nat) (g : xN), i + k = 60 → (∀ q, q < i → g q = v) → AJ L mJ7_fill_53178 0 0 0 (fun r Y => r = none ∧ ∃ g : xN, (∀ i, i < 60 → g i = v) ∧ Y = [.inl (0, 60, g)]) 1 (0, 0) 5 [some (.ref 0), some (.int v), some (.int (nI i)), some (.int (nI 60))] [] [.inl (0, 60, g)] := by
    intro k
    induction k with
    | zero =>
      intro i g hi hg
      obtain rfl : i = 60 := by omega
      exact AJ.run kJ7_fill_53178 [5] 20 ⟨fun _ => ⟨rfl, g, hg, rfl⟩, fun hz => absurd (by decide) hz⟩
    | succ k ih =>
      intro i g hi hg
      have h2 := ih (i + 1) (upd g i v) (by omega) (fun q hq => by
        by_cases e : q = i
        · subst e; rw [pk_us]
        · rw [pk_un e]; exact hg q (by omega))
      rw [nI_succ] at h2
      exact AJ.run kJ7_fill_53178 [5] 20 ⟨fun hz => absurd hz (nI_ge (b := 60) (by omega) (by omega)), fun _ => ⟨i, rfl, by omega, h2⟩⟩
  exact AJ.run kJ7_fill_53178 [5] 20 (loop 60 0 f (by omega) (fun q hq => by omega))
def bcP (x : Int32) : Int32 :=
  let x1 := x - ((x.toUInt32 >>> (Int32.toUInt32 1 &&& Int32.toUInt32 31)).toInt32 &&& 1431655765)
  let x2 := (x1 &&& 858993459) + ((x1.toUInt32 >>> (Int32.toUInt32 2 &&& Int32.toUInt32 31)).toInt32 &&& 858993459)
  let x3 := (x2 + (x2.toUInt32 >>> (Int32.toUInt32 4 &&& Int32.toUInt32 31)).toInt32) &&& 252645135
  let x4 := x3 + (x3.toUInt32 >>> (Int32.toUInt32 8 &&& Int32.toUInt32 31)).toInt32
  let x5 := x4 + (x4.toUInt32 >>> (Int32.toUInt32 16 &&& Int32.toUInt32 31)).toInt32
  x5 &&& 63
theorem bc_256 : ∀ k : Fin 256, bcP (nI k.val) = bitsP (nI k.val) 8 := by decide +kernel
theorem lo8 : ∀ q : Fin 32, hasP 255 (nI q.val) = decide (q.val < 8) := by decide +kernel
theorem lo_256 {x : Int32} (h : ∀ q, 8 ≤ q → q < 32 → hasP x (nI q) = false) : ∃ k, k < 256 ∧ x = nI k := by
  have e : x &&& 255 = x := by
    apply bit_ext
    intro q hq
    rw [and_bit _ _ hq, lo8 ⟨q, hq⟩]
    by_cases h8 : q < 8
    · simp [h8]
    · rw [h q (by omega) hq]; simp
  obtain ⟨j, h1, h2⟩ := pk_andE x (m := 255) 8 rfl
  exact ⟨j, h1, by rw [← e, h2]⟩
theorem cJ_bitCount (L : xLn) (x : Int32) (h : ∀ q, 8 ≤ q → q < 32 → hasP x (nI q) = false) : CT L mJ6_bitCount_0f7a4 0 0 0 [.int x] [] (fun r Y => r = some (.int (bitsP x 8)) ∧ Y = []) := by
  obtain ⟨k, h1, h2⟩ := lo_256 h
  have e : bcP x = bitsP x 8 := by rw [h2]; exact bc_256 ⟨k, h1⟩
  rw [← e]
  refine CT.of rfl (Nat.le_of_ble_eq_true rfl) (Nat.le_of_ble_eq_true rfl) ?_
  exact AJ.run kJ6_bitCount_0f7a4 [] 60 ⟨rfl, rfl⟩
