/-! ===== a call over a part that lies in one piece ===== -/
def xsv (n : Nat) : Value → Bool
  | .ref k => Nat.blt k n
  | _ => true
def xse (n : Nat) : xE → Bool
  | .inl _ => true
  | .inr (.inl l) => l.all (fun o => match o with | none => true | some k => Nat.blt k n)
  | .inr (.inr (_, fs)) => fs.all (xsv n)
theorem xrE_cg {n : Nat} {f g : Nat → Nat} (h : ∀ k, k < n → f k = g k) {c : xE} (hc : xse n c = true) : xrE f c = xrE g c := by
  rcases c with c | l | ⟨ci, fs⟩
  · rfl
  · have hc := List.all_eq_true.mp (show (l.all (fun o => match o with | none => true | some k => Nat.blt k n)) = true from hc)
    show (Sum.inr (Sum.inl (l.map (Option.map f))) : xE) = .inr (.inl (l.map (Option.map g)))
    rw [List.map_congr_left (g := Option.map g)]
    intro o ho
    have := hc o ho
    cases o with
    | none => rfl
    | some k => exact congrArg some (h k (Nat.blt_eq.mp this))
  · have hc := List.all_eq_true.mp (show fs.all (xsv n) = true from hc)
    show (Sum.inr (Sum.inr (ci, fs.map (xv f))) : xE) = .inr (.inr (ci, fs.map (xv g)))
    rw [List.map_congr_left (g := xv g)]
    intro v hv
    have := hc v hv
    cases v <;> first | rfl | exact congrArg Value.ref (h _ (Nat.blt_eq.mp this))
theorem xrE_self (c : xE) : xrE (fun k => k) c = c := by
  rcases c with c | l | ⟨ci, fs⟩
  · rfl
  · show (Sum.inr (Sum.inl (l.map (Option.map (fun k => k)))) : xE) = .inr (.inl l)
    rw [show (Option.map (fun k : Nat => k)) = id from funext fun o => by cases o <;> rfl, List.map_id]
  · show (Sum.inr (Sum.inr (ci, fs.map (xv (fun k => k)))) : xE) = .inr (.inr (ci, fs))
    rw [show xv (fun k => k) = id from funext fun v => by cases v <;> rfl, List.map_id]
theorem map_self (X : List xE) : X.map (xrE (fun k => 0 + k)) = X := by
  rw [show (fun k : Nat => 0 + k) = (fun k => k) from funext fun k => Nat.zero_add k, show xrE (fun k => k) = id from funext xrE_self, List.map_id]
theorem xsg_seg {b n N k : Nat} (hk : k < n) : xsg (List.range' b n) N k = b + k := by
  unfold xsg
  rw [if_pos (by rw [List.length_range']; exact hk), List.getD_eq_getElem?_getD, List.getElem?_range' (by omega)]
  show b + 1 * k = b + k
  omega
def segW (R1 Xc R2 : List xE) : List xE := R1 ++ (Xc.map (xrE (fun k => R1.length + k)) ++ R2)
theorem seg_at {R1 Xc R2 : List xE} {k : Nat} (hk : k < Xc.length) : (segW R1 Xc R2)[R1.length + k]? = (Xc[k]?).map (xrE (fun k => R1.length + k)) := by
  unfold segW
  rw [List.getElem?_append_right (by omega), Nat.add_sub_cancel_left, List.getElem?_append_left (by rw [List.length_map]; exact hk), List.getElem?_map]
theorem seg_out {R1 Xc R2 : List xE} {k : Nat} (h1 : R1.length ≤ k) (h2 : Xc.length ≤ k - R1.length) : (segW R1 Xc R2)[k]? = R2[k - R1.length - Xc.length]? := by
  unfold segW
  rw [List.getElem?_append_right h1, List.getElem?_append_right (by rw [List.length_map]; exact h2), List.length_map]
theorem seg_hX {R1 Xc R2 : List xE} (hc : Xc.all (xse Xc.length) = true) (N : Nat) : (List.range' R1.length Xc.length).map (fun i => (segW R1 Xc R2)[i]?) = Xc.map (fun c => some (xrE (xsg (List.range' R1.length Xc.length) N) c)) := by
  apply List.ext_getElem?
  intro k
  rw [List.getElem?_map, List.getElem?_map]
  by_cases hk : k < Xc.length
  · rw [List.getElem?_range' (by omega), Option.map_some, show R1.length + 1 * k = R1.length + k by omega, seg_at hk, List.getElem?_eq_getElem hk, Option.map_some, Option.map_some]
    have := List.all_eq_true.mp hc _ (List.getElem_mem hk)
    rw [xrE_cg (fun q hq => (xsg_seg (b := R1.length) (N := N) hq).symm) this]
  · rw [List.getElem?_eq_none (by rw [List.length_range']; omega), List.getElem?_eq_none (by omega)]
    rfl
theorem xfind_seg : ∀ (Y : List xE) (b i : Nat), xfind i (List.range' b Y.length) Y = if b ≤ i then Y[i - b]? else none
  | [], b, i => by
    rw [show List.range' b ([] : List xE).length = [] from rfl]
    unfold xfind
    split <;> simp
  | c :: Y, b, i => by
    rw [List.length_cons, List.range'_succ, xfind]
    cases e : Nat.beq b i with
    | true =>
      obtain rfl := Nat.eq_of_beq_eq_true e
      simp
    | false =>
      have hne : ¬ b = i := Nat.ne_of_beq_eq_false e
      show xfind i (List.range' (b + 1) Y.length) Y = _
      rw [xfind_seg Y (b + 1) i]
      by_cases h : b ≤ i
      · rw [if_pos (by omega), if_pos h, show i - b = (i - (b + 1)) + 1 by omega, List.getElem?_cons_succ]
      · rw [if_neg (by omega), if_neg h]
theorem seg_put {R1 Xc R2 Y : List xE} (hl : Y.length = Xc.length) (hY : Y.all (xse Y.length) = true) (N : Nat) : xputF (xsg (List.range' R1.length Xc.length) N) (List.range' R1.length Xc.length) Y 0 (segW R1 Xc R2) ++ (Y.drop (List.range' R1.length Xc.length).length).map (xrE (xsg (List.range' R1.length Xc.length) N)) = segW R1 Y R2 := by
  rw [List.length_range', ← hl, List.drop_length, List.map_nil, List.append_nil]
  apply List.ext_getElem?
  intro k
  rw [xputF_at, Nat.zero_add, xfind_seg]
  by_cases h1 : R1.length ≤ k
  · rw [if_pos h1]
    by_cases h2 : k - R1.length < Y.length
    · have e : k = R1.length + (k - R1.length) := by omega
      rw [List.getElem?_eq_getElem h2]
      have e1 := seg_at (R1 := R1) (Xc := Xc) (R2 := R2) (k := k - R1.length) (by omega)
      have e2 := seg_at (R1 := R1) (Xc := Y) (R2 := R2) (k := k - R1.length) h2
      rw [← e] at e1 e2
      rw [e1, e2, List.getElem?_eq_getElem (by omega), List.getElem?_eq_getElem h2]
      have := List.all_eq_true.mp hY _ (List.getElem_mem h2)
      exact congrArg some (xrE_cg (fun q hq => xsg_seg (b := R1.length) (N := N) hq) this)
    · rw [List.getElem?_eq_none (l := Y) (by omega)]
      rw [seg_out h1 (by omega), seg_out h1 (by omega), hl]
      cases R2[k - R1.length - Xc.length]? <;> rfl
  · rw [if_neg h1]
    unfold segW
    rw [List.getElem?_append_left (by omega), List.getElem?_append_left (by omega)]
    cases R1[k]? <;> rfl
theorem seg_len (R1 Xc R2 : List xE) : (segW R1 Xc R2).length = R1.length + (Xc.length + R2.length) := by
  unfold segW
  rw [List.length_append, List.length_append, List.length_map]
/-- a call of an instance's method over a piece; no cell is added -/
theorem AJ.callG {L : xLn} {M : xM} {d mc ms : Nat} {Q : Option Value → List xE → Prop} {n0 : Nat} {z : Nat × Nat} {pc : Nat} {ls : List (Option Value)} {st : List Value} {R1 Xc R2 : List xE} (hM : xMk M = true) {M' : xM} {d' n : Nat} {as : List Value} {Qc : Option Value → List xE → Prop}
    (hC : CT L M' d' 0 0 (.ref 0 :: as) Xc Qc) (hcv : xcB M' 0 n = true) {idx nx tg : Nat} {v : Int32} {w : Int64} {a b t : Nat} {sw : List (Int32 × Nat)} (ho : xat M pc = some (.invokevirtual idx, nx, tg, v, w, a, b, t, sw)) (hlk : xmt t (.methodLink (xown M) idx M'.1) = true)
    (rest : List Value) (hst : st = as.reverse ++ .ref R1.length :: rest) (has : ∀ f, as.map (xv f) = as) (hn : as.length = n) (hlt : 0 < Xc.length) (hc : Xc.all (xse Xc.length) = true) {ci : Nat} {fs : List Value} (hq : Xc[0]? = some (.inr (.inr (ci, fs)))) {r : vw_C} (hci : vwCl[ci]? = some r) (hr1 : r.1 = M'.1.cls)
    (hnd : va_nd (List.range' R1.length Xc.length) = true) (hwf : xwf (segW R1 Xc R2) ls rest = true) (hd : Nat.blt d' d = true) (hmm : (Nat.ble z.1 mc && Nat.ble z.2 ms) = true) (hB : Nat.ble ((segW R1 Xc R2).length + Xc.length) xB = true)
    (kk : ∀ (r : Option Value) (Y : List xE), Qc r Y → Y.length = Xc.length ∧ Y.all (xse Y.length) = true ∧ AJ L M d mc ms Q n0 z nx ls (r.toList ++ rest) (segW R1 Y R2)) : AJ L M d mc ms Q n0 z pc ls st (segW R1 Xc R2) := by
  have hX := seg_hX (R1 := R1) (R2 := R2) hc (segW R1 Xc R2).length
  refine AJ.callV hM hC hcv ho hlk (List.range' R1.length Xc.length) rest (by rw [has, xsg_seg hlt]; exact hst) hn hX hq hci hr1 hnd hwf hd (by rw [Nat.add_zero, Nat.add_zero]; exact hmm) ?_
  intro r Y hr
  obtain ⟨h1, h2, h3⟩ := kk r Y hr
  rw [xput_fast hnd (xlt_of hX) (by rw [List.length_range', h1]; exact Nat.le_refl _), seg_put h1 h2, h1]
  exact ⟨hB, h3⟩
