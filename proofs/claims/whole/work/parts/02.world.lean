/-! ===== the abstract world: cells by numbers, an address map, the judgement ===== -/
abbrev xE : Type := (Nat × Nat × (Nat → Int32)) ⊕ (List (Option Nat) ⊕ (Nat × List Value))
abbrev xI : Type := va_G × ClassId × ClassId × ClassId
abbrev xB : Nat := 1000000
def xv (ad : Nat → Nat) : Value → Value
  | .ref k => .ref (ad k)
  | v => v
def xe (I : xI) (ad : Nat → Nat) : xE → va_E
  | .inl (t, n, f) => .inl (if t = 0 then I.2.1 else I.2.2.1, n, .inl f)
  | .inr (.inl l) => .inl (I.2.2.2, l.length, .inr (.inr (.inr (.inr (fun j => (l[j]?.join).map ad)))))
  | .inr (.inr (ci, fs)) => .inr (ci, fs.map (xv ad))
def xw (I : xI) (ad : Nat → Nat) (X : List xE) : va_W := X.mapIdx (fun i c => (ad i, xe I ad c))
theorem xw_len (I : xI) (ad : Nat → Nat) (X : List xE) : (xw I ad X).length = X.length := by simp [xw]
theorem xw_at (I : xI) (ad : Nat → Nat) (X : List xE) (k : Nat) : (xw I ad X)[k]? = (X[k]?).map (fun c => (ad k, xe I ad c)) := by simp [xw]
theorem xw_get {I : xI} {ad : Nat → Nat} {X : List xE} {k : Nat} {c : xE} (h : X[k]? = some c) : (xw I ad X)[k]? = some (ad k, xe I ad c) := by rw [xw_at, h]; rfl
theorem xw_inv {I : xI} {ad : Nat → Nat} {X : List xE} {k : Nat} {q : Nat × va_E} (h : (xw I ad X)[k]? = some q) : ∃ c, X[k]? = some c ∧ q = (ad k, xe I ad c) := by
  rw [xw_at] at h
  cases hx : X[k]? with
  | none => rw [hx] at h; cases h
  | some c => rw [hx] at h; exact ⟨c, rfl, (Option.some.inj h).symm⟩
theorem xw_set (I : xI) (ad : Nat → Nat) (X : List xE) (k : Nat) (c : xE) : (xw I ad X).set k (ad k, xe I ad c) = xw I ad (X.set k c) := by
  apply List.ext_getElem?
  intro i
  rw [xw_at, List.getElem?_set, List.getElem?_set]
  by_cases h : k = i
  · subst h
    rw [if_pos rfl, if_pos rfl, xw_len]
    by_cases h2 : k < X.length
    · rw [if_pos h2, if_pos h2]; rfl
    · rw [if_neg h2, if_neg h2]; rfl
  · rw [if_neg h, if_neg h, xw_at]
theorem xw_push (I : xI) (ad : Nat → Nat) (X : List xE) (c : xE) : xw I ad X ++ [(ad X.length, xe I ad c)] = xw I ad (X ++ [c]) := by simp [xw, List.mapIdx_append]
def xrv (P : Nat → Prop) : Value → Prop
  | .ref k => P k
  | _ => True
def xre (P : Nat → Prop) : xE → Prop
  | .inl _ => True
  | .inr (.inl l) => ∀ k, some k ∈ l → P k
  | .inr (.inr (_, fs)) => ∀ v ∈ fs, xrv P v
theorem xv_congr {P : Nat → Prop} {ad ad' : Nat → Nat} (ha : ∀ k, P k → ad k = ad' k) {v : Value} (h : xrv P v) : xv ad v = xv ad' v := by
  cases v <;> first | rfl | (simp only [xv]; rw [ha _ h])
theorem xe_congr {P : Nat → Prop} {I : xI} {ad ad' : Nat → Nat} (ha : ∀ k, P k → ad k = ad' k) {c : xE} (h : xre P c) : xe I ad c = xe I ad' c := by
  rcases c with ⟨t, n, f⟩ | l | ⟨ci, fs⟩
  · rfl
  · simp only [xe]
    have hf : (fun j : Nat => (l[j]?.join).map ad) = (fun j : Nat => (l[j]?.join).map ad') := by
     funext j
     cases hj : l[j]? with
     | none => rfl
     | some o =>
      cases o with
      | none => rfl
      | some k => show some (ad k) = some (ad' k); rw [ha k (h k (List.mem_of_getElem? hj))]
    rw [hf]
  · simp only [xe]
    congr 2
    exact List.map_congr_left (fun v hv => xv_congr ha (h v hv))
theorem xw_congr {I : xI} {ad ad' : Nat → Nat} {P : Nat → Prop} {X : List xE} (ha : ∀ k, P k → ad k = ad' k) (hl : ∀ k, k < X.length → P k) (h : ∀ c ∈ X, xre P c) : xw I ad X = xw I ad' X := by
  apply List.ext_getElem?
  intro i
  rw [xw_at, xw_at]
  cases hi : X[i]? with
  | none => rfl
  | some c =>
    simp only [Option.map]
    rw [ha i (hl i (List.getElem?_eq_some_iff.mp hi).1), xe_congr ha (h c (List.mem_of_getElem? hi))]
def xokv (n : Nat) : Value → Bool
  | .ref k => Nat.blt k n || Nat.ble xB k
  | _ => true
def xoke (n : Nat) : xE → Bool
  | .inl _ => true
  | .inr (.inl l) => l.all (fun o => match o with | none => true | some k => Nat.blt k n || Nat.ble xB k)
  | .inr (.inr (_, fs)) => fs.all (xokv n)
theorem xokv_sp {n : Nat} {v : Value} (h : xokv n v = true) : xrv (fun k => k < n ∨ xB ≤ k) v := by
  cases v <;> first | trivial | skip
  simp only [xokv, Bool.or_eq_true, Nat.blt_eq, Nat.ble_eq] at h
  exact h
theorem xoke_sp {n : Nat} {c : xE} (h : xoke n c = true) : xre (fun k => k < n ∨ xB ≤ k) c := by
  rcases c with ⟨t, m, f⟩ | l | ⟨ci, fs⟩
  · trivial
  · intro k hk
    have := List.all_eq_true.mp h (some k) hk
    simp only [Bool.or_eq_true, Nat.blt_eq, Nat.ble_eq] at this
    exact this
  · intro v hv
    exact xokv_sp (List.all_eq_true.mp h v hv)
def xls (ad : Nat → Nat) : Nat → List (Option Value) → List (Nat × Value)
  | _, [] => []
  | i, none :: t => xls ad (i + 1) t
  | i, some v :: t => (i, xv ad v) :: xls ad (i + 1) t
theorem xls_mem (ad : Nat → Nat) : ∀ (ls : List (Option Value)) (b : Nat) (q : Nat × Value), q ∈ xls ad b ls ↔ ∃ k v, ls[k]? = some (some v) ∧ q = (b + k, xv ad v)
  | [], b, q => by simp [xls]
  | none :: t, b, q => by
    rw [xls, xls_mem ad t (b + 1) q]
    constructor
    · rintro ⟨k, v, h, rfl⟩
      exact ⟨k + 1, v, by simpa using h, by rw [Nat.add_assoc, Nat.add_comm 1 k]⟩
    · rintro ⟨k, v, h, rfl⟩
      cases k with
      | zero => simp at h
      | succ k => exact ⟨k, v, by simpa using h, by rw [Nat.add_assoc, Nat.add_comm 1 k]⟩
  | some w :: t, b, q => by
    rw [xls, List.mem_cons, xls_mem ad t (b + 1) q]
    constructor
    · rintro (rfl | ⟨k, v, h, rfl⟩)
      · exact ⟨0, w, by simp, by simp⟩
      · exact ⟨k + 1, v, by simpa using h, by rw [Nat.add_assoc, Nat.add_comm 1 k]⟩
    · rintro ⟨k, v, h, rfl⟩
      cases k with
      | zero => left; simp at h; simp [h]
      | succ k => right; exact ⟨k, v, by simpa using h, by rw [Nat.add_assoc, Nat.add_comm 1 k]⟩
def xL (la : Array Slot) (n : Nat) (ad : Nat → Nat) (ls : List (Option Value)) : Prop := lv_has la n (xls ad 0 ls) ∧ ls.length = n
theorem xL_at {la : Array Slot} {n : Nat} {ad : Nat → Nat} {ls : List (Option Value)} (h : xL la n ad ls) {k : Nat} {v : Value} (hk : ls[k]? = some (some v)) : la[k]? = some (.val (xv ad v)) :=
  h.1.2.2 (k, xv ad v) ((xls_mem ad ls 0 _).mpr ⟨k, v, hk, by rw [Nat.zero_add]⟩)
theorem xv_cat (ad : Nat → Nat) (v : Value) : (xv ad v).category = v.category := by cases v <;> rfl
/-- may a value of one slot be stored at k: k is a place, and what stands just below is no long -/
def xlok (ls : List (Option Value)) (k : Nat) : Bool := Nat.blt k ls.length && (match k with
  | 0 => true
  | j + 1 => match ls[j]? with
    | some (some (.long _)) => false
    | some (some (.double _)) => false
    | _ => true)
theorem xL_store {la : Array Slot} {n : Nat} {ad : Nat → Nat} {ls : List (Option Value)} (h : xL la n ad ls) {k : Nat} {v : Value} (hk : xlok ls k = true) (hc : v.category = 1) :
    ∃ la', storeLocals la k (xv ad v) = some la' ∧ xL la' n ad (ls.set k (some v)) := by
  obtain ⟨hl, hn⟩ := h
  simp only [xlok, Bool.and_eq_true, Nat.blt_eq] at hk
  obtain ⟨hk1, hk2⟩ := hk
  obtain ⟨la', e, h'⟩ := lv_store1 (v := xv ad v) hl (by omega : k < n) (by rw [xv_cat]; exact hc)
  refine ⟨la', e, ⟨h'.1, h'.2.1, fun q hq => ?_⟩, by rw [List.length_set]; exact hn⟩
  obtain ⟨j, w, hj, rfl⟩ := (xls_mem ad _ 0 q).mp hq
  rw [Nat.zero_add]
  rw [List.getElem?_set] at hj
  by_cases hkj : k = j
  · subst hkj
    rw [if_pos rfl, if_pos hk1] at hj
    cases hj
    exact h'.2.2 _ List.mem_cons_self
  · rw [if_neg hkj] at hj
    refine h'.2.2 (j, xv ad w) (List.mem_cons_of_mem _ (List.mem_filter.mpr ⟨(xls_mem ad ls 0 _).mpr ⟨j, w, hj, by rw [Nat.zero_add]⟩, ?_⟩))
    have e1 : (j == k) = false := by simp; omega
    simp only [e1, Bool.not_false, Bool.true_and, Bool.not_eq_true', Bool.and_eq_false_iff]
    by_cases h2 : j + 1 = k
    · right
      subst h2
      simp only [hj] at hk2
      cases w <;> first | rfl | (simp at hk2)
    · left
      simp; exact h2
theorem xL_ad {la : Array Slot} {n m : Nat} {ad ad' : Nat → Nat} {ls : List (Option Value)} (h : xL la n ad ls) (ha : ∀ k, k < m ∨ xB ≤ k → ad k = ad' k) (hok : ls.all (fun o => match o with | none => true | some v => xokv m v) = true) : xL la n ad' ls := by
  refine ⟨⟨h.1.1, h.1.2.1, fun q hq => ?_⟩, h.2⟩
  obtain ⟨j, w, hj, rfl⟩ := (xls_mem ad' ls 0 q).mp hq
  have h1 := List.all_eq_true.mp hok _ (List.mem_of_getElem? hj)
  rw [Nat.zero_add, ← xv_congr ha (xokv_sp h1)]
  exact xL_at h hj
theorem xmap_ad {m : Nat} {ad ad' : Nat → Nat} {st : List Value} (ha : ∀ k, k < m ∨ xB ≤ k → ad k = ad' k) (hok : st.all (xokv m) = true) : st.map (xv ad) = st.map (xv ad') :=
  List.map_congr_left (fun v hv => xv_congr ha (xokv_sp (List.all_eq_true.mp hok v hv)))
