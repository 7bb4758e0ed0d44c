/-! ===== many rows; calls ===== -/
theorem xlk_mem {pc : Nat} {o : xO} : ∀ {l : List (Nat × xO)}, l.lookup pc = some o → (pc, o) ∈ l
  | [], h => by cases h
  | (a, q) :: r, h => by
    rw [List.lookup_cons] at h
    cases hb : pc == a with
    | false => rw [hb] at h; exact List.mem_cons_of_mem _ (xlk_mem h)
    | true =>
      rw [hb] at h
      have e1 : pc = a := by simpa using hb
      have e2 : q = o := Option.some.inj h
      subst e1; subst e2
      exact List.mem_cons_self
theorem xat_ck {M : xM} (hM : xMk M = true) {pc : Nat} {o : xO} (h : xat M pc = some o) : xck (xown M) (decide (M.1.name = "<init>")) (xcc M) pc o = true := by
  unfold xat at h
  split at h
  · next l hl => exact List.all_eq_true.mp (List.all_eq_true.mp hM l (List.mem_of_getElem? hl)) (pc, o) (xlk_mem h)
  · cases h
/-- n rows on, but no further than a place of 'stops', a call, or the end -/
def xg (L : xLn) (M : xM) (d mc ms : Nat) (Q : Option Value → List xE → Prop) (stops : List Nat) (K : xK) : Nat → xK
  | 0 => K
  | n + 1 => fun z pc ls st X => bif stops.elem pc then K z pc ls st X else match xat M pc with
    | some o => xs1 L M d mc ms Q o z ls st X (xg L M d mc ms Q stops K n) (K z pc ls st X)
    | none => False
theorem xg_sound {L : xLn} {M : xM} {d mc ms : Nat} {Q : Option Value → List xE → Prop} {n0 : Nat} {stops : List Nat} (hM : xMk M = true) : ∀ (n : Nat) (z : Nat × Nat) (pc : Nat) (ls : List (Option Value)) (st : List Value) (X : List xE), xg L M d mc ms Q stops (AJ L M d mc ms Q n0) n z pc ls st X → AJ L M d mc ms Q n0 z pc ls st X
  | 0, _, _, _, _, _, h => h
  | n + 1, z, pc, ls, st, X, h => by
    unfold xg at h
    cases hs : stops.elem pc with
    | true => rw [hs] at h; exact h
    | false =>
      rw [hs] at h
      dsimp only [cond] at h
      split at h
      · next o ho => exact xs_sound (xat_ck hM ho) h (fun z' pc' ls' st' X' h' => xg_sound hM n z' pc' ls' st' X' h') id
      · exact h.elim
/-- from here on n rows: the first is taken also at a place of 'stops' -/
theorem AJ.run {L : xLn} {M : xM} {d mc ms : Nat} {Q : Option Value → List xE → Prop} {n0 : Nat} {z : Nat × Nat} {pc : Nat} {ls : List (Option Value)} {st : List Value} {X : List xE} (hM : xMk M = true) (stops : List Nat) (n : Nat)
    (h : match xat M pc with
      | some o => xs1 L M d mc ms Q o z ls st X (xg L M d mc ms Q stops (AJ L M d mc ms Q n0) n) (AJ L M d mc ms Q n0 z pc ls st X)
      | none => False) : AJ L M d mc ms Q n0 z pc ls st X := by
  split at h
  · next o ho => exact xs_sound (xat_ck hM ho) h (fun z' pc' ls' st' X' h' => xg_sound hM n z' pc' ls' st' X' h') id
  · exact h.elim
/-- cells that agree where they count -/
def xq : xE → xE → Prop
  | .inl (t, n, f), .inl (t', n', f') => t = t' ∧ n = n' ∧ ∀ j, j < n → f j = f' j
  | a, b => a = b
theorem xq_cell {I : xI} {ad : Nat → Nat} {D : va_G} {cl : List vw_C} {a : Nat} {c c' : xE} {H : Heap} (h : xq c c') (hv : va_at D cl (a, xe I ad c) H) : va_at D cl (a, xe I ad c') H := by
  rcases c with ⟨t, n, f⟩ | l | ⟨ci, fs⟩ <;> rcases c' with ⟨t', n', f'⟩ | l' | ⟨ci', fs'⟩ <;> first | (cases h; done) | (cases h; exact hv) | skip
  obtain ⟨rfl, rfl, hf⟩ := h
  have e1 : vp_cell (if t = 0 then I.2.1 else I.2.2.1) (n, .inl f) = vp_cell (if t = 0 then I.2.1 else I.2.2.1) (n, .inl f') := by
    rw [vp_cell_i, vp_cell_i]
    unfold arrV
    congr 1
    apply Array.ext
    · simp
    · intro i h1 h2
      simp only [Array.getElem_ofFn]
      rw [hf i (by simpa using h1)]
  show H[a]? = some (vp_cell (if t = 0 then I.2.1 else I.2.2.1) (n, .inl f'))
  rw [← e1]
  exact hv
def xqs : List xE → List xE → Prop
  | [], [] => True
  | a :: r, b :: r' => xq a b ∧ xqs r r'
  | _, _ => False
theorem xqs_at : ∀ {X Y : List xE}, xqs X Y → X.length = Y.length ∧ ∀ (k : Nat) (c' : xE), Y[k]? = some c' → ∃ c, X[k]? = some c ∧ xq c c'
  | [], [], _ => ⟨rfl, fun k c' h => by simp at h⟩
  | [], _ :: _, h => h.elim
  | _ :: _, [], h => h.elim
  | a :: r, b :: r', h => by
    obtain ⟨h1, h2⟩ := xqs_at h.2
    refine ⟨by simp [h1], fun k c' hk => ?_⟩
    cases k with
    | zero => simp at hk; subst hk; exact ⟨a, rfl, h.1⟩
    | succ k => simpa using h2 k c' (by simpa using hk)
/-- the world may be told otherwise, where it is the same -/
theorem AJ.re {L : xLn} {M : xM} {d mc ms : Nat} {Q : Option Value → List xE → Prop} {n0 : Nat} {z : Nat × Nat} {pc : Nat} {ls : List (Option Value)} {st : List Value} {X Y : List xE} (h : xqs X Y) (k : AJ L M d mc ms Q n0 z pc ls st Y) : AJ L M d mc ms Q n0 z pc ls st X := by
  intro p e R s m args below meth c I A QF ad0 G ad H locs la HH hl
  obtain ⟨h1, h2⟩ := xqs_at h
  refine k p e R s m args below meth c I A QF ad0 G ad H locs la ⟨HH.1, by rw [← h1]; exact HH.2.1, by rw [← h1]; exact HH.2.2.1, ?_, ?_, HH.2.2.2.2.2⟩ hl
  · intro i q hq
    obtain ⟨c', e1, rfl⟩ := xw_inv hq
    obtain ⟨c, e2, e3⟩ := h2 i c' e1
    exact xq_cell e3 (HH.2.2.2.1 i _ (xw_get e2))
  · refine ⟨fun i j x y hi hj hxy => ?_, fun i q hq => ?_⟩
    · obtain ⟨c1, a1, rfl⟩ := xw_inv hi
      obtain ⟨c2, a2, rfl⟩ := xw_inv hj
      obtain ⟨d1, b1, -⟩ := h2 i c1 a1
      obtain ⟨d2, b2, -⟩ := h2 j c2 a2
      exact HH.2.2.2.2.1.1 i j _ _ (xw_get b1) (xw_get b2) hxy
    · obtain ⟨c1, a1, rfl⟩ := xw_inv hq
      obtain ⟨d1, b1, -⟩ := h2 i c1 a1
      exact HH.2.2.2.2.1.2 i (ad i, xe I ad d1) (xw_get b1)
/-- the cells' numbers told anew: the callee's numbers in the caller's words -/
def xsg (σ : List Nat) (N : Nat) (k : Nat) : Nat := if k < σ.length then σ.getD k 0 else if k < xB then N + (k - σ.length) else k
def xrE (f : Nat → Nat) : xE → xE
  | .inl a => .inl a
  | .inr (.inl l) => .inr (.inl (l.map (Option.map f)))
  | .inr (.inr (ci, fs)) => .inr (.inr (ci, fs.map (xv f)))
theorem xv_comp (ad f : Nat → Nat) (v : Value) : xv ad (xv f v) = xv (fun k => ad (f k)) v := by cases v <;> rfl
theorem xe_comp (I : xI) (ad f : Nat → Nat) (c : xE) : xe I ad (xrE f c) = xe I (fun k => ad (f k)) c := by
  rcases c with ⟨t, n, g⟩ | l | ⟨ci, fs⟩
  · rfl
  · show (Sum.inl (I.2.2.2, (l.map (Option.map f)).length, .inr (.inr (.inr (.inr (fun j : Nat => ((l.map (Option.map f))[j]?.join).map ad))))) : va_E) = .inl (I.2.2.2, l.length, .inr (.inr (.inr (.inr (fun j : Nat => (l[j]?.join).map (fun k => ad (f k)))))))
    have e1 : (fun j : Nat => ((l.map (Option.map f))[j]?.join).map ad) = (fun j : Nat => (l[j]?.join).map (fun k => ad (f k))) := by
      funext j
      rw [List.getElem?_map]
      cases l[j]? with
      | none => rfl
      | some o => cases o <;> rfl
    rw [e1, List.length_map]
  · show (Sum.inr (ci, (fs.map (xv f)).map (xv ad)) : va_E) = .inr (ci, fs.map (xv fun k => ad (f k)))
    rw [List.map_map]
    congr 2
    exact List.map_congr_left (fun v _ => xv_comp ad f v)
def xputs (f : Nat → Nat) : List xE → List Nat → List xE → List xE
  | X, i :: σ, c :: Y => xputs f (X.set i (xrE f c)) σ Y
  | X, _, _ => X
/-- the caller's world behind the call -/
def xput (σ : List Nat) (X Y : List xE) : List xE := xputs (xsg σ X.length) X σ Y ++ (Y.drop σ.length).map (xrE (xsg σ X.length))
theorem xputs_len (f : Nat → Nat) : ∀ (σ : List Nat) (X Y : List xE), (xputs f X σ Y).length = X.length
  | [], X, Y => by cases Y <;> rfl
  | i :: σ, X, [] => rfl
  | i :: σ, X, c :: Y => by rw [xputs, xputs_len f σ, List.length_set]
theorem xputs_out (f : Nat → Nat) : ∀ (σ : List Nat) (X Y : List xE) (k : Nat), k ∉ σ → (xputs f X σ Y)[k]? = X[k]?
  | [], X, Y, k, _ => by cases Y <;> rfl
  | i :: σ, X, [], k, _ => rfl
  | i :: σ, X, c :: Y, k, h => by
    rw [xputs, xputs_out f σ _ _ k (fun q => h (List.mem_cons_of_mem _ q)), List.getElem?_set_ne]
    exact fun q => h (by rw [← q]; exact List.mem_cons_self)
theorem xputs_in (f : Nat → Nat) : ∀ (σ : List Nat) (X Y : List xE), va_nd σ = true → (∀ i ∈ σ, i < X.length) → σ.length ≤ Y.length → ∀ (j i : Nat) (c : xE), σ[j]? = some i → Y[j]? = some c → (xputs f X σ Y)[i]? = some (xrE f c)
  | [], X, Y, _, _, _, j, i, c, h, _ => by simp at h
  | a :: σ, X, [], _, _, h, _, _, _, _, _ => by simp at h
  | a :: σ, X, b :: Y, hn, hl, hs, j, i, c, h1, h2 => by
    simp only [va_nd, Bool.and_eq_true, decide_eq_true_eq] at hn
    rw [xputs]
    cases j with
    | zero =>
      simp at h1 h2
      subst h1; subst h2
      rw [xputs_out f σ _ _ a hn.1, List.getElem?_set_self (hl a List.mem_cons_self)]
    | succ j =>
      refine xputs_in f σ (X.set a (xrE f b)) Y hn.2 (fun q hq => by rw [List.length_set]; exact hl q (List.mem_cons_of_mem _ hq)) (by simpa using hs) j i c (by simpa using h1) (by simpa using h2)

set_option maxHeartbeats 1000000 in
/-- BEHIND A CALL: what came back, beside the rest, which is unchanged -/
theorem xjoin {I : xI} {A : Nat → Prop} {s : State} {n0 : Nat} {ad0 ad : Nat → Nat} {X : List xE} {H : Heap} {locs : List Loc} (HH : xH I A s n0 ad0 ad X H locs) (hA : ∀ q, s.heap.size ≤ q → A q) (hwX : X.all (xoke X.length) = true) {σ : List Nat} (hnd : va_nd σ = true) {Xc : List xE}
    (hX : σ.map (fun i => X[i]?) = Xc.map (fun c => some (xrE (xsg σ X.length) c))) {Y : List xE} {ac : Nat → Nat} {H1 : Heap} {locs1 : List Loc} (ha : ∀ i, i < Xc.length ∨ xB ≤ i → ac i = ad (xsg σ X.length i)) (hl1 : Xc.length ≤ Y.length) (hB1 : X.length + Y.length ≤ xB) (hwY : Y.all (xoke Y.length) = true)
    (hP1 : va_P I.1 vwCl (xw I ac Y) H1) (hD1 : va_D (va_A (xw I (fun k => ad (xsg σ X.length k)) Xc) H.size) (xw I ac Y)) (hk1 : ∀ q : Nat, q < H.size → ¬ va_A (xw I (fun k => ad (xsg σ X.length k)) Xc) H.size q → H1[q]? = H[q]?) (hF : ∀ q, va_A (xw I (fun k => ad (xsg σ X.length k)) Xc) H.size q → A q) (hS1 : va_S A s.heap H1 locs1) :
    ∃ ad', xH I A s n0 ad0 ad' (xput σ X Y) H1 locs1 ∧ ∀ k, k < X.length ∨ xB ≤ k → ad k = ad' k := by
  obtain ⟨hag, hn0, hB, hP, hD, hS⟩ := HH
  have hsl : σ.length = Xc.length := by
    have := congrArg List.length hX
    simpa using this
  have hat : ∀ (j i : Nat), σ[j]? = some i → ∃ c, Xc[j]? = some c ∧ X[i]? = some (xrE (xsg σ X.length) c) := by
    intro j i hj
    have e1 := congrArg (fun l => l[j]?) hX
    simp only [List.getElem?_map, hj, Option.map_some] at e1
    cases hc : Xc[j]? with
    | none => rw [hc] at e1; cases e1
    | some c => rw [hc] at e1; exact ⟨c, rfl, Option.some.inj e1⟩
  have hlt : ∀ i ∈ σ, i < X.length := by
    intro i hi
    obtain ⟨j, hj⟩ := List.getElem?_of_mem hi
    obtain ⟨c, -, h2⟩ := hat j i hj
    exact (List.getElem?_eq_some_iff.mp h2).1
  have hsg1 : ∀ (j i : Nat), σ[j]? = some i → xsg σ X.length j = i := by
    intro j i hj
    have hjl := (List.getElem?_eq_some_iff.mp hj).1
    unfold xsg
    rw [if_pos hjl, List.getD_eq_getElem?_getD, hj]; rfl
  -- the new address map
  obtain ⟨ad', had'⟩ : ∃ ad' : Nat → Nat, ad' = fun k => if X.length ≤ k ∧ k < X.length + (Y.length - σ.length) then ac (σ.length + (k - X.length)) else ad k := ⟨_, rfl⟩
  have hold : ∀ k, k < X.length ∨ xB ≤ k → ad k = ad' k := by
    intro k hk
    rw [had']
    show ad k = if _ then _ else ad k
    rw [if_neg (by omega)]
  have hcomp : ∀ k, k < Y.length ∨ xB ≤ k → ad' (xsg σ X.length k) = ac k := by
    intro k hk
    by_cases h1 : k < σ.length
    · have hj : σ[k]? = some σ[k] := List.getElem?_eq_getElem h1
      rw [ha k (Or.inl (by omega)), hsg1 k _ hj, ← hold _ (Or.inl (hlt _ (List.mem_of_getElem? hj)))]
    · by_cases h2 : k < xB
      · have h3 : xsg σ X.length k = X.length + (k - σ.length) := by
          unfold xsg
          rw [if_neg h1, if_pos h2]
        rw [h3, had']
        show (if _ then _ else _) = ac k
        rw [if_pos (by omega)]
        congr 1
        omega
      · have h3 : xsg σ X.length k = k := by
          unfold xsg
          rw [if_neg h1, if_neg h2]
        rw [ha k (Or.inr (by omega)), h3, ← hold k (Or.inr (by omega))]
  have hcell : ∀ c ∈ Y, xe I ad' (xrE (xsg σ X.length) c) = xe I ac c := by
    intro c hc
    rw [xe_comp]
    exact xe_congr hcomp (xoke_sp (List.all_eq_true.mp hwY c hc))
  -- what stands where
  have hput : ∀ (k : Nat) (c : xE), (xput σ X Y)[k]? = some c → (k < X.length ∧ k ∉ σ ∧ X[k]? = some c) ∨ (∃ (j : Nat) (c0 : xE), Y[j]? = some c0 ∧ c = xrE (xsg σ X.length) c0 ∧ ad' k = ac j ∧ ((j < σ.length ∧ σ[j]? = some k) ∨ (σ.length ≤ j ∧ k = X.length + (j - σ.length)))) := by
    intro k c hk
    unfold xput at hk
    by_cases hkl : k < X.length
    · rw [List.getElem?_append_left (by rw [xputs_len]; exact hkl)] at hk
      by_cases hm : k ∈ σ
      · right
        obtain ⟨j, hj⟩ := List.getElem?_of_mem hm
        have hjl := (List.getElem?_eq_some_iff.mp hj).1
        have hjY : j < Y.length := by omega
        have h0 := xputs_in (xsg σ X.length) σ X Y hnd hlt (by omega) j k Y[j] hj (List.getElem?_eq_getElem hjY)
        rw [h0] at hk
        refine ⟨j, Y[j], List.getElem?_eq_getElem hjY, (Option.some.inj hk).symm, ?_, Or.inl ⟨hjl, hj⟩⟩
        rw [← hcomp j (Or.inl hjY), hsg1 j k hj]
      · left
        rw [xputs_out _ _ _ _ _ hm] at hk
        exact ⟨hkl, hm, hk⟩
    · right
      rw [List.getElem?_append_right (by rw [xputs_len]; omega), xputs_len, List.getElem?_map, List.getElem?_drop] at hk
      cases hy : Y[σ.length + (k - X.length)]? with
      | none => rw [hy] at hk; cases hk
      | some c0 =>
        rw [hy] at hk
        have hyl := (List.getElem?_eq_some_iff.mp hy).1
        refine ⟨σ.length + (k - X.length), c0, hy, (Option.some.inj hk).symm, ?_, Or.inr ⟨by omega, by omega⟩⟩
        rw [had']
        show (if _ then _ else _) = _
        rw [if_pos (by omega)]
  have hwc : ∀ (q : Nat), va_A (xw I (fun k => ad (xsg σ X.length k)) Xc) H.size q → (∃ (j i : Nat), σ[j]? = some i ∧ q = ad i) ∨ H.size ≤ q := by
    intro q hq
    rcases hq with ⟨j, e0, hj⟩ | hq
    · left
      obtain ⟨c0, h1, h2⟩ := xw_inv hj
      have hjl : j < σ.length := by rw [hsl]; exact (List.getElem?_eq_some_iff.mp h1).1
      refine ⟨j, σ[j], List.getElem?_eq_getElem hjl, ?_⟩
      have := congrArg Prod.fst h2
      dsimp only at this
      rw [this, hsg1 j _ (List.getElem?_eq_getElem hjl)]
    · exact Or.inr hq
  have hout : ∀ k c, k < X.length → k ∉ σ → X[k]? = some c → ad k < H.size ∧ ¬ va_A (xw I (fun k => ad (xsg σ X.length k)) Xc) H.size (ad k) := by
    intro k c hkl hm hk
    have hlt2 : ad k < H.size := (hP k _ (xw_get hk)).lt
    refine ⟨hlt2, fun hq => ?_⟩
    rcases hwc _ hq with ⟨j, i, hj, hi⟩ | hq
    · have him := List.mem_of_getElem? hj
      have hki := hD.1 k i _ _ (xw_get hk) (xw_get (List.getElem?_eq_getElem (hlt i him))) hi
      exact hm (hki ▸ him)
    · omega
  -- addresses of callee's cells
  have hcad : ∀ j i, σ[j]? = some i → ac j = ad i := by
    intro j i hj
    have hjl := (List.getElem?_eq_some_iff.mp hj).1
    rw [ha j (Or.inl (by omega)), hsg1 j i hj]
  have hD1' := hD1.2
  have hnew : ∀ (j : Nat) (c : xE), Y[j]? = some c → σ.length ≤ j → H.size ≤ ac j := by
    intro j c hj hjl
    rcases hwc _ (hD1' j _ (xw_get hj)) with ⟨j2, i2, h1, h2⟩ | h
    · exfalso
      have hj2 := (List.getElem?_eq_some_iff.mp h1).1
      have h3 := hD1.1 j j2 _ _ (xw_get hj) (xw_get (List.getElem?_eq_getElem (show j2 < Y.length by omega))) (show ac j = ac j2 by rw [hcad j2 i2 h1]; exact h2)
      omega
    · exact h
  refine ⟨ad', ⟨fun i hi => ?_, ?_, ?_, ?_, ?_, hS1⟩, hold⟩
  · rw [← hold i (by omega)]; exact hag i hi
  · unfold xput
    rw [List.length_append, xputs_len]; omega
  · unfold xput
    rw [List.length_append, xputs_len, List.length_map, List.length_drop]; omega
  · intro k q hq
    obtain ⟨c, hc, rfl⟩ := xw_inv hq
    rcases hput k c hc with ⟨h1, h2, h3⟩ | ⟨j, c0, h1, rfl, h3, -⟩
    · obtain ⟨h4, h5⟩ := hout k c h1 h2 h3
      have hv := (hP k _ (xw_get h3)).kept (H1 := H1) (hk1 _ h4 h5)
      rw [← hold k (Or.inl h1), ← xe_congr hold (xoke_sp (List.all_eq_true.mp hwX c (List.mem_of_getElem? h3)))]
      exact hv
    · have hv := hP1 j _ (xw_get h1)
      rw [h3, hcell c0 (List.mem_of_getElem? h1)]
      exact hv
  · refine ⟨fun i j x y hi hj hxy => ?_, fun k q hq => ?_⟩
    · obtain ⟨c1, a1, rfl⟩ := xw_inv hi
      obtain ⟨c2, a2, rfl⟩ := xw_inv hj
      dsimp only at hxy
      have low : ∀ (k : Nat) (c : xE), k < X.length → X[k]? = some c → ad k < H.size := fun k c _ h => (hP k _ (xw_get h)).lt
      have lowσ : ∀ (jj k : Nat), σ[jj]? = some k → ad k < H.size := by
        intro jj k h
        obtain ⟨c, -, h2⟩ := hat jj k h
        exact (hP k _ (xw_get h2)).lt
      have inj : ∀ (k1 k2 : Nat), k1 < X.length → k2 < X.length → ad k1 = ad k2 → k1 = k2 := fun k1 k2 h1 h2 h => hD.1 k1 k2 _ _ (xw_get (List.getElem?_eq_getElem h1)) (xw_get (List.getElem?_eq_getElem h2)) h
      rcases hput i c1 a1 with ⟨p1, p2, p3⟩ | ⟨j1, b1, p1, -, p3, p4⟩ <;> rcases hput j c2 a2 with ⟨r1, r2, r3⟩ | ⟨j2, b2, r1, -, r3, r4⟩
      · rw [← hold i (Or.inl p1), ← hold j (Or.inl r1)] at hxy
        exact inj i j p1 r1 hxy
      · rw [← hold i (Or.inl p1), r3] at hxy
        rcases r4 with ⟨r4, r5⟩ | ⟨r4, r5⟩
        · rw [hcad j2 j r5] at hxy
          exact inj i j p1 (hlt j (List.mem_of_getElem? r5)) hxy
        · have := hnew j2 b2 r1 r4
          have := low i c1 p1 p3
          omega
      · rw [p3, ← hold j (Or.inl r1)] at hxy
        rcases p4 with ⟨p4, p5⟩ | ⟨p4, p5⟩
        · rw [hcad j1 i p5] at hxy
          exact inj i j (hlt i (List.mem_of_getElem? p5)) r1 hxy
        · have := hnew j1 b1 p1 p4
          have := low j c2 r1 r3
          omega
      · rw [p3, r3] at hxy
        have hj12 := hD1.1 j1 j2 _ _ (xw_get p1) (xw_get r1) hxy
        subst hj12
        rcases p4 with ⟨p4, p5⟩ | ⟨p4, p5⟩ <;> rcases r4 with ⟨r4, r5⟩ | ⟨r4, r5⟩
        · exact Option.some.inj (p5.symm.trans r5)
        · omega
        · omega
        · omega
    · obtain ⟨c1, a1, rfl⟩ := xw_inv hq
      rcases hput k c1 a1 with ⟨p1, p2, p3⟩ | ⟨j1, b1, p1, -, p3, -⟩
      · rw [← hold k (Or.inl p1)]
        exact hD.2 k (ad k, xe I ad c1) (xw_get p3)
      · rw [p3]
        exact hF _ (hD1.2 j1 (ac j1, xe I ac b1) (xw_get p1))
