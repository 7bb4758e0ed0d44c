/-! ===== one step is sound ===== -/
theorem xmt_in {t : Nat} {w : Cond} (h : xmt t w = true) (hg : goodWord w = true) : w ∈ xtb := xtb_at t (of_decide_eq_true h) hg
theorem xmm_in {w : Cond} (h : xmm w = true) (hg : goodWord w = true) : w ∈ xtb := xtb_in (of_decide_eq_true h) hg
theorem xcls_in : ∀ r ∈ vwCl, ∀ w ∈ u_ws r.1 r.2.1 r.2.2, w ∈ tables_1 := by decide +kernel
theorem xcls_gd : ∀ r ∈ vwCl, ∀ w ∈ u_ws r.1 r.2.1 r.2.2, goodWord w = true := by decide +kernel
theorem xcls {a : Nat} {r : vw_C} (h : vwCl[a]? = some r) : ∀ w ∈ u_ws r.1 r.2.1 r.2.2, w ∈ xtb := fun w hw => xtb_in (xcls_in r (List.mem_of_getElem? h) w hw) (xcls_gd r (List.mem_of_getElem? h) w hw)
def xtyF (r : vw_C) (k : Nat) : FieldType := (parseFieldDescriptor (r.2.1 k).2.2.1).getD .int
theorem xty_ok : ∀ r ∈ vwCl, ∀ k, k < r.2.2 → parseFieldDescriptor (r.2.1 k).2.2.1 = some (xtyF r k) := by decide +kernel
theorem xnm_ok : ∀ r ∈ vwCl, ∀ a, a < r.2.2 → ∀ b, b < r.2.2 → a ≠ b → (r.2.1 a).2.1 ≠ (r.2.1 b).2.1 := by decide +kernel
theorem xnx {nx pc j : Nat} (h : Nat.beq nx (pc + j) = true) : nx = pc + j := Nat.eq_of_beq_eq_true h
section XS
variable {p : Program} {l : Launch} {e : Env} {R : Room} {s : State} {m : MethodId} {args : Array Value} {below : List Frame} {meth : Method} {c : Code} {H : Heap} {locs : List Loc} {cells slots : Nat} {Q : State → Prop} {cc : ByteArray} {pc : Nat} {la la' : Array Slot} {rest : List Value}
theorem x_istore_n (hexec : p.tables.exec = Jvm.exec) (hb : c.code = cc) {k : Fin 4} {x : Int32} (hdg : decode cc pc = .ok (.istore_n k, 1)) (e' : storeLocals la k.val (.int x) = some la') (kk : W p l e R s m args below meth c H locs cells slots Q (F0 m (pc + 1) la' rest)) : W p l e R s m args below meth c H locs cells slots Q (F0 m pc la (.int x :: rest)) := by
  intro T hT X
  obtain ⟨t, a, b⟩ := kk T hT X
  refine ⟨t, ?_, b⟩
  jvm_step X.here [X.here.top, ↓top_set X.here.top, hexec, hb, hdg, e']
  exact a
theorem x_istore (hexec : p.tables.exec = Jvm.exec) (hb : c.code = cc) {k : Nat} {x : Int32} (hdg : decode cc pc = .ok (.istore k, 2)) (e' : storeLocals la k (.int x) = some la') (kk : W p l e R s m args below meth c H locs cells slots Q (F0 m (pc + 2) la' rest)) : W p l e R s m args below meth c H locs cells slots Q (F0 m pc la (.int x :: rest)) := by
  intro T hT X
  obtain ⟨t, a, b⟩ := kk T hT X
  refine ⟨t, ?_, b⟩
  jvm_step X.here [X.here.top, ↓top_set X.here.top, hexec, hb, hdg, e']
  exact a
theorem x_astore_n (hexec : p.tables.exec = Jvm.exec) (hb : c.code = cc) {k : Fin 4} {x : Nat} (hdg : decode cc pc = .ok (.astore_n k, 1)) (e' : storeLocals la k.val (.ref x) = some la') (kk : W p l e R s m args below meth c H locs cells slots Q (F0 m (pc + 1) la' rest)) : W p l e R s m args below meth c H locs cells slots Q (F0 m pc la (.ref x :: rest)) := by
  intro T hT X
  obtain ⟨t, a, b⟩ := kk T hT X
  refine ⟨t, ?_, b⟩
  jvm_step X.here [X.here.top, ↓top_set X.here.top, hexec, hb, hdg, e', Value.isRef]
  exact a
theorem x_iinc (hexec : p.tables.exec = Jvm.exec) (hb : c.code = cc) {k : Nat} {n : Int} {x v : Int32} (hdg : decode cc pc = .ok (.iinc k n, 3)) (hg : la[k]? = some (.val (.int x))) (hv : Int32.ofInt n = v) (e' : storeLocals la k (.int (x + v)) = some la') (kk : W p l e R s m args below meth c H locs cells slots Q (F0 m (pc + 3) la' rest)) : W p l e R s m args below meth c H locs cells slots Q (F0 m pc la rest) := by
  subst hv
  intro T hT X
  obtain ⟨t, a, b⟩ := kk T hT X
  refine ⟨t, ?_, b⟩
  jvm_step X.here [X.here.top, ↓top_set X.here.top, hexec, hb, hdg, hg, e']
  exact a
end XS
theorem xcell_cp {cA : ClassId} {n : Nat} {f g : Nat → Int32} : vp_cell cA (n, .inl (va_cpy f g 0 0 n)) = vp_cell cA (n, .inl f) := by
  rw [vp_cell_i, vp_cell_i]
  unfold arrV
  congr 1
  apply Array.ext
  · simp
  · intro i h1 h2
    simp only [Array.getElem_ofFn]
    have : i < n := by simpa using h1
    simp [va_cpy, this]
theorem xfits_ref {ty : FieldType} (h : (∃ n, ty = .object n) ∨ ∃ t, ty = .array t) (k : Nat) : narrow ty (.ref k) = .ref k ∧ fits ty (.ref k) = true := by
  rcases h with ⟨n, rfl⟩ | ⟨t, rfl⟩ <;> exact ⟨rfl, rfl⟩
theorem xup_list {l : List (Option Nat)} {i u : Nat} (ad : Nat → Nat) (hi : i < l.length) : (fun j : Nat => ((l.set i (some u))[j]?.join).map ad) = va_up (fun j : Nat => (l[j]?.join).map ad) i (some (ad u)) := by
  funext j
  unfold va_up
  by_cases h : j = i
  · subst h
    rw [if_pos rfl, List.getElem?_set_self hi]; rfl
  · rw [if_neg h, List.getElem?_set_ne (Ne.symm h)]
theorem vp_in_lt {i : Int32} {n : Nat} (h : vp_in i n) : i.toNatClampNeg < n := Nat.not_le.mp fun q => h (Or.inr q)
/-- a cell written -/
theorem xH.put {I : xI} {A : Nat → Prop} {s : State} {n0 : Nat} {ad0 ad : Nat → Nat} {X : List xE} {H H1 : Heap} {locs locs1 : List Loc} (h : xH I A s n0 ad0 ad X H locs) {k : Nat} {c : xE} (hP : va_P I.1 vwCl ((xw I ad X).set k (ad k, xe I ad c)) H1) (hD : va_D A ((xw I ad X).set k (ad k, xe I ad c))) (hS : va_S A s.heap H1 locs1) : xH I A s n0 ad0 ad (X.set k c) H1 locs1 := by
  rw [xw_set] at hP hD
  exact ⟨h.1, by rw [List.length_set]; exact h.2.1, by rw [List.length_set]; exact h.2.2.1, hP, hD, hS⟩
/-- a cell made: the address map grows -/
theorem xH.push {I : xI} {A : Nat → Prop} {s : State} {n0 : Nat} {ad0 ad : Nat → Nat} {X : List xE} {H H1 : Heap} {locs locs1 : List Loc} (h : xH I A s n0 ad0 ad X H locs) {q : Nat} {c : xE} (hB : X.length < xB) (hok : X.all (xoke X.length) = true) (hc : xe I ad c = xe I (va_up ad X.length q) c)
    (hP : va_P I.1 vwCl (xw I ad X ++ [(q, xe I ad c)]) H1) (hD : va_D A (xw I ad X ++ [(q, xe I ad c)])) (hS : va_S A s.heap H1 locs1) : xH I A s n0 ad0 (va_up ad X.length q) (X ++ [c]) H1 locs1 ∧ ∀ k, k < X.length ∨ xB ≤ k → ad k = va_up ad X.length q k := by
  have ha : ∀ k, k < X.length ∨ xB ≤ k → ad k = va_up ad X.length q k := fun k hk => by
    unfold va_up
    rw [if_neg (by omega)]
  have e1 : xw I ad X = xw I (va_up ad X.length q) X := xw_congr ha (fun k hk => Or.inl hk) (fun c hc => xoke_sp (List.all_eq_true.mp hok c hc))
  have e2 : xw I ad X ++ [(q, xe I ad c)] = xw I (va_up ad X.length q) (X ++ [c]) := by
    rw [e1, hc, ← xw_push]
    congr 3
    unfold va_up
    rw [if_pos rfl]
  rw [e2] at hP hD
  refine ⟨⟨fun i hi => ?_, ?_, ?_, hP, hD, hS⟩, ha⟩
  · have := h.2.1
    rw [← ha i (by omega)]
    exact h.1 i hi
  · rw [List.length_append]; have := h.2.1; simp; omega
  · rw [List.length_append]; simp; omega
