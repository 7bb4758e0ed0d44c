/-! ===== words, contexts, judgement, contract ===== -/
def xtb : List Cond := lw_tbl.filter goodWord
theorem xtb_sub : ∀ w ∈ xtb, w ∈ lw_tbl := fun _ h => (List.mem_filter.mp h).1
theorem xtb_good {ts : List Cond} (h : ∀ w ∈ xtb, w ∈ ts) : GoodIn ts xtb := fun w hw => ⟨h w hw, good_of_word (List.mem_filter.mp hw).2⟩
theorem xtb_in {w : Cond} (h : w ∈ tables_1) (hg : goodWord w = true) : w ∈ xtb := List.mem_filter.mpr ⟨List.mem_append_right _ h, hg⟩
theorem xtb_at {w : Cond} (t : Nat) (h : tables_1[t]? = some w) (hg : goodWord w = true) : w ∈ xtb := xtb_in (List.mem_of_getElem? h) hg
/-- an instruction with what it links: next place, target, int and long constant, three numbers, a switch's cases -/
abbrev xO : Type := Instr × Nat × Nat × Int32 × Int64 × Nat × Nat × Nat × List (Int32 × Nat)
/-- a method: name, code, locals, what it returns, its rows by sixteens -/
abbrev xM : Type := MethodName × ByteArray × Nat × Option FieldType × List (List (Nat × xO))
abbrev xown (M : xM) : String := M.1.cls
abbrev xcc (M : xM) : ByteArray := M.2.1
abbrev xml (M : xM) : Nat := M.2.2.1
abbrev xret (M : xM) : Option FieldType := M.2.2.2.1
def xat (M : xM) (pc : Nat) : Option xO := match M.2.2.2.2[pc / 16]? with
  | some l => l.lookup pc
  | none => none
abbrev xT (I : xI) : List (ClassId × FieldType) := [(I.2.1, .int), (I.2.2.1, .boolean), (I.2.2.2, .object "NeededStop$Day")]
def xnum : List Int32 := [1, 2, 1, 1, 4, 3, 2, 2, 2, 0]
def xsl : List Nat := [4, 4, 5, 4, 4, 4, 5, 8, 4, 4]
def xsb : List (List Int32) := [[114, 97, 105, 108], [110, 111, 115, 101], [115, 101, 97, 116, 115], [102, 97, 114, 101], [116, 114, 97, 109], [102, 111, 108, 107], [116, 101, 97, 114, 115], [108, 97, 117, 103, 104, 116, 101, 114], [100, 101, 98, 116], [99, 97, 108, 109]]
def xsk : List Nat := [89, 95, 97, 99, 101, 103, 105, 107, 109, 111]
def xst : List String := ["rail", "nose", "seats", "fare", "tram", "folk", "tears", "laughter", "debt", "calm"]
abbrev xLn : Type := Launch × Nat × (Nat → Int32)
def xnl : List (String × Nat × MethodName) := [("NeededStop", 11, ⟨"NeededStop$Text", "<init>", "()V"⟩), ("NeededStop", 18, ⟨"NeededStop$Told", "<init>", "()V"⟩), ("NeededStop$Reader", 11, ⟨"NeededStop$Told", "<init>", "()V"⟩), ("NeededStop$Day", 35, ⟨"NeededStop$Halts", "<init>", "()V"⟩), ("NeededStop$Feigning", 11, ⟨"NeededStop$Told", "<init>", "()V"⟩)]
/-- what stood before the start, and is never written: the numbers' row, the ten words, the script -/
def xFF (L : xLn) (ad : Nat → Nat) (A : Nat → Prop) (U : State) (H : Heap) : Prop :=
  va_Z "NeededStop$Reader" "NUMBERS" "[I" (.ref (ad xB)) A U H ∧ va_T .int (ad xB) 10 (fun j => .int (xnum.getD j 0)) A U H ∧ va_Z "java/lang/String" "COMPACT_STRINGS" "Z" (.int 1) A U H ∧
  vk_S 10 xsl xsb (fun i => ad (xB + 1 + i)) (fun i => ad (xB + 11 + i)) A U H ∧ (∀ i : Nat, i < 10 → vk_R "NeededStop$Reader" (xsk.getD i 0) (xst.getD i "") (ad (xB + 1 + i)) U) ∧ va_T .int (ad (xB + 40)) L.2.1 (fun j => .int (L.2.2 j)) A U H ∧ va_AO "NeededStop$Day" U ∧ (∀ q ∈ xnl, va_Nw (.methodLinkNest q.1 q.2.1 q.2.2 "NeededStop") U) ∧ (va_Z "jdk/internal/util/Preconditions" "SIOOBE_FORMATTER" "Ljava/util/function/BiFunction;" .null A U H ∨ va_Z "jdk/internal/util/Preconditions" "SIOOBE_FORMATTER" "Ljava/util/function/BiFunction;" (.ref (ad (xB + 41))) A U H)
theorem xFF.warm {L : xLn} {ad : Nat → Nat} {A : Nat → Prop} {s U : State} {H : Heap} (hW : s.WarmedH U.vm) (h : xFF L ad A s H) : xFF L ad A U H :=
  ⟨h.1.moved hW.alike, h.2.1.moved hW.alike, h.2.2.1.moved hW.alike, h.2.2.2.1.moved hW.alike, fun i hi => (h.2.2.2.2.1 i hi).warm hW, h.2.2.2.2.2.1.moved hW.alike, h.2.2.2.2.2.2.1.moved hW.alike, fun q hq => (h.2.2.2.2.2.2.2.1 q hq).warmM hW, h.2.2.2.2.2.2.2.2.imp (fun z => z.moved hW.alike) (fun z => z.moved hW.alike)⟩
theorem xFF.same {L : xLn} {ad : Nat → Nat} {A : Nat → Prop} {s U : State} {H : Heap} (hv : U.vm = s.vm) (h : xFF L ad A s H) : xFF L ad A U H := by
  have ha : s.vm.Alike U.vm := by rw [hv]; exact Vm.Alike.refl _
  exact ⟨h.1.moved ha, h.2.1.moved ha, h.2.2.1.moved ha, h.2.2.2.1.moved ha, fun i hi => (h.2.2.2.2.1 i hi).same hv, h.2.2.2.2.2.1.moved ha, h.2.2.2.2.2.2.1.moved ha, fun q hq => va_Nw.same rfl hv.symm (h.2.2.2.2.2.2.2.1 q hq), h.2.2.2.2.2.2.2.2.imp (fun z => z.moved ha) (fun z => z.moved ha)⟩
theorem xFF.kept {L : xLn} {ad : Nat → Nat} {A : Nat → Prop} {U : State} {H H1 : Heap} (h : xFF L ad A U H) (hq : ∀ a : Nat, a < H.size → ¬ A a → H1[a]? = H[a]?) : xFF L ad A U H1 :=
  ⟨h.1.kept hq, h.2.1.kept hq, h.2.2.1.kept hq, h.2.2.2.1.kept hq, h.2.2.2.2.1, h.2.2.2.2.2.1.kept hq, h.2.2.2.2.2.2.1, h.2.2.2.2.2.2.2.1, h.2.2.2.2.2.2.2.2.imp (fun z => z.kept hq) (fun z => z.kept hq)⟩
theorem xFF.narrow {L : xLn} {ad : Nat → Nat} {A B : Nat → Prop} {U : State} {H : Heap} (h : xFF L ad A U H) (hAB : ∀ q, B q → A q) : xFF L ad B U H :=
  ⟨h.1.narrow hAB, h.2.1.narrow hAB, h.2.2.1.narrow hAB, h.2.2.2.1.narrow hAB, h.2.2.2.2.1, h.2.2.2.2.2.1.narrow hAB, h.2.2.2.2.2.2.1, h.2.2.2.2.2.2.2.1, h.2.2.2.2.2.2.2.2.imp (fun z => z.narrow hAB) (fun z => z.narrow hAB)⟩
theorem xFF.ad {L : xLn} {ad ad' : Nat → Nat} {A : Nat → Prop} {U : State} {H : Heap} (h : xFF L ad A U H) (ha : ∀ i, xB ≤ i → ad' i = ad i) : xFF L ad' A U H := by
  have e0 := ha xB (Nat.le_refl _)
  have e1 : (fun i => ad' (xB + 1 + i)) = (fun i => ad (xB + 1 + i)) := funext fun i => ha _ (by omega)
  have e3 := ha (xB + 40) (by omega)
  have e4 := ha (xB + 41) (by omega)
  have e2 : (fun i => ad' (xB + 11 + i)) = (fun i => ad (xB + 11 + i)) := funext fun i => ha _ (by omega)
  unfold xFF
  rw [e0, e1, e2, e3, e4]
  refine ⟨h.1, h.2.1, h.2.2.1, h.2.2.2.1, fun i hi => ?_, h.2.2.2.2.2⟩
  rw [ha _ (by omega)]
  exact h.2.2.2.2.1 i hi
/-- the machine's own part of a context -/
def xC (M : xM) (d : Nat) (p : Program) (R : Room) (s : State) (m : MethodId) (args : Array Value) (meth : Method) (c : Code) (I : xI) (A : Nat → Prop) : Prop :=
  p.tables.exec = Jvm.exec ∧ c.code = xcc M ∧ meth.sig.returnType = xret M ∧ c.maxLocals = xml M ∧ s.vm.findClass (xown M) = some m.cls ∧ (∀ w ∈ xtb, w.before args s = true) ∧ va_K I.1 vwCl (xT I) s ∧ meth.locks = false ∧ (M.1.name = "<init>" → meth.name = "<init>") ∧ (∀ q, s.heap.size ≤ q → A q) ∧ d ≤ R.frames ∧ 40 * d ≤ R.locals
/-- the world now -/
def xH (I : xI) (A : Nat → Prop) (s : State) (n0 : Nat) (ad0 ad : Nat → Nat) (X : List xE) (H : Heap) (locs : List Loc) : Prop :=
  (∀ i, i < n0 ∨ xB ≤ i → ad i = ad0 i) ∧ n0 ≤ X.length ∧ X.length ≤ xB ∧ va_P I.1 vwCl (xw I ad X) H ∧ va_D A (xw I ad X) ∧ va_S A s.heap H locs
/-- how it returns: an instruction of the code, an answer that its type takes -/
def xrt (M : xM) (pc : Nat) : Option Value → Prop
  | none => xret M = none ∧ decode (xcc M) pc = .ok (.return_, 1)
  | some (.int v) => decode (xcc M) pc = .ok (.ireturn, 1) ∧ ∃ ty, xret M = some ty ∧ narrow ty (.int v) = .int v
  | _ => False
def xG (L : xLn) (M : xM) (d mc ms : Nat) (Q : Option Value → List xE → Prop) (n0 : Nat) (p : Program) (e : Env) (R : Room) (s : State) (m : MethodId) (args : Array Value) (below : List Frame) (meth : Method) (c : Code) (I : xI) (A : Nat → Prop) (QF : State → Prop) (ad0 : Nat → Nat) : Prop :=
  xC M d p R s m args meth c I A ∧ mc ≤ R.cells ∧ ms ≤ R.slots ∧ xFF L ad0 A s s.heap ∧
  ∀ (r : Option Value) (X : List xE) (ad : Nat → Nat) (H : Heap) (locs : List Loc) (pc : Nat) (la : Array Slot), Q r X → X.all (xoke X.length) = true → xH I A s n0 ad0 ad X H locs → xrt M pc r → W p L.1 e R s m args below meth c H locs mc ms QF (F0 m pc la (r.toList.map (xv ad)))
/-- THE JUDGEMENT: from this abstract configuration the method comes to its end with Q -/
def AJ (L : xLn) (M : xM) (d mc ms : Nat) (Q : Option Value → List xE → Prop) (n0 : Nat) (z : Nat × Nat) (pc : Nat) (ls : List (Option Value)) (st : List Value) (X : List xE) : Prop :=
  ∀ (p : Program) (e : Env) (R : Room) (s : State) (m : MethodId) (args : Array Value) (below : List Frame) (meth : Method) (c : Code) (I : xI) (A : Nat → Prop) (QF : State → Prop) (ad0 : Nat → Nat), xG L M d mc ms Q n0 p e R s m args below meth c I A QF ad0 →
  ∀ (ad : Nat → Nat) (H : Heap) (locs : List Loc) (la : Array Slot), xH I A s n0 ad0 ad X H locs → xL la (xml M) ad ls → W p L.1 e R s m args below meth c H locs z.1 z.2 QF (F0 m pc la (st.map (xv ad)))
abbrev xW (M : xM) : List Cond := .code M.1 (xcc M) (xml M) (xret M) :: xtb
def xPc (L : xLn) (I : xI) (ad : Nat → Nat) (X : List xE) (sz : Nat) (av : List Value) : Array Value → State → Prop :=
  va_Pc (av.map (xv ad)) (fun U => U.heap.size = sz ∧ va_P I.1 vwCl (xw I ad X) U.heap ∧ va_K I.1 vwCl (xT I) U ∧ va_D (fun _ => True) (xw I ad X) ∧ xFF L ad (va_A (xw I ad X) sz) U U.heap)
def xQc (I : xI) (ad0 : Nat → Nat) (n0 : Nat) (A : Nat → Prop) (Q : Option Value → List xE → Prop) : Array Value → State → Outcome → State → Prop := fun _ st oc t =>
  (∃ (r : Option Value) (X : List xE) (ad : Nat → Nat), oc = .returned (r.map (xv ad)) ∧ (∀ i, i < n0 ∨ xB ≤ i → ad i = ad0 i) ∧ n0 ≤ X.length ∧ X.length ≤ xB ∧ X.all (xoke X.length) = true ∧ (∀ u, r = some u → xokv 0 u = true) ∧ Q r X ∧ va_P I.1 vwCl (xw I ad X) t.heap ∧ va_K I.1 vwCl (xT I) t ∧ va_D A (xw I ad X)) ∧ va_F A st t
abbrev xRm (d mc ms : Nat) : Room := { frames := d, cells := mc, slots := ms, locals := 40 * d }
/-- THE CONTRACT: called with av in the world X, the method returns, and Q holds of its answer and the world behind it -/
def CT (L : xLn) (M : xM) (d mc ms : Nat) (av : List Value) (X : List xE) (Q : Option Value → List xE → Prop) : Prop :=
  X.length ≤ xB ∧ ∀ (I : xI) (ad : Nat → Nat) (sz : Nat), Met L.1 M.1 (xW M) (xRm d mc ms) (xPc L I ad X sz av) (xQc I ad X.length (va_A (xw I ad X) sz) Q) mc ms (va_A (xw I ad X) sz)
theorem xPc_blind (L : xLn) (I : xI) (ad : Nat → Nat) (X : List xE) (sz : Nat) (av : List Value) : FrameBlind (xPc L I ad X sz av) := fun a U g mk q => by
  obtain ⟨q0, q1, qP, qK, qD, qF⟩ := q
  exact ⟨q0, q1, qP, va_K.moved (u := U) (U := U.calling g mk a) (Vm.Alike.refl U.vm) qK, qD, qF.same (U := U.calling g mk a) rfl⟩
def xfl : List Value → List (Option Value)
  | [] => []
  | v :: t => if v.category = 2 then some v :: none :: xfl t else some v :: xfl t
theorem xfl_args (ad : Nat → Nat) : ∀ (av : List Value) (b : Nat) (r : List (Option Value)), (∀ o ∈ r, o = none) → xls ad b (xfl av ++ r) = lv_args b (av.map (xv ad))
  | [], b, r, hr => by
    simp only [xfl, List.nil_append, List.map_nil, lv_args]
    induction r generalizing b with
    | nil => rfl
    | cons o t ih =>
      cases hr o List.mem_cons_self
      rw [xls]
      exact ih (b + 1) (fun o h => hr o (List.mem_cons_of_mem _ h))
  | v :: t, b, r, hr => by
    rw [List.map_cons, lv_args, xv_cat, xfl]
    by_cases h : v.category = 2
    · rw [if_pos h, if_pos h, List.cons_append, List.cons_append, xls, xls, xfl_args ad t (b + 1 + 1) r hr]
    · rw [if_neg h, if_neg h, List.cons_append, xls, xfl_args ad t (b + 1) r hr]
theorem xfl_len (ad : Nat → Nat) : ∀ av : List Value, (lg_sl (av.map (xv ad))).length = (xfl av).length
  | [] => rfl
  | v :: t => by
    have ih := xfl_len ad t
    simp only [lg_sl, List.map_cons, List.flatMap_cons, List.length_append, xv_cat, xfl] at ih ⊢
    by_cases h : v.category = 2
    · simp [h, ih]; omega
    · simp [h, ih]; omega
def xent (n : Nat) (av : List Value) : List (Option Value) := xfl av ++ List.replicate (n - (xfl av).length) none
theorem xent_L (ad : Nat → Nat) (n : Nat) (av : List Value) (h : (xfl av).length ≤ n) : xL ((lg_sl (av.map (xv ad)) ++ List.replicate (n - (lg_sl (av.map (xv ad))).length) Slot.unset).toArray) n ad (xent n av) := by
  refine ⟨?_, ?_⟩
  · unfold xent
    rw [xfl_args ad av 0 _ (fun o h => (List.mem_replicate.mp h).2)]
    exact lv_entry (av.map (xv ad)) (by rw [xfl_len]; exact h)
  · unfold xent
    rw [List.length_append, List.length_replicate]
    omega
set_option maxHeartbeats 1000000 in
/-- a contract out of the judgement at the method's entry -/
theorem CT.of {L : xLn} {M : xM} {d mc ms : Nat} {av : List Value} {X : List xE} {Q : Option Value → List xE → Prop} (hy : plainName M.1.cls = true) (hB : X.length ≤ xB) (hn : (xfl av).length ≤ xml M)
    (h : AJ L M d mc ms Q X.length (0, 0) 0 (xent (xml M) av) [] X) : CT L M d mc ms av X Q := by
  refine ⟨hB, fun I ad sz => ?_⟩
  refine Met.ofW (cc := xcc M) (maxL := xml M) (ret := xret M) hy rfl ?_
  intro p e s m args below meth c s₁ B hml hv
  obtain ⟨rfl, hsz, hP, hK, hD0, hF⟩ := hv
  subst hsz
  have hD := hD0.self (sz := s.heap.size)
  have hts := atoms_spec (ws := xW M) B.pre
  have hown : s.vm.findClass M.1.cls = some m.cls := findClass_of_methodNamed B.named
  have hA : ∀ q : Nat, s.heap.size ≤ q → va_A (xw I ad X) s.heap.size q := fun q h => Or.inr h
  have hlocks : meth.locks = false := B.notSynchronized
  have hin : M.1.name = "<init>" → meth.name = "<init>" := fun h => ((name_of_methodNamed B.named B.method).1).trans h
  rw [lg_entry_eq]
  refine h p e _ s m _ below meth c I (va_A (xw I ad X) s.heap.size) _ ad ⟨⟨B.exec, B.bytes, B.returns, hml, hown, fun w hw => hts w (List.mem_cons_of_mem _ hw), hK, B.notSynchronized, hin, hA, Nat.le_refl _, Nat.le_refl _⟩, Nat.le_refl _, Nat.le_refl _, hF, ?_⟩ ad s.heap [] _ ⟨fun _ _ => rfl, Nat.le_refl _, hB, hP, hD, va_S.rf⟩ (xent_L ad (xml M) av hn)
  intro r X' ad' H locs pc la hQ hwf hH hrt
  obtain ⟨ha, hn0, hB', hP', hD', hS⟩ := hH
  match r, hrt with
  | none, hrt =>
    exact W.vret B.exec B.bytes (B.returns.trans hrt.1) (fun t ht hW => ⟨⟨none, X', ad', rfl, ha, hn0, hB', hwf, (fun u h => by cases h), hQ, by rw [ht]; exact hP', va_K.moved hW.alike hK, hD'⟩, hS.F ht⟩) hS.2.2 hrt.2
  | some (.int v), hrt =>
    obtain ⟨hd, ty, h1, h2⟩ := hrt
    exact W.zret B.exec B.bytes (B.returns.trans h1) h2 (fun t ht hW => ⟨⟨some (.int v), X', ad', rfl, ha, hn0, hB', hwf, (fun u h => by cases h; rfl), hQ, by rw [ht]; exact hP', va_K.moved hW.alike hK, hD'⟩, hS.F ht⟩) hS.2.2 hd
