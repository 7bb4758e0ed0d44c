/-! THE CLAIM OUT OF ONE WALK OF THE LAW'S BODY. Your part is whole_start (and what it stands on); all else here is the same for every law, but numbers. -/
def R_law : String := "NeededStopLaw"
def lw_P (b : Addr) (xs : List Int32) (args : Array Value) (s : State) : Prop := args = #[.ref b] ∧ s.IntsAt b xs ∧ xs.length ≤ 256 ∧ (Jvm.Cond.and given_1 narrow_1).before args s = true
def lw_Q (_ : Array Value) (s : State) (o : Outcome) (t : State) : Prop := o = .returned (some (.int 1)) ∧ Framed s o t [] 600000 7302250
def lw_Z (below : List Frame) (a : Array Value) (s : State) : State → Prop := fun t => ∃ o, t.status = .running ∧ Ended t below o ∧ lw_Q a s o t
/-- the law's own end, with 1 on the stack, nothing written that was there before, its room as the claim has it -/
theorem lw_ret {p : Program} {l : Launch} {e : Env} {s : State} {m : MethodId} {below : List Frame} {meth : Method} {c : Code} {b : Nat} (hx : p.tables.exec = Jvm.exec) (hb : c.code = code) (hr : meth.sig.returnType = ret) (hlocks : meth.locks = false) {pc : Nat} {H : Heap} {ls : Array Slot} (hdg : decode code pc = .ok (.ireturn, 1)) : W p l e room_1 s m #[Value.ref b] below meth c H [] 600000 7302250 (lw_Z below #[Value.ref b] s) (F0 m pc ls [.int 1]) := by
  intro T hT X
  obtain ⟨fs, hret, hrun, hended, hW, hframe⟩ := X.leave (v := some (.int 1)) (hlocks := hlocks) (fun h => by rw [hr] at h; cases h)
  have hmeth' : T.vm.method? m = some meth := X.method'
  refine ⟨T.setFrames fs, ?_, .returned (some (.int 1)), hrun, hended, rfl, ⟨_, rfl⟩, hW, hframe⟩
  jvm_step X.here [X.here.top, hx, hb, hdg, hmeth', hr, ret, narrow_b1]
  (try refine ⟨rfl, ?_⟩); (try refine ⟨rfl, ?_⟩)
  first | (intro acts; rw [hret _ acts rfl rfl rfl]) | rw [hret _ _ rfl rfl rfl]
  exact Steps.refl _
/-- what holds at the law's entry: the machine, the code, the tables' words (any of lw_tbl by 'hts w (by decide +kernel)'), the script of L ints xs at the cell b, what the Statement gives of the start (any of its parts by flat_of_before) -/
def lw_At (p : Program) (s : State) (m : MethodId) (meth : Method) (c : Code) (b L : Nat) (xs : Nat → Int32) : Prop :=
  p.tables.exec = Jvm.exec ∧ c.code = code ∧ meth.sig.returnType = ret ∧ c.maxLocals = 4 ∧ s.vm.findClass R_law = some m.cls ∧ (∀ w ∈ lw_tbl, w.before #[Value.ref b] s = true) ∧ va_X b L xs s s.heap ∧ b < s.heap.size ∧ meth.locks = false ∧ (Jvm.Cond.and given_1 narrow_1).before #[Value.ref b] s = true
def gvF : List Cond := flatC (Jvm.Cond.and given_1 narrow_1)
def yT (i : Nat) : Term := .string "NeededStop$Reader" (xsk.getD i 0)
abbrev yV (i : Nat) : Term := .field (yT i) "java/lang/String" "value" "[B"
abbrev yN : Term := .static "NeededStop$Reader" "NUMBERS" "[I"
theorem g_ex : ∀ i : Nat, i < 10 → Cond.exactly (yT i) "java/lang/String" ∈ gvF := by decide +kernel
theorem g_co : ∀ i : Nat, i < 10 → Cond.eq (.field (yT i) "java/lang/String" "coder" "B") (.int 0) ∈ gvF := by decide +kernel
theorem g_ar : ∀ i : Nat, i < 10 → Cond.arrayOf (yV i) .byte ∈ gvF := by decide +kernel
theorem g_le : ∀ i : Nat, i < 10 → Cond.eq (.length (yV i)) (.int (Int32.ofNat (xsl.getD i 0))) ∈ gvF := by decide +kernel
theorem g_el : ∀ i : Nat, i < 10 → ∀ j : Nat, j < xsl.getD i 0 → Cond.eq (.elem (yV i) (.int (Int32.ofNat j))) (.int ((xsb.getD i []).getD j 0)) ∈ gvF := by decide +kernel
theorem g_ne : ∀ i : Nat, i < 10 → ∀ j : Nat, j < 10 → i ≠ j → Cond.not (Cond.eq (yT i) (yT j)) ∈ gvF ∨ Cond.not (Cond.eq (yT j) (yT i)) ∈ gvF := by decide +kernel
theorem g_nu : ∀ j : Nat, j < 10 → Cond.eq (.elem yN (.int (Int32.ofNat j))) (.int (xnum.getD j 0)) ∈ gvF := by decide +kernel
theorem g_sr : ∀ i : Nat, i < 10 → Cond.stringRef "NeededStop$Reader" (xsk.getD i 0) (xst.getD i "") ∈ tables_1 := by decide +kernel
theorem g_nl : ∀ q ∈ xnl, Cond.methodLinkNest q.1 q.2.1 q.2.2 "NeededStop" ∈ tables_1 := by decide +kernel
theorem g_in : ∀ r ∈ vwCl, Cond.instantiable r.1 r.2.2 ∈ tables_1 := by decide +kernel
theorem vk_Scg {N : Nat} {len : List Nat} {byt : List (List Int32)} {adK adV adK' adV' : Nat → Nat} {A : Nat → Prop} {U : State} {H : Heap} (h : vk_S N len byt adK adV A U H) (h1 : ∀ i, i < N → adK' i = adK i) (h2 : ∀ i, i < N → adV' i = adV i) : vk_S N len byt adK' adV' A U H :=
  ⟨fun i hi => by rw [h1 i hi, h2 i hi]; exact h.1 i hi, fun i j hi hj e => h.2 i j hi hj (by rw [← h1 i hi, ← h1 j hj]; exact e)⟩
/-- what stands before the start -/
theorem w_FF {p : Program} {s : State} {m : MethodId} {meth : Method} {c : Code} (l : Launch) {b L : Nat} {xs : Nat → Int32} (C0 : lw_At p s m meth c b L xs) : ∃ ad0 : Nat → Nat, xFF (l, L, xs) ad0 (fun q : Nat => s.heap.size ≤ q) s s.heap ∧ ad0 (xB + 40) = b := by
  obtain ⟨hx, hb, hr, hml, hown, hts, hX, hbl, hlocks, hgv⟩ := id C0
  have hs : ∀ w ∈ gvF, w.before #[Value.ref b] s = true := flat_of_before _ hgv
  have ht : ∀ w ∈ tables_1, w.before #[Value.ref b] s = true := fun w hw => hts w (List.mem_append_right _ hw)
  have hA : ∀ a : Nat, a < s.heap.size → ¬ (fun q : Nat => s.heap.size ≤ q) a := fun a h => Nat.not_le.mpr h
  obtain ⟨t, ht1, hT⟩ := va_Tof (tm := yN) (ty := .int) (N := 10) (f := fun j => .int (xnum.getD j 0)) (A := fun q : Nat => s.heap.size ≤ q) (by decide) (hs (.arrayOf yN .int) (by decide +kernel)) (va_eqt (hs (.eq (.length yN) (.int (Int32.ofNat 10))) (by decide +kernel))) (fun j hj => va_eqt (hs _ (g_nu j hj))) hA
  have hZ1 := va_Zof (A := fun q : Nat => s.heap.size ≤ q) (ht (.laysStatic "NeededStop$Reader" "NUMBERS" "[I") (by decide +kernel)) (ht (.initialized "NeededStop$Reader") (by decide +kernel)) ht1 hA
  have hZ2 := va_Zof (A := fun q : Nat => s.heap.size ≤ q) (ht (.laysStatic "java/lang/String" "COMPACT_STRINGS" "Z") (by decide +kernel)) (ht (.initialized "java/lang/String") (by decide +kernel)) (va_eqi (hs (.eq (.static "java/lang/String" "COMPACT_STRINGS" "Z") (.int 1)) (by decide +kernel))) hA
  have hZ3 := va_Zqof (A := fun q : Nat => s.heap.size ≤ q) (ht (.laysStatic "jdk/internal/util/Preconditions" "SIOOBE_FORMATTER" "Ljava/util/function/BiFunction;") (by decide +kernel)) (ht (.initialized "jdk/internal/util/Preconditions") (by decide +kernel)) (hs (.isRef (.static "jdk/internal/util/Preconditions" "SIOOBE_FORMATTER" "Ljava/util/function/BiFunction;")) (by decide +kernel)) hA
  obtain ⟨adK, adV, hS, hev⟩ := vk_Sof (N := 10) (tm := yT) (len := xsl) (byt := xsb) (A := fun q : Nat => s.heap.size ≤ q) (by decide) (fun i hi => hs _ (g_ex i hi)) (fun i hi => hs _ (g_co i hi)) (fun i hi => hs _ (g_ar i hi)) (fun i hi => hs _ (g_le i hi)) (fun i hi j hj => hs _ (g_el i hi j hj)) (fun i j hi hj hne => (g_ne i hi j hj hne).imp (hs _) (hs _)) hA
  obtain ⟨u, hu⟩ : ∃ u : Nat, va_Z "jdk/internal/util/Preconditions" "SIOOBE_FORMATTER" "Ljava/util/function/BiFunction;" .null (fun q : Nat => s.heap.size ≤ q) s s.heap ∨ va_Z "jdk/internal/util/Preconditions" "SIOOBE_FORMATTER" "Ljava/util/function/BiFunction;" (.ref u) (fun q : Nat => s.heap.size ≤ q) s s.heap := by
    rcases hZ3 with h | ⟨u, h⟩
    · exact ⟨0, Or.inl h⟩
    · exact ⟨u, Or.inr h⟩
  obtain ⟨ad0, had⟩ : ∃ ad0 : Nat → Nat, ad0 = fun k => if k = xB then t else if k = xB + 40 then b else if k = xB + 41 then u else if k < xB + 11 then adK (k - (xB + 1)) else adV (k - (xB + 11)) := ⟨_, rfl⟩
  have a0 : ad0 xB = t := by rw [had]; exact if_pos rfl
  have a40 : ad0 (xB + 40) = b := by rw [had]; show (if xB + 40 = xB then t else _) = b; rw [if_neg (by omega), if_pos rfl]
  have a41 : ad0 (xB + 41) = u := by rw [had]; show (if xB + 41 = xB then t else _) = u; rw [if_neg (by omega), if_neg (by omega), if_pos rfl]
  have aK : ∀ i, i < 10 → ad0 (xB + 1 + i) = adK i := by
    intro i hi
    rw [had]
    show (if xB + 1 + i = xB then t else _) = adK i
    rw [if_neg (by omega), if_neg (by omega), if_neg (by omega), if_pos (by omega), Nat.add_sub_cancel_left]
  have aV : ∀ i, i < 10 → ad0 (xB + 11 + i) = adV i := by
    intro i hi
    rw [had]
    show (if xB + 11 + i = xB then t else _) = adV i
    rw [if_neg (by omega), if_neg (by omega), if_neg (by omega), if_neg (by omega), Nat.add_sub_cancel_left]
  clear had
  refine ⟨ad0, ⟨by rw [a0]; exact hZ1, by rw [a0]; exact hT, hZ2, vk_Scg hS aK aV, fun i hi => ?_, ?_, va_AO.of (ht (.arrayOver (.object "NeededStop$Day")) (by decide +kernel)), fun q hq => va_Nw.of rfl (ht _ (g_nl q hq)), by rw [a41]; exact hu⟩, a40⟩
  · rw [aK i hi]
    exact vk_R.of (A := #[Value.ref b]) (ht _ (g_sr i hi)) (hev i hi)
  · rw [a40]
    obtain ⟨scr, h1, h2, h3, h4, h5⟩ := hX
    exact ⟨scr, h1, h2, h3, by rw [h4]; exact Nat.le_refl _, by rw [h4] <;> rfl, h5, hA b hbl⟩
/-- the classes' numbers -/
theorem w_K {p : Program} {s : State} {m : MethodId} {meth : Method} {c : Code} {b L : Nat} {xs : Nat → Int32} (C0 : lw_At p s m meth c b L xs) : ∃ I : xI, va_K I.1 vwCl (xT I) s := by
  obtain ⟨hx, hb, hr, hml, hown, hts, hX, hbl, hlocks, hgv⟩ := id C0
  have ht : ∀ w ∈ tables_1, w.before #[Value.ref b] s = true := fun w hw => hts w (List.mem_append_right _ hw)
  have h0 : ∀ k : Nat, ∃ q : ClassId × (Nat → Nat), ∀ r : vw_C, vwCl[k]? = some r → u_Kn s r.1 r.2.1 r.2.2 q.1 q.2 := by
    intro k
    cases e : vwCl[k]? with
    | none => exact ⟨(0, fun _ => 0), fun r h => by cases h⟩
    | some r =>
      obtain ⟨c1, i1, h1⟩ := u_known (C := r.1) (T := r.2.1) (N := r.2.2) (n := r.2.2) ht (fun w hw => xcls_in r (List.mem_of_getElem? e) w hw) (ht _ (g_in r (List.mem_of_getElem? e)))
      exact ⟨(c1, i1), fun r' h => by cases h; exact h1⟩
  have h1 : ∀ ty : FieldType, Cond.arrayClass ty ∈ tables_1 → ∃ cA : ClassId, ArrOfT s cA ty ∧ s.vm.findClass ("[" ++ ty.toString) = some cA := by
    intro ty hty
    obtain ⟨cA, kA, comp, e1, e2, e3⟩ := Cond.arrayClass_spec (ht _ hty)
    exact ⟨cA, fun n z => ⟨(fun k h => by cases h), kA, e2, comp, e3⟩, e1⟩
  obtain ⟨cI, i1, i2⟩ := h1 .int (by decide +kernel)
  obtain ⟨cZ, z1, z2⟩ := h1 .boolean (by decide +kernel)
  obtain ⟨comp, cD, kD, d1, d2, d3, d4, d5⟩ := Cond.arrayOver_spec (n := "NeededStop$Day") (ht (.arrayOver (.object "NeededStop$Day")) (by decide +kernel))
  refine ⟨((fun k => (h0 k).choose.1, fun k => (h0 k).choose.2), cI, cZ, cD), fun k r hr => (h0 k).choose_spec r hr, fun k q hq => ?_⟩
  match k, hq with
  | 0, hq => cases hq; exact ⟨i1, i2⟩
  | 1, hq => cases hq; exact ⟨z1, z2⟩
  | 2, hq => cases hq; exact ⟨fun n z => ⟨(fun k h => by cases h), kD, d3, comp, d4⟩, kD, comp, d3, d4, d1, d5⟩
  | k + 3, hq => simp at hq
theorem whole_start {p : Program} {e : Env} {s : State} {m : MethodId} {below : List Frame} {meth : Method} {c : Code} (l : Launch) {b L : Nat} {xs : Nat → Int32} (hL : L ≤ 256) (C0 : lw_At p s m meth c b L xs) : W p l e room_1 s m #[Value.ref b] below meth c s.heap [] 0 0 (lw_Z below #[Value.ref b] s) (entryFrame m ([Value.ref b] : List Value).toArray 4) := by
  obtain ⟨hx, hb, hr, hml, hown, hts, hX, hbl, hlocks, hgv⟩ := id C0
  obtain ⟨ad0, hF, hadb⟩ := w_FF l C0
  obtain ⟨I, hK⟩ := w_K C0
  have J := yw_start (l, L, xs) hL p e room_1 s m #[Value.ref b] below meth c I (fun q : Nat => s.heap.size ≤ q) (lw_Z below #[Value.ref b] s) ad0 ⟨⟨hx, hb, hr, hml, hown, fun w hw => hts w (xtb_sub w hw), hK, hlocks, fun h => absurd h (by decide), fun _ h => h, by decide, by decide⟩, by decide, by decide, hF, ?_⟩ ad0 s.heap [] _ ⟨fun _ _ => rfl, Nat.le_refl _, Nat.zero_le _, fun k q h => by simp [xw] at h, ⟨fun i j p q h => by simp [xw] at h, fun k q h => by simp [xw] at h⟩, va_S.rf⟩ (xent_L ad0 4 [.ref (xB + 40)] (Nat.le_of_ble_eq_true rfl))
  · rw [lg_entry_eq]
    have e1 : ([.ref (xB + 40)] : List Value).map (xv ad0) = [.ref b] := by
      show [Value.ref (ad0 (xB + 40))] = _
      rw [hadb]
    rw [e1] at J
    exact J
  · intro r X' ad' H locs pc la hQ hwf hH hrt
    obtain rfl : r = some (.int 1) := hQ
    obtain ⟨hd, -⟩ := hrt
    refine va_forget (fun q hq => hH.2.2.2.2.2.2.2 q hq) ?_
    refine W.widen (k := 600000) (n := 7302250) (by omega) (by omega) ?_
    exact lw_ret hx hb hr hlocks hd
set_option maxHeartbeats 4000000 in
theorem lw_walk (l : Launch) (b : Addr) (xs : List Int32) : MetFree l x (headSpec (Jvm.Cond.code x code maxLocals ret :: tables_1) room_1) (lw_P b xs) (fun _ _ _ _ _ => True) lw_Q := by
  refine MetFree.of_bodyS (code := code) (maxLocals := maxLocals) (ret := ret) (by decide) ?_ ?_
  · intro args s m h hn
    obtain ⟨meth, c, h1, h2, h3, h4, h5, h6, -, -⟩ := Cond.code_spec hn (atoms_spec (ws := Jvm.Cond.code x code maxLocals ret :: tables_1) h _ List.mem_cons_self)
    exact ⟨meth, c, h1, h2, h3, h4, h5, h6⟩
  · intro p e s m args below meth c s₁ B hml0 hP _
    obtain ⟨rfl, hx, hbd, hgv⟩ := hP
    obtain ⟨scr, harrAt, hlist, hof, hsmall⟩ := hx
    obtain ⟨hcb, hkn, -, -⟩ := State.arrayAt?_spec harrAt
    have hown : s.vm.findClass R_law = some m.cls := findClass_of_methodNamed B.named
    have hts0 : ∀ c ∈ (Jvm.Cond.code x code maxLocals ret :: tables_1), c.before #[Value.ref b] s = true := atoms_spec (ws := Jvm.Cond.code x code maxLocals ret :: tables_1) B.pre
    have hts : ∀ w ∈ lw_tbl, w.before #[Value.ref b] s = true := k2_hts_sels lw_privs (fun w hw => hts0 w (List.mem_cons_of_mem _ hw)) lw_privs_ok
    have hml : c.maxLocals = 4 := B.maxLocals_eq (hts0 _ List.mem_cons_self)
    have X₀ : Stand p l e room_1 s m #[Value.ref b] below meth c s₁ [] 0 0 := Stand.of_body B
    have hh0 : s₁.heap = s.heap := by rw [B.state]; rfl
    have hsz : scr.slots.size = xs.length := by rw [← Array.length_toList, hlist, List.length_map]
    have hval : ∀ j : Nat, j < xs.length → scr.slots[j]? = some (.int (xs.getD j 0)) := fun j hj => by
      rw [← Array.getElem?_toList, hlist]
      simp [hj]
    have hbl : b < s.heap.size := (Array.getElem?_eq_some_iff.mp hcb).1
    have hX : va_X b xs.length (fun j => xs.getD j 0) s s.heap := ⟨scr, hcb, hof, hkn, hsz, hval⟩
    have K : W p l e room_1 s m #[Value.ref b] below meth c s₁.heap [] 0 0 (lw_Z below #[Value.ref b] s) (entryFrame m ([Value.ref b] : List Value).toArray 4) := by
      rw [hh0]
      exact whole_start l hbd ⟨B.exec, B.bytes, B.returns, hml, hown, hts, hX, hbl, B.notSynchronized, hgv⟩
    obtain ⟨t, a1, o, b1, b2, b3⟩ := K s₁ rfl X₀
    exact ⟨t, o, a1, b1, b2, b3⟩
theorem lw_pre_spec {args : Array Value} {s : State} (h : (Jvm.Cond.and given_1 narrow_1).before args s = true) (hr : rest_1_c.before args s = true) : ∃ (b : Addr) (xs : List Int32), lw_P b xs args s := by
  have hs := flat_of_before _ h
  have hq := flat_of_before _ hr
  have hc : (Cond.count 1).before args s = true := hs _ (by decide +kernel)
  have harr : (Cond.arrayOf (.arg 0) .int).before args s = true := hs _ (by decide +kernel)
  have hle : (Cond.le (.length (.arg 0)) (.int 256)).before args s = true := hs _ (by decide +kernel)
  have hlen : (Cond.isInt (.length (.arg 0))).before args s = true := hq _ (by decide +kernel)
  have hall : (Cond.all (.arg 0) (.isInt (.elem (.arg 0) (.index 0)))).before args s = true := hq _ (by decide +kernel)
  obtain ⟨b, xs, hb, hx⟩ := State.ints_of_pre rfl harr hlen hall
  have hsm : xs.length < 2 ^ 31 := hx.choose_spec.2.2.2
  have hev : (Term.length (.arg 0)).eval args s none [] s = some (.int xs.length.toInt32) := hx.length_eval hb
  have hv := Cond.le_ints hev (show (Term.int 256).eval args s none [] s = some (.int 256) from rfl)
  have hd : xs.length.toInt32 ≤ 256 := by
    simpa [Cond.before, Cond.holds, hv] using hle
  have hN : xs.length ≤ 256 := (Int32.ofNat_le_ofNat hsm (by decide)).mp (show Int32.ofNat xs.length ≤ Int32.ofNat 256 from hd)
  exact ⟨b, xs, Cond.one_arg hc (show args[0]? = some (.ref b) from hb), hx, hN, h⟩
theorem lw_comes (l : Launch) : Comes l x (Jvm.Cond.code x code maxLocals ret :: tables_1) room_1 (fun tb e args s => Calls_1 tb e args s ∧ rest_1 tb e args s ∧ Pre_1 tb e args s)
    (fun _ _ args s o t => lw_Q args s o t) := by
  intro p e ha hc hk s m args below hf hfit hheap happ hpre
  obtain ⟨b, xs, hP⟩ := lw_pre_spec hpre.2.2 hpre.2.1
  obtain ⟨k, o, h1, h2, h3, hQ⟩ := lw_walk l b xs p e ha hc hk s m args below hf ((Spec.applies_iff_loose hf).mp happ).1 hP trivial
  exact ⟨k, o, h1, h2, h3, hQ⟩
theorem lw_frame {s t : State} {o : Outcome} {args : Array Value} (h : Framed s o t [] 600000 7302250) :
    Framed s o t (fieldLocs frame_1_writes args s ++ arrayLocs frame_1_arrays args s ++ staticLocs frame_1_statics s) 600000 7302250 := h
theorem lw_limb (L : Cond) (hL : ∀ (args : Array Value) (s t : State), L.after args s (.returned (some (.int 1))) t = true) :
    ArmFor flags0 classFile x code maxLocals ret World_1 tables_1 room_1 Calls_1 rest_1 Pre_1
      (fun tb e a s o t => postC L tb e a s o t ∧ Framed s o t (fieldLocs frame_1_writes a s ++ arrayLocs frame_1_arrays a s ++ staticLocs frame_1_statics s) 600000 7302250) := by
  intro l _ _ _ p e ha hc hk s m args below hf hfit hheap happ hpre
  obtain ⟨k, o, h1, h2, h3, rfl, hF⟩ := lw_comes l p e ha hc hk s m args below hf hfit hheap happ hpre
  exact ⟨k, _, h1, h2, h3, hL args s _, lw_frame hF⟩
theorem i_vc : Claimed_1_1 ∧ Claimed_1_2 := ⟨lw_limb limb_1_1 (fun args s t => by simp [limb_1_1, Cond.after, Cond.holds, Cond.value]), lw_limb limb_1_2 (fun args s t => Cond.after_iff.mpr (by
  first | (rw [show limb_1_2 = Cond.eq .result (.int 1) from rfl, Cond.eq_ints (x := 1) (y := 1) rfl rfl]; simp; done) | (simp [limb_1_2, Cond.value, Term.eval]; done)))⟩
