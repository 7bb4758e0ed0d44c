/-! ===== every row is sound ===== -/
theorem xsw_sound {x : Int32} {dn : Nat} {f : Nat → Prop} : ∀ {sw : List (Int32 × Nat)}, xswk x dn f sw → (∃ (j t : Nat), sw[j]? = some (x, t) ∧ f t ∧ ∀ (i : Nat) (q : Int32 × Nat), i < j → sw[i]? = some q → q.1 ≠ x) ∨ ((∀ q ∈ sw, q.1 ≠ x) ∧ f dn)
  | [], h => Or.inr ⟨fun _ hq => (by cases hq), h⟩
  | (v, t) :: r, h => by
    by_cases hv : x = v
    · subst hv
      exact Or.inl ⟨0, t, rfl, h.1 rfl, fun i q hi => absurd hi (Nat.not_lt_zero i)⟩
    · rcases xsw_sound (h.2 hv) with ⟨j, t', h1, h2, h3⟩ | ⟨h1, h2⟩
      · refine Or.inl ⟨j + 1, t', by simpa using h1, h2, fun i q hi hq => ?_⟩
        cases i with
        | zero => simp at hq; subst hq; exact fun z => hv z.symm
        | succ i => exact h3 i q (by omega) (by simpa using hq)
      · refine Or.inr ⟨fun q hq => ?_, h2⟩
        rcases List.mem_cons.mp hq with rfl | hq
        · exact fun z => hv z.symm
        · exact h1 q hq
theorem xswT_at (pc : Nat) : ∀ (os : List Int) (lo : Int) (j : Nat), (xswT pc lo os)[j]? = (os[j]?).map (fun o => (Int32.ofInt (lo + j), (pc : Int) + o))
  | [], lo, j => by simp [xswT]
  | o :: r, lo, 0 => by simp [xswT]
  | o :: r, lo, j + 1 => by
    rw [xswT, List.getElem?_cons_succ, List.getElem?_cons_succ, xswT_at pc r (lo + 1) j]
    congr 1
    funext o'
    congr 2
    push_cast
    omega

theorem xlk {x : Int32} {pc tg : Nat} {df : Int} {f : Nat → Prop} (hdf : (pc : Int) + df = (tg : Int)) : ∀ (ps : List (Int × Int)) (sw : List (Int32 × Nat)), sw.map (fun q => (q.1.toInt, (q.2 : Int))) = ps.map (fun q => (q.1, (pc : Int) + q.2)) → xswk x tg f sw → ∃ (off : Int) (tgt : Nat), Op.lookupswitch.offset ps df x.toInt = off ∧ (pc : Int) + off = (tgt : Int) ∧ f tgt
  | [], [], _, h => ⟨df, tg, rfl, hdf, h⟩
  | [], _ :: _, e, _ => by simp at e
  | _ :: _, [], e, _ => by simp at e
  | (a, o) :: r, (v, t) :: sw, e, h => by
    simp only [List.map_cons, List.cons.injEq, Prod.mk.injEq] at e
    obtain ⟨⟨e1, e2⟩, e3⟩ := e
    by_cases hv : x = v
    · subst hv
      exact ⟨o, t, by rw [Op.lookupswitch.offset_cons, if_pos e1.symm], e2.symm, h.1 rfl⟩
    · obtain ⟨off, tgt, h1, h2, h3⟩ := xlk hdf r sw e3 (h.2 hv)
      exact ⟨off, tgt, by rw [lv_osw hv e1]; exact h1, h2, h3⟩
theorem xofI {j : Nat} (h : j < 100) : (Int32.ofInt (0 + (j : Int))).toInt = (j : Int) := by
  rw [Int.zero_add]
  have : Int32.ofInt (j : Int) = nI j := by unfold nI; rfl
  rw [this, nI_toInt (by omega)]

theorem xdf_nr : ∀ l ∈ xdf, (l.all fun v => match v with | .ref _ => false | _ => true) = true := by decide +kernel
theorem xdf_xv (ad : Nat → Nat) (a : Nat) : (xdf.getD a []).map (xv ad) = xdf.getD a [] := by
  have h : ∀ v ∈ xdf.getD a [], xv ad v = v := by
    rw [List.getD_eq_getElem?_getD]
    cases ha : xdf[a]? with
    | none => intro v hv; cases hv
    | some l =>
      intro v hv
      have := List.all_eq_true.mp (xdf_nr l (List.mem_of_getElem? ha)) v hv
      cases v <;> first | rfl | (simp at this)
  conv => rhs; rw [← List.map_id (xdf.getD a [])]
  exact List.map_congr_left h

set_option maxHeartbeats 4000000 in
set_option maxRecDepth 10000 in
/-- ONE ROW IS SOUND: if what xs1 asks holds, and what it hands on leads to the end, so does this place -/
theorem xs_sound {L : xLn} {M : xM} {d mc ms : Nat} {Q : Option Value → List xE → Prop} {n0 : Nat} {o : xO} {pc : Nat} {z : Nat × Nat} {ls : List (Option Value)} {st : List Value} {X : List xE} {k : xK} {stop : Prop} (hc : xck (xown M) (decide (M.1.name = "<init>")) (xcc M) pc o = true) (h : xs1 L M d mc ms Q o z ls st X k stop)
    (hk : ∀ z' pc' ls' st' X', k z' pc' ls' st' X' → AJ L M d mc ms Q n0 z' pc' ls' st' X') (hs : stop → AJ L M d mc ms Q n0 z pc ls st X) : AJ L M d mc ms Q n0 z pc ls st X := by
  obtain ⟨i, nx, tg, v, w, a, b, t, sw⟩ := o
  intro p e R s m args below meth c I A QF ad0 G ad H locs la HH hl
  have hst := fun (h : stop) => hs h p e R s m args below meth c I A QF ad0 G ad H locs la HH hl
  have go : ∀ {pc' : Nat} {st' : List Value}, k z pc' ls st' X → W p L.1 e R s m args below meth c H locs z.1 z.2 QF (F0 m pc' la (st'.map (xv ad))) := fun h => hk _ _ _ _ _ h p e R s m args below meth c I A QF ad0 G ad H locs la HH hl
  have goL : ∀ {pc' : Nat} {ls' : List (Option Value)} {st' : List Value} {la' : Array Slot}, xL la' (xml M) ad ls' → k z pc' ls' st' X → W p L.1 e R s m args below meth c H locs z.1 z.2 QF (F0 m pc' la' (st'.map (xv ad))) := fun hl h => hk _ _ _ _ _ h p e R s m args below meth c I A QF ad0 G ad H locs _ HH hl
  have goX : ∀ {pc' : Nat} {st' : List Value} {X' : List xE} {H' : Heap} {locs' : List Loc}, xH I A s n0 ad0 ad X' H' locs' → k z pc' ls st' X' → W p L.1 e R s m args below meth c H' locs' z.1 z.2 QF (F0 m pc' la (st'.map (xv ad))) := fun HH h => hk _ _ _ _ _ h p e R s m args below meth c I A QF ad0 G ad _ _ la HH hl
  obtain ⟨⟨hx, hb, hr, hml, hown, hts, hK, hlk, hini, hA, hfr, hlo⟩, hmc, hms, hF, hret⟩ := id G
  obtain ⟨hag, hn0, hB, hP, hD, hS⟩ := id HH
  have hmla : c.maxLocals = la.size := hml.trans hl.1.1.symm
  simp only [xck, Bool.and_eq_true] at hc
  obtain ⟨hd, hc⟩ := hc
  replace hd := of_decide_eq_true hd
  cases i <;> dsimp only [xs1] at h <;> first | exact hst h | skip
  case iconst n =>
    simp only [Bool.and_eq_true] at hc; obtain ⟨hn, hc⟩ := hc; obtain rfl := xnx hn; rw [Nat.add_sub_cancel_left] at hd
    exact lv_iconst hx hb hd (of_decide_eq_true hc) (go h)
  case bipush n =>
    simp only [Bool.and_eq_true] at hc; obtain ⟨hn, hc⟩ := hc; obtain rfl := xnx hn; rw [Nat.add_sub_cancel_left] at hd
    exact lv_bipush hx hb hd (of_decide_eq_true hc) (go h)
  case sipush n =>
    simp only [Bool.and_eq_true] at hc; obtain ⟨hn, hc⟩ := hc; obtain rfl := xnx hn; rw [Nat.add_sub_cancel_left] at hd
    exact lv_sipush hx hb hd (of_decide_eq_true hc) (go h)
  case ldc n =>
    simp only [Bool.and_eq_true] at hc; obtain ⟨hn, hc⟩ := hc; obtain rfl := xnx hn; rw [Nat.add_sub_cancel_left] at hd
    cases a with
    | zero => exact lv_ldc hx hb hown (hts _ (xmt_in hc rfl)) hd (go h)
    | succ a =>
      simp only [Bool.and_eq_true] at hc
      obtain ⟨h1, h2⟩ := h_b_i h
      have h3 : b < 10 := Nat.blt_eq.mp h1
      have h4 := hF.2.2.2.2.1 b h3
      rw [← hag _ (Or.inr (by omega)), Nat.eq_of_beq_eq_true hc.2, ← of_decide_eq_true hc.1] at h4
      exact va_ldcS hx hb hown h4 hd (go h2)
  case ldc_w n =>
    simp only [Bool.and_eq_true] at hc; obtain ⟨hn, hc⟩ := hc; obtain rfl := xnx hn; rw [Nat.add_sub_cancel_left] at hd
    exact lv_ldcw hx hb hown (hts _ (xmt_in hc rfl)) hd (go h)
  case ldc2_w n =>
    simp only [Bool.and_eq_true] at hc; obtain ⟨hn, hc⟩ := hc; obtain rfl := xnx hn; rw [Nat.add_sub_cancel_left] at hd
    exact lv_ldc2 hx hb hown (hts _ (xmt_in hc rfl)) hd (go h)
  case lconst n =>
    simp only [Bool.and_eq_true] at hc; obtain ⟨hn, hc⟩ := hc; obtain rfl := xnx hn; rw [Nat.add_sub_cancel_left] at hd
    exact lv_lconst hx hb hd (of_decide_eq_true hc) (go h)
  case iload_n n =>
    obtain rfl := xnx hc; rw [Nat.add_sub_cancel_left] at hd
    obtain ⟨u, h1, h2⟩ := h_l_i h
    obtain ⟨x, rfl, h3⟩ := h_vi_i h2
    exact lv_iload_n hx hb hd rfl (xL_at hl h1) (go h3)
  case lload_n n =>
    obtain rfl := xnx hc; rw [Nat.add_sub_cancel_left] at hd
    obtain ⟨u, h1, h2⟩ := h_l_i h
    obtain ⟨x, rfl, h3⟩ := h_vj_i h2
    exact lv_lload_n hx hb hd rfl (xL_at hl h1) (go h3)
  case aload_n n =>
    obtain rfl := xnx hc; rw [Nat.add_sub_cancel_left] at hd
    obtain ⟨u, h1, h2⟩ := h_l_i h
    obtain ⟨x, rfl, h3⟩ := h_vr_i h2
    exact lv_aload_n hx hb hd rfl (xL_at hl h1) (go h3)
  case iload n =>
    obtain rfl := xnx hc; rw [Nat.add_sub_cancel_left] at hd
    obtain ⟨u, h1, h2⟩ := h_l_i h
    obtain ⟨x, rfl, h3⟩ := h_vi_i h2
    exact lv_iload hx hb hd (xL_at hl h1) (go h3)
  case aload n =>
    obtain rfl := xnx hc; rw [Nat.add_sub_cancel_left] at hd
    obtain ⟨u, h1, h2⟩ := h_l_i h
    obtain ⟨x, rfl, h3⟩ := h_vr_i h2
    exact lv_aload hx hb hd (xL_at hl h1) (go h3)
  case istore_n n =>
    obtain rfl := xnx hc; rw [Nat.add_sub_cancel_left] at hd
    obtain ⟨x, r, rfl, h1⟩ := h_i_i h
    obtain ⟨h2, h3⟩ := h_b_i h1
    obtain ⟨la2, e2, hl2⟩ := xL_store hl (v := .int x) h2 rfl
    exact x_istore_n hx hb hd e2 (goL hl2 h3)
  case istore n =>
    obtain rfl := xnx hc; rw [Nat.add_sub_cancel_left] at hd
    obtain ⟨x, r, rfl, h1⟩ := h_i_i h
    obtain ⟨h2, h3⟩ := h_b_i h1
    obtain ⟨la2, e2, hl2⟩ := xL_store hl (v := .int x) h2 rfl
    exact x_istore hx hb hd e2 (goL hl2 h3)
  case astore_n n =>
    obtain rfl := xnx hc; rw [Nat.add_sub_cancel_left] at hd
    obtain ⟨x, r, rfl, h1⟩ := h_r_i h
    obtain ⟨h2, h3⟩ := h_b_i h1
    obtain ⟨la2, e2, hl2⟩ := xL_store hl (v := .ref x) h2 rfl
    exact x_astore_n hx hb hd e2 (goL hl2 h3)
  case iinc n y =>
    simp only [Bool.and_eq_true] at hc; obtain ⟨hn, hc⟩ := hc; obtain rfl := xnx hn; rw [Nat.add_sub_cancel_left] at hd
    obtain ⟨u, h1, h2⟩ := h_l_i h
    obtain ⟨x, rfl, h3⟩ := h_vi_i h2
    obtain ⟨h4, h5⟩ := h_b_i h3
    obtain ⟨la2, e2, hl2⟩ := xL_store hl (v := .int (x + v)) h4 rfl
    exact x_iinc hx hb hd (xL_at hl h1) (of_decide_eq_true hc) e2 (goL hl2 h5)
  case iadd =>
    obtain rfl := xnx hc; rw [Nat.add_sub_cancel_left] at hd
    obtain ⟨x, y, r, rfl, h1⟩ := h_ii_i h
    exact lv_iadd hx hb hd (go h1)
  case isub =>
    obtain rfl := xnx hc; rw [Nat.add_sub_cancel_left] at hd
    obtain ⟨x, y, r, rfl, h1⟩ := h_ii_i h
    exact lv_isub hx hb hd (go h1)
  case imul =>
    obtain rfl := xnx hc; rw [Nat.add_sub_cancel_left] at hd
    obtain ⟨x, y, r, rfl, h1⟩ := h_ii_i h
    exact lv_imul hx hb hd (go h1)
  case iand =>
    obtain rfl := xnx hc; rw [Nat.add_sub_cancel_left] at hd
    obtain ⟨x, y, r, rfl, h1⟩ := h_ii_i h
    exact lv_iand hx hb hd (go h1)
  case ior =>
    obtain rfl := xnx hc; rw [Nat.add_sub_cancel_left] at hd
    obtain ⟨x, y, r, rfl, h1⟩ := h_ii_i h
    exact lv_ior hx hb hd (go h1)
  case ixor =>
    obtain rfl := xnx hc; rw [Nat.add_sub_cancel_left] at hd
    obtain ⟨x, y, r, rfl, h1⟩ := h_ii_i h
    exact lv_ixor hx hb hd (go h1)
  case ishl =>
    obtain rfl := xnx hc; rw [Nat.add_sub_cancel_left] at hd
    obtain ⟨x, y, r, rfl, h1⟩ := h_ii_i h
    exact lv_ishl hx hb hd (go h1)
  case ishr =>
    obtain rfl := xnx hc; rw [Nat.add_sub_cancel_left] at hd
    obtain ⟨x, y, r, rfl, h1⟩ := h_ii_i h
    exact lv_ishr hx hb hd (go h1)
  case iushr =>
    obtain rfl := xnx hc; rw [Nat.add_sub_cancel_left] at hd
    obtain ⟨x, y, r, rfl, h1⟩ := h_ii_i h
    exact lv_iushr hx hb hd rfl (go h1)
  case idiv =>
    obtain rfl := xnx hc; rw [Nat.add_sub_cancel_left] at hd
    obtain ⟨x, y, r, rfl, h1, h2⟩ := h_ii_i h
    exact lv_idiv hx hb hd h1 (go h2)
  case irem =>
    obtain rfl := xnx hc; rw [Nat.add_sub_cancel_left] at hd
    obtain ⟨x, y, r, rfl, h1, h2⟩ := h_ii_i h
    exact lv_irem hx hb hd h1 (go h2)
  case ladd =>
    obtain rfl := xnx hc; rw [Nat.add_sub_cancel_left] at hd
    obtain ⟨x, y, r, rfl, h1⟩ := h_jj_i h
    exact lv_ladd hx hb hd (go h1)
  case lsub =>
    obtain rfl := xnx hc; rw [Nat.add_sub_cancel_left] at hd
    obtain ⟨x, y, r, rfl, h1⟩ := h_jj_i h
    exact lv_lsub hx hb hd (go h1)
  case lmul =>
    obtain rfl := xnx hc; rw [Nat.add_sub_cancel_left] at hd
    obtain ⟨x, y, r, rfl, h1⟩ := h_jj_i h
    exact lv_lmul hx hb hd (go h1)
  case land =>
    obtain rfl := xnx hc; rw [Nat.add_sub_cancel_left] at hd
    obtain ⟨x, y, r, rfl, h1⟩ := h_jj_i h
    exact lv_land hx hb hd (go h1)
  case lor =>
    obtain rfl := xnx hc; rw [Nat.add_sub_cancel_left] at hd
    obtain ⟨x, y, r, rfl, h1⟩ := h_jj_i h
    exact lv_lor hx hb hd (go h1)
  case lshl =>
    obtain rfl := xnx hc; rw [Nat.add_sub_cancel_left] at hd
    obtain ⟨x, y, r, rfl, h1⟩ := h_ji_i h
    exact lv_lshl hx hb hd rfl (go h1)
  case lshr =>
    obtain rfl := xnx hc; rw [Nat.add_sub_cancel_left] at hd
    obtain ⟨x, y, r, rfl, h1⟩ := h_ji_i h
    exact lv_lshr hx hb hd rfl (go h1)
  case lcmp =>
    obtain rfl := xnx hc; rw [Nat.add_sub_cancel_left] at hd
    obtain ⟨x, y, r, rfl, h1⟩ := h_jj_i h
    exact W.lcmp hx hb hd (go h1)
  case i2l =>
    obtain rfl := xnx hc; rw [Nat.add_sub_cancel_left] at hd
    obtain ⟨x, r, rfl, h1⟩ := h_i_i h
    exact lv_i2l hx hb hd rfl (go h1)
  case l2i =>
    obtain rfl := xnx hc; rw [Nat.add_sub_cancel_left] at hd
    obtain ⟨x, r, rfl, h1⟩ := h_j_i h
    exact lv_l2i hx hb hd rfl (go h1)
  case i2c =>
    obtain rfl := xnx hc; rw [Nat.add_sub_cancel_left] at hd
    obtain ⟨x, r, rfl, h1⟩ := h_i_i h
    exact lv_i2c hx hb hd rfl (go h1)
  case dup =>
    obtain rfl := xnx hc; rw [Nat.add_sub_cancel_left] at hd
    obtain ⟨u, r, rfl, hu, h1⟩ := h_1_i h
    exact lv_dup hx hb hd (by rw [xv_cat]; exact hu) (go h1)
  case dup2 =>
    obtain rfl := xnx hc; rw [Nat.add_sub_cancel_left] at hd
    obtain ⟨u, r, rfl, hu, h1⟩ := h_1_i h
    obtain ⟨u2, r2, rfl, hu2, h2⟩ := h_1_i h1
    exact lv_dup2_11 hx hb hd (by rw [xv_cat]; exact hu) (by rw [xv_cat]; exact hu2) (go h2)
  case pop =>
    obtain rfl := xnx hc; rw [Nat.add_sub_cancel_left] at hd
    obtain ⟨u, r, rfl, hu, h1⟩ := h_1_i h
    exact lv_pop hx hb hd (by rw [xv_cat]; exact hu) (go h1)
  case goto off =>
    simp only [Bool.and_eq_true] at hc; obtain ⟨hn, hc⟩ := hc; obtain rfl := xnx hn; rw [Nat.add_sub_cancel_left] at hd
    exact lv_goto hx hb hd (of_decide_eq_true hc) (go h)
  case ifCond cd off =>
    simp only [Bool.and_eq_true] at hc; obtain ⟨hn, hc⟩ := hc; obtain rfl := xnx hn; rw [Nat.add_sub_cancel_left] at hd
    have ht := of_decide_eq_true hc
    cases cd with
    | eq => obtain ⟨x, r, rfl, h1, h2⟩ := h_i_i h; exact lv_if_eq hx hb hd ht (fun q => go (h1 q)) (fun q => go (h2 q))
    | ne => obtain ⟨x, r, rfl, h1, h2⟩ := h_i_i h; exact lv_if_ne hx hb hd ht (fun q => go (h1 q)) (fun q => go (h2 q))
    | lt => obtain ⟨x, r, rfl, h1, h2⟩ := h_i_i h; exact lv_if_lt hx hb hd ht (fun q => go (h1 q)) (fun q => go (h2 q))
    | ge => obtain ⟨x, r, rfl, h1, h2⟩ := h_i_i h; exact lv_if_ge hx hb hd ht (fun q => go (h1 q)) (fun q => go (h2 q))
    | gt => obtain ⟨x, r, rfl, h1, h2⟩ := h_i_i h; exact lv_if_gt hx hb hd ht (fun q => go (h1 q)) (fun q => go (h2 q))
    | le => obtain ⟨x, r, rfl, h1, h2⟩ := h_i_i h; exact lv_if_le hx hb hd ht (fun q => go (h1 q)) (fun q => go (h2 q))
  case if_icmp cd off =>
    simp only [Bool.and_eq_true] at hc; obtain ⟨hn, hc⟩ := hc; obtain rfl := xnx hn; rw [Nat.add_sub_cancel_left] at hd
    have ht := of_decide_eq_true hc
    cases cd with
    | eq => obtain ⟨x, y, r, rfl, h1, h2⟩ := h_ii_i h; exact lv_icmp_eq hx hb hd ht (fun q => go (h1 q)) (fun q => go (h2 q))
    | ne => obtain ⟨x, y, r, rfl, h1, h2⟩ := h_ii_i h; exact lv_icmp_ne hx hb hd ht (fun q => go (h1 q)) (fun q => go (h2 q))
    | lt => obtain ⟨x, y, r, rfl, h1, h2⟩ := h_ii_i h; exact lv_icmp_lt hx hb hd ht (fun q => go (h1 q)) (fun q => go (h2 q))
    | ge => obtain ⟨x, y, r, rfl, h1, h2⟩ := h_ii_i h; exact lv_icmp_ge hx hb hd ht (fun q => go (h1 q)) (fun q => go (h2 q))
    | gt => obtain ⟨x, y, r, rfl, h1, h2⟩ := h_ii_i h; exact lv_icmp_gt hx hb hd ht (fun q => go (h1 q)) (fun q => go (h2 q))
    | le => obtain ⟨x, y, r, rfl, h1, h2⟩ := h_ii_i h; exact lv_icmp_le hx hb hd ht (fun q => go (h1 q)) (fun q => go (h2 q))
  case tableswitch df lo hi offs =>
    simp only [Bool.and_eq_true] at hc
    obtain ⟨⟨⟨⟨c1, c2⟩, c3⟩, c4⟩, c5⟩ := hc
    have c1 := of_decide_eq_true c1
    have c2 := of_decide_eq_true c2
    have c3 := of_decide_eq_true c3
    have c4 : offs.size < 100 := Nat.blt_eq.mp c4
    have c5 := of_decide_eq_true c5
    subst c2
    obtain ⟨x, r, rfl, h1⟩ := h_i_i h
    rcases xsw_sound h1 with ⟨j, t2, hj, ht, -⟩ | ⟨hall, hdn⟩
    · have e1 := congrArg (fun l => l[j]?) c5
      rw [List.getElem?_map, hj, xswT_at] at e1
      cases ho : offs.toList[j]? with
      | none => rw [ho] at e1; simp at e1
      | some off =>
        rw [ho] at e1
        simp only [Option.map_some, Option.some.injEq, Prod.mk.injEq] at e1
        have hjl : j < offs.size := by
          have := (List.getElem?_eq_some_iff.mp ho).1
          simpa using this
        have ex : x.toInt = (j : Int) := by rw [e1.1]; exact xofI (by omega)
        exact lv_tableIn hx hb hd (by omega) (by omega) (off := off) (by rw [ex, show ((j : Int) - 0).toNat = j by omega, ← Array.getElem?_toList]; exact ho) e1.2.symm (go ht)
    · have hout : x.toInt < 0 ∨ hi < x.toInt := by
        by_cases hq : x.toInt < 0 ∨ hi < x.toInt
        · exact hq
        · exfalso
          have hj : x.toInt.toNat < offs.toList.length := by rw [Array.length_toList]; omega
          have e1 := congrArg (fun l => l[x.toInt.toNat]?) c5
          rw [List.getElem?_map, xswT_at, List.getElem?_eq_getElem hj] at e1
          cases hs : sw[x.toInt.toNat]? with
          | none => rw [hs] at e1; simp at e1
          | some q =>
            rw [hs] at e1
            simp only [Option.map_some, Option.some.injEq, Prod.mk.injEq] at e1
            refine hall q (List.mem_of_getElem? hs) ?_
            rw [e1.1]
            apply Int32.toInt_inj.mp
            rw [Array.length_toList] at hj
            rw [xofI (by omega)]
            omega
      exact lv_tableOut hx hb hd hout c1 (go hdn)
  case lookupswitch df ps =>
    simp only [Bool.and_eq_true] at hc
    obtain ⟨⟨c1, c2⟩, c3⟩ := hc
    obtain ⟨x, r, rfl, h1⟩ := h_i_i h
    obtain ⟨off, tgt, q1, q2, q3⟩ := xlk (of_decide_eq_true c1) _ _ (of_decide_eq_true c3) h1
    exact lv_lookup hx hb hd (of_decide_eq_true c2) q1 q2 (go q3)
  case getfield n =>
    simp only [Bool.and_eq_true] at hc; obtain ⟨hn, hc⟩ := hc; obtain rfl := xnx hn; rw [Nat.add_sub_cancel_left] at hd
    obtain ⟨q, r, rfl, h1⟩ := h_r_i h
    split at h1
    · obtain ⟨h2, h3⟩ := h_b_i h1
      simp only [Bool.and_eq_true, Nat.ble_eq, Nat.blt_eq] at h2
      obtain ⟨j, rfl⟩ := Nat.exists_eq_add_of_le h2.1
      have hj : j < 10 := by omega
      have hv := hF.2.2.2.1.1 j hj
      cases b with
      | zero =>
        have h4 := hv.2.2.1
        dsimp only at h4
        rw [← hag _ (Or.inr (by omega : xB ≤ xB + 11 + j)), ← hag _ (Or.inr (by omega : xB ≤ xB + 1 + j))] at h4
        rw [show xB + 1 + j + 10 = xB + 11 + j by omega] at h3
        exact vk_getf hx hb h4 hS hown (hts _ (xmt_in hc rfl)) (fun _ h => h) hd (go h3)
      | succ b =>
        have h4 := hv.2.1
        dsimp only at h4
        rw [← hag _ (Or.inr (by omega : xB ≤ xB + 1 + j))] at h4
        exact vk_getf hx hb h4 hS hown (hts _ (xmt_in hc rfl)) (fun _ h => h) hd (go h3)
    · obtain ⟨fs, h2, h3⟩ := h_o_i h1
      obtain ⟨u, h4, h5⟩ := h_s_i h3
      have hc : xfk (xown M) n a b t = true := by
        revert hc
        split
        · contradiction
        · exact id
      unfold xfk at hc
      split at hc
      · next rr hrr =>
        simp only [Bool.and_eq_true] at hc
        exact va_get hx hb hts (xcls hrr) hown hK hP q (xw_get h2) hrr b (Nat.blt_eq.mp hc.1) (hts _ (xmt_in hc.2 rfl)) (fun _ h => h) (by rw [List.getElem?_map, h4]; rfl) hd (go h5)
      · cases hc
  case putfield n =>
    simp only [Bool.and_eq_true] at hc
    obtain ⟨⟨⟨hn, hc⟩, hw⟩, hi⟩ := hc
    obtain rfl := xnx hn
    rw [Nat.add_sub_cancel_left] at hd
    obtain ⟨q, u, r, rfl, h1⟩ := h_rv_i h
    obtain ⟨fs, h2, h3⟩ := h_o_i h1
    obtain ⟨h4, h5⟩ := h_b_i h3
    have hbl : b < fs.length := Nat.blt_eq.mp h4
    unfold xfk at hc
    unfold xfw at hw
    cases hrr : vwCl[a]? with
    | none => rw [hrr] at hc; cases hc
    | some rr =>
      rw [hrr] at hc hw
      simp only [Bool.and_eq_true] at hc hw
      obtain ⟨⟨w1, w2⟩, w3⟩ := hw
      have w1 := of_decide_eq_true w1
      have hu : ∃ ty, parseFieldDescriptor (rr.2.1 b).2.2.1 = some ty ∧ narrow ty (xv ad u) = xv ad u ∧ fits ty (xv ad u) = true ∧ k z (pc + 3) ls r (X.set q (.inr (.inr (a, fs.set b u)))) := by
        match tg, w3, h5 with
        | 0, w3, h5 =>
          cases u <;> first | exact h5.elim | exact ⟨.int, of_decide_eq_true w3, rfl, rfl, h5⟩
        | 1, w3, h5 =>
          cases u <;> first | exact h5.elim | skip
          rcases h5 with ⟨rfl | rfl, h5⟩ <;> exact ⟨.boolean, of_decide_eq_true w3, rfl, rfl, h5⟩
        | 2, w3, h5 =>
          cases u <;> first | exact h5.elim | skip
          obtain ⟨ty, t1, t2⟩ := xisr_i w3
          exact ⟨ty, t1, (xfits_ref t2 _).1, (xfits_ref t2 _).2, h5⟩
        | tg + 3, w3, h5 =>
          cases u <;> first | exact h5.elim | exact ⟨.long, of_decide_eq_true w3, rfl, rfl, h5⟩
      obtain ⟨ty, u1, u2, u3, u4⟩ := hu
      have hlk : (Cond.fieldLink M.1.cls n (rr.2.1 b).1 (rr.2.1 b).2.1 (rr.2.1 b).2.2.1).before args s = true := hts _ (xmt_in hc.2 rfl)
      have fin : ∀ (H1 : Heap) (locs1 : List Loc), va_P I.1 vwCl ((xw I ad X).set q (ad q, .inr (a, (fs.map (xv ad)).set b (xv ad u)))) H1 → va_D A ((xw I ad X).set q (ad q, .inr (a, (fs.map (xv ad)).set b (xv ad u)))) → va_S A s.heap H1 locs1 → W p L.1 e R s m args below meth c H1 locs1 z.1 z.2 QF (F0 m (pc + 3) la (r.map (xv ad))) := by
        intro H1 locs1 q1 q2 q3
        refine goX (X' := X.set q (.inr (.inr (a, fs.set b u)))) (xH.put HH ?_ ?_ q3) u4
        · show va_P I.1 vwCl ((xw I ad X).set q (ad q, .inr (a, (fs.set b u).map (xv ad)))) H1
          rw [List.map_set]; exact q1
        · show va_D A ((xw I ad X).set q (ad q, .inr (a, (fs.set b u).map (xv ad))))
          rw [List.map_set]; exact q2
      cases hf : (rr.2.1 b).2.2.2 with
      | false => exact va_put hx hb hts (xcls hrr) (xtyF rr) (xty_ok rr (List.mem_of_getElem? hrr)) (xnm_ok rr (List.mem_of_getElem? hrr)) hown hK hP hD hS q (xw_get h2) hrr b (Nat.blt_eq.mp hc.1) hlk (fun _ h => h) hf u1 u2 u3 (by rw [List.length_map]; exact hbl) hd fin
      | true =>
        have hv1 : v = 1 := by rw [hf] at w1; exact of_decide_eq_true w1.symm
        have ho : (rr.2.1 b).1 = M.1.cls := by
          rw [hv1] at w2
          simp at w2
          exact w2
        have hnm : M.1.name = "<init>" := by
          rw [hv1] at hi
          simpa using hi
        exact va_putF hx hb hts (xcls hrr) (xtyF rr) (xty_ok rr (List.mem_of_getElem? hrr)) (xnm_ok rr (List.mem_of_getElem? hrr)) hown hK hP hD hS q (xw_get h2) hrr b (Nat.blt_eq.mp hc.1) hlk (fun _ h => h) hf (hini hnm) ho u1 u2 u3 (by rw [List.length_map]; exact hbl) hd fin
  case getstatic n =>
    simp only [Bool.and_eq_true] at hc; obtain ⟨hn, hc⟩ := hc; obtain rfl := xnx hn; rw [Nat.add_sub_cancel_left] at hd
    split at h
    · have h4 := hF.1
      rw [← hag _ (Or.inr (Nat.le_refl xB))] at h4
      exact va_gets hx hb h4 hS hown (hts _ (xmt_in hc rfl)) (fun _ h => h) hd (go h)
    · exact va_gets hx hb hF.2.2.1 hS hown (hts _ (xmt_in hc rfl)) (fun _ h => h) hd (go h)
    · rcases hF.2.2.2.2.2.2.2.2 with h4 | h4
      · exact va_gets hx hb h4 hS hown (hts _ (xmt_in hc rfl)) (fun _ h => h) hd (go h.2)
      · rw [← hag _ (Or.inr (show xB ≤ xB + 41 by omega))] at h4
        exact va_gets hx hb h4 hS hown (hts _ (xmt_in hc rfl)) (fun _ h => h) hd (go h.1)
    · exact hst h
  case iaload =>
    obtain rfl := xnx hc; rw [Nat.add_sub_cancel_left] at hd
    obtain ⟨q, i, r, rfl, h1⟩ := h_ri_i h
    cases e1 : Nat.beq q xB with
    | true =>
      rw [e1] at h1
      obtain ⟨y, rfl, hy, h1⟩ := h1
      obtain rfl := Nat.eq_of_beq_eq_true e1
      have h4 := hF.2.1
      rw [← hag _ (Or.inr (Nat.le_refl xB))] at h4
      exact va_ti hx hb h4 hS (vp_in_nI hy (by omega)) (by rw [nI_clamp (by omega)]; rfl) hd (go h1)
    | false =>
      rw [e1] at h1
      cases e2 : Nat.beq q (xB + 40) with
      | true =>
        rw [e2] at h1
        obtain ⟨y, rfl, hy, hL, h1⟩ := h1
        obtain rfl := Nat.eq_of_beq_eq_true e2
        have h4 := hF.2.2.2.2.2.1
        rw [← hag _ (Or.inr (by omega))] at h4
        exact va_ti hx hb h4 hS (vp_in_nI hy (by omega)) (by rw [nI_clamp (by omega)]; rfl) hd (go h1)
      | false =>
        rw [e2] at h1
        obtain ⟨n, f, h2, h3⟩ := h_a_i h1
        obtain ⟨hn, y, rfl, hy, h4⟩ := h_b_i h3
        have hn := Nat.le_of_ble_eq_true hn
        refine va_iald hx hb hK hP q 0 (xw_get h2) rfl (vp_in_nI hy (by omega)) hd ?_
        rw [nI_clamp (by omega)]
        exact go h4
  case baload =>
    obtain rfl := xnx hc; rw [Nat.add_sub_cancel_left] at hd
    obtain ⟨q, i, r, rfl, h1⟩ := h_ri_i h
    cases e1 : Nat.ble (xB + 11) q && Nat.blt q (xB + 21) with
    | true =>
      rw [e1] at h1
      simp only [Bool.and_eq_true, Nat.ble_eq, Nat.blt_eq] at e1
      obtain ⟨j, rfl⟩ := Nat.exists_eq_add_of_le e1.1
      rw [Nat.add_sub_cancel_left] at h1
      obtain ⟨y, rfl, hy, hy2, hy3, h1⟩ := h1
      have h4 := (hF.2.2.2.1.1 j (by omega)).2.2.2
      dsimp only at h4
      rw [← hag _ (Or.inr (by omega : xB ≤ xB + 11 + j))] at h4
      exact va_tb hx hb h4 hS (vp_in_nI hy (by omega)) (by rw [nI_clamp (by omega)]; rfl) hd (go h1)
    | false =>
      rw [e1] at h1
      obtain ⟨n, f, h2, h3⟩ := h_a_i h1
      obtain ⟨hn, y, rfl, hy, h4⟩ := h_b_i h3
      have hn := Nat.le_of_ble_eq_true hn
      refine va_zald hx hb hK hP q 1 (xw_get h2) rfl (vp_in_nI hy (by omega)) hd ?_
      rw [nI_clamp (by omega)]
      exact go h4
  case iastore =>
    obtain rfl := xnx hc; rw [Nat.add_sub_cancel_left] at hd
    obtain ⟨q, i, x, r, rfl, h1⟩ := h_rii_i h
    obtain ⟨n, f, h2, h3⟩ := h_a_i h1
    obtain ⟨hn, y, rfl, hy, h4⟩ := h_b_i h3
    have hn := Nat.le_of_ble_eq_true hn
    exact va_iast hx hb hK hP hD hS q 0 (xw_get h2) rfl (vp_in_nI hy (by omega)) hd (fun H1 locs1 q1 q2 q3 => by rw [nI_clamp (by omega)] at q1 q2; exact goX (HH.put (c := .inl (0, n, upd f y x)) q1 q2 q3) h4)
  case bastore =>
    obtain rfl := xnx hc; rw [Nat.add_sub_cancel_left] at hd
    obtain ⟨q, i, x, r, rfl, h1⟩ := h_rii_i h
    obtain ⟨n, f, h2, h3⟩ := h_a_i h1
    obtain ⟨hn, y, rfl, hy, h5, h4⟩ := h_b_i h3
    have hn := Nat.le_of_ble_eq_true hn
    have hv : vp_nar .boolean x = x := by rcases h5 with rfl | rfl <;> rfl
    exact va_zast hx hb hK hP hD hS q 1 (xw_get h2) rfl (vp_in_nI hy (by omega)) hd (fun H1 locs1 q1 q2 q3 => by rw [hv, nI_clamp (by omega)] at q1 q2; exact goX (HH.put (c := .inl (1, n, upd f y x)) q1 q2 q3) h4)
  case aaload =>
    obtain rfl := xnx hc; rw [Nat.add_sub_cancel_left] at hd
    obtain ⟨q, i, r, rfl, h1⟩ := h_ri_i h
    obtain ⟨l, h2, h3⟩ := h_q_i h1
    obtain ⟨hn, y, rfl, hy, h4⟩ := h_b_i h3
    have hn := Nat.le_of_ble_eq_true hn
    obtain ⟨u, h5, h6⟩ := h_s_i h4
    refine va_aldq hx hb hK hP q 2 (xw_get h2) rfl (vp_in_nI hy (by omega)) hd ?_
    show W p L.1 e R s m args below meth c H locs z.1 z.2 QF (F0 m (pc + 1) la (va_rf ((l[(nI y).toNatClampNeg]?.join).map ad) :: r.map (xv ad)))
    rw [nI_clamp (by omega), h5]
    exact go h6
  case aastore =>
    obtain rfl := xnx hc; rw [Nat.add_sub_cancel_left] at hd
    obtain ⟨q, i, u, r, rfl, h1⟩ := h_rir_i h
    obtain ⟨l, h2, h1⟩ := h_q_i h1
    obtain ⟨fs, h3, h1⟩ := h_o_i h1
    obtain ⟨hn, y, rfl, hy, h5⟩ := h_b_i h1
    have hn := Nat.le_of_ble_eq_true hn
    refine va_astq hx hb hK hP hD hS q 2 u 0 (xw_get h2) (r := (RX0, TX0, 15)) rfl (xw_get h3) rfl (vp_in_nI hy (by omega)) hd (fun H1 locs1 q1 q2 q3 => ?_)
    rw [nI_clamp (by omega)] at q1 q2
    refine goX (HH.put (c := .inr (.inl (l.set y (some u)))) ?_ ?_ q3) h5
    · show va_P I.1 vwCl ((xw I ad X).set q (ad q, .inl (I.2.2.2, (l.set y (some u)).length, .inr (.inr (.inr (.inr (fun j => ((l.set y (some u))[j]?.join).map ad))))))) H1
      rw [xup_list ad hy, List.length_set]; exact q1
    · show va_D A ((xw I ad X).set q (ad q, .inl (I.2.2.2, (l.set y (some u)).length, .inr (.inr (.inr (.inr (fun j => ((l.set y (some u))[j]?.join).map ad)))))))
      rw [xup_list ad hy, List.length_set]; exact q2
  case arraylength =>
    obtain rfl := xnx hc; rw [Nat.add_sub_cancel_left] at hd
    obtain ⟨q, r, rfl, h1⟩ := h_r_i h
    cases e0 : Nat.beq q xB with
    | true =>
      rw [e0] at h1
      obtain rfl := Nat.eq_of_beq_eq_true e0
      have h4 := hF.2.1
      rw [← hag _ (Or.inr (Nat.le_refl xB))] at h4
      exact va_tlen hx hb h4 hS rfl hd (go h1)
    | false =>
    rw [e0] at h1
    cases e1 : Nat.beq q (xB + 40) with
    | true =>
      rw [e1] at h1
      obtain rfl := Nat.eq_of_beq_eq_true e1
      have h4 := hF.2.2.2.2.2.1
      rw [← hag _ (Or.inr (by omega))] at h4
      exact va_tlen hx hb h4 hS rfl hd (go h1)
    | false =>
      rw [e1] at h1
      cases e2 : Nat.ble (xB + 11) q && Nat.blt q (xB + 21) with
      | true =>
        rw [e2] at h1
        simp only [Bool.and_eq_true, Nat.ble_eq, Nat.blt_eq] at e2
        obtain ⟨j, rfl⟩ := Nat.exists_eq_add_of_le e2.1
        rw [Nat.add_sub_cancel_left] at h1
        have h4 := (hF.2.2.2.1.1 j (by omega)).2.2.2
        dsimp only at h4
        rw [← hag _ (Or.inr (by omega : xB ≤ xB + 11 + j))] at h4
        exact va_tlen hx hb h4 hS rfl hd (go h1)
      | false =>
        rw [e2] at h1
        obtain ⟨n, f, h2, h3⟩ := h_a_i h1
        exact va_alen hx hb hK hP q 0 (xw_get h2) rfl rfl hd (go h3)
  case return_ =>
    obtain rfl := xnx hc; rw [Nat.add_sub_cancel_left] at hd
    obtain ⟨h1, h2⟩ := h_b_i h
    simp only [Bool.and_eq_true, Nat.ble_eq] at h1
    split at h2
    · next e1 => exact W.widen h1.1.1 h1.1.2 (hret none X ad H locs pc la h2 h1.2 HH ⟨e1, hd⟩)
    · exact h2.elim
  case ireturn =>
    obtain rfl := xnx hc; rw [Nat.add_sub_cancel_left] at hd
    obtain ⟨h1, h2⟩ := h_b_i h
    simp only [Bool.and_eq_true, Nat.ble_eq] at h1
    unfold xrr at h2
    split at h2
    · next x =>
      split at h2
      · next e1 => exact W.widen h1.1.1 h1.1.2 (hret (some (.int x)) X ad H locs pc la h2 h1.2 HH ⟨hd, _, e1, rfl⟩)
      · next e1 => exact W.widen h1.1.1 h1.1.2 (hret (some (.int x)) X ad H locs pc la h2.2 h1.2 HH ⟨hd, _, e1, by rcases h2.1 with rfl | rfl <;> rfl⟩)
      · next e1 => exact W.widen h1.1.1 h1.1.2 (hret (some (.int x)) X ad H locs pc la h2.2 h1.2 HH ⟨hd, _, e1, h2.1⟩)
      · next e1 => exact W.widen h1.1.1 h1.1.2 (hret (some (.int x)) X ad H locs pc la h2.2 h1.2 HH ⟨hd, _, e1, h2.1⟩)
      · exact h2.elim
    · exact h2.elim
  case invokespecial n =>
    simp only [Bool.and_eq_true] at hc; obtain ⟨hn, hc⟩ := hc; obtain rfl := xnx hn; rw [Nat.add_sub_cancel_left] at hd
    split at h
    · obtain ⟨q, r, rfl, h1⟩ := h_r_i h
      obtain ⟨h2, h3⟩ := h_b_i h1
      simp only [Bool.and_eq_true, Nat.ble_eq, Nat.blt_eq] at h2 hc
      refine W.objInit hx hb hown (hts _ (xmt_in hc.1.1 rfl)) (hts _ (xmm_in hc.1.2 rfl)) (hts _ (xmm_in hc.2 rfl)) rfl hmla.symm rfl hd (by omega) ?_ (go h3)
      have e1 : ((r.map (xv ad)).map fun v => v.category) = r.map fun v => v.category := by rw [List.map_map]; exact List.map_congr_left (fun v _ => xv_cat ad v)
      rw [e1]
      have e2 : JFrame.monitorRoom (F0 m pc la (.ref (ad q) :: r.map (xv ad))) = 0 := rfl
      show 2 * JFrame.monitorRoom (F0 m pc la (.ref (ad q) :: r.map (xv ad))) + _ + 12 ≤ _
      rw [e2]
      omega
    · exact hst h
  case invokestatic n =>
    simp only [Bool.and_eq_true] at hc; obtain ⟨hn, hc⟩ := hc; obtain rfl := xnx hn; rw [Nat.add_sub_cancel_left] at hd
    have e1 : ∀ r : List Value, ((r.map (xv ad)).map fun v => v.category) = r.map fun v => v.category := fun r => by rw [List.map_map]; exact List.map_congr_left (fun v _ => xv_cat ad v)
    split at h
    · obtain ⟨x, y, r, rfl, h1⟩ := h_ii_i h
      obtain ⟨h2, h3⟩ := h_b_i h1
      simp only [Bool.and_eq_true, Nat.ble_eq, Nat.blt_eq] at h2 hc
      exact va_mmax hx hb hmla hown (hts _ (xmt_in hc.1.1.1 rfl)) (hts _ (xmm_in hc.1.1.2 rfl)) (hts _ (xmm_in hc.1.2 rfl)) (hts _ (xmm_in hc.2 rfl)) (by omega) (by rw [e1]; omega) (by omega) (by omega) hd (go h3)
    · obtain ⟨x, y, r, rfl, h1⟩ := h_ii_i h
      obtain ⟨h2, h3⟩ := h_b_i h1
      simp only [Bool.and_eq_true, Nat.ble_eq, Nat.blt_eq] at h2 hc
      exact va_mmin hx hb hmla hown (hts _ (xmt_in hc.1.1.1 rfl)) (hts _ (xmm_in hc.1.1.2 rfl)) (hts _ (xmm_in hc.1.2 rfl)) (hts _ (xmm_in hc.2 rfl)) (by omega) (by rw [e1]; omega) (by omega) (by omega) hd (go h3)
    · obtain ⟨a1, sp, d1, dp, n1, r, rfl, h1⟩ := h_cp_i h
      obtain ⟨na, f, h2, h3⟩ := h_a_i h1
      obtain ⟨nd, g, h4, h5⟩ := h_a_i h3
      obtain ⟨h6, h7⟩ := h_b_i h5
      simp only [Bool.and_eq_true, Nat.ble_eq, Nat.blt_eq, decide_eq_true_eq] at h6 hc
      obtain ⟨⟨⟨⟨⟨⟨q1, q2⟩, rfl⟩, rfl⟩, q3⟩, rfl⟩, q4⟩ := h6
      obtain rfl := Nat.eq_of_beq_eq_true q3
      have qn : (nI na).toNatClampNeg = na := nI_clamp (by omega)
      refine va_copyi hx hb hmla hown (hts _ (xmt_in hc.1.1.1 rfl)) (hts _ (xmm_in hc.1.1.2 rfl)) (hts _ (xmm_in hc.1.2 rfl)) (hts _ (xmm_in hc.2 rfl)) hK hP hD hS a1 d1 0 0 (ty := .int) (xw_get h2) (xw_get h4) rfl rfl rfl (by decide) (by decide) (nI_pos (by omega)) (by rw [qn]; show 0 + na ≤ na; omega) (by rw [qn]; show 0 + na ≤ na; omega) (fun _ _ => rfl) (by omega) ?_ hd (fun H1 locs1 p1 p2 p3 => ?_)
      · rw [e1]
        show _ + (5 + 2 + 11) ≤ _
        omega
      · rw [qn] at p1 p2
        have p1' : va_P I.1 vwCl ((xw I ad X).set d1 (ad d1, .inl (I.2.1, na, .inl f))) H1 := by
          intro kk qq hq
          by_cases hkd : kk = d1
          · subst hkd
            have hlt : kk < (xw I ad X).length := (List.getElem?_eq_some_iff.mp (xw_get (I := I) (ad := ad) h4)).1
            rw [List.getElem?_set_self hlt] at hq
            cases hq
            have := p1 kk _ (List.getElem?_set_self hlt)
            show H1[ad kk]? = some (vp_cell _ _)
            rw [← xcell_cp (g := g)]
            exact this
          · rw [List.getElem?_set_ne (Ne.symm hkd)] at hq
            exact p1 kk qq (by rw [List.getElem?_set_ne (Ne.symm hkd)]; exact hq)
        exact goX (HH.put (c := .inl (0, na, f)) p1' (hD.set (xw_get h4)) p3) h7
    · exact hst h
  all_goals
    have goA : ∀ {pc' : Nat} {r : List Value} {N : Nat} {cc' : xE} {q : Nat} {H1 : Heap}, xal z mc ms N ls r X = true → (∀ ad', xe I ad cc' = xe I ad' cc') → va_P I.1 vwCl (xw I ad X ++ [(q, xe I ad cc')]) H1 → va_D A (xw I ad X ++ [(q, xe I ad cc')]) → va_S A s.heap H1 locs → k (z.1 + 1, z.2 + N) pc' ls (.ref X.length :: r) (X ++ [cc']) → W p L.1 e R s m args below meth c H1 locs (z.1 + 1) (z.2 + N) QF (F0 m pc' la (.ref q :: r.map (xv ad))) := by
      intro pc' r N cc' q H1 hal hcc p1 p2 p3 p4
      simp only [xal, Bool.and_eq_true, Nat.blt_eq, Nat.ble_eq] at hal
      obtain ⟨⟨⟨⟨⟨a1, a2⟩, a3⟩, a4⟩, a5⟩, a6⟩ := hal
      obtain ⟨H2, ha2⟩ := HH.push a3 a4 (hcc _) p1 p2 p3
      have w := hk _ _ _ _ _ p4 p e R s m args below meth c I A QF ad0 G (va_up ad X.length q) H1 locs la H2 (xL_ad hl ha2 a5)
      rw [List.map_cons, ← xmap_ad ha2 a6] at w
      have eq1 : xv (va_up ad X.length q) (.ref X.length) = .ref q := by
        show Value.ref (va_up ad X.length q X.length) = _
        unfold va_up
        rw [if_pos rfl]
      rw [eq1] at w
      exact w
  case new n =>
    simp only [Bool.and_eq_true] at hc; obtain ⟨hn, hc⟩ := hc; obtain rfl := xnx hn; rw [Nat.add_sub_cancel_left] at hd
    obtain ⟨h1, h2⟩ := h_b_i h
    have hal := h1
    simp only [xal, Bool.and_eq_true, Nat.blt_eq, Nat.ble_eq] at hal
    cases hrr : vwCl[a]? with
    | none => rw [hrr] at hc; cases hc
    | some rr =>
      rw [hrr] at hc
      simp only [Bool.and_eq_true] at hc
      obtain ⟨⟨⟨⟨c1, c2⟩, c3⟩, c4⟩, c5⟩ := hc
      have c4 := Nat.eq_of_beq_eq_true c4
      have hfs : ∀ j, j < rr.2.2 → defaultValue (xtyF rr j) = vp_V (xdf.getD a []) j := by
        intro j hj
        have q1 := List.all_eq_true.mp c5 j (List.mem_range.mpr hj)
        have q2 := xty_ok rr (List.mem_of_getElem? hrr) j hj
        rw [q2] at q1
        exact of_decide_eq_true q1
      refine va_new hx hb hts (xcls hrr) (xtyF rr) (xty_ok rr (List.mem_of_getElem? hrr)) hown (hts _ (xmt_in c1 rfl)) (hts _ (xmm_in c2 rfl)) (hts _ (xmm_in c3 rfl)) hK hP hD hS hA hrr hfs (by omega) (by omega) hd (fun q H1 q1 q2 q3 => ?_)
      rw [← c4]
      refine goA (cc' := .inr (.inr (a, xdf.getD a []))) h1 (fun ad' => ?_) ?_ ?_ q3 h2
      · show (Sum.inr (a, (xdf.getD a []).map (xv ad)) : va_E) = .inr (a, (xdf.getD a []).map (xv ad'))
        rw [xdf_xv, xdf_xv]
      · show va_P I.1 vwCl (xw I ad X ++ [(q, .inr (a, (xdf.getD a []).map (xv ad)))]) H1
        rw [xdf_xv]; exact q1
      · show va_D A (xw I ad X ++ [(q, .inr (a, (xdf.getD a []).map (xv ad)))])
        rw [xdf_xv]; exact q2
  case newarray ty =>
    simp only [Bool.and_eq_true] at hc
    obtain ⟨⟨⟨hn, hb2⟩, hta⟩, harr⟩ := hc
    obtain rfl := xnx hn; rw [Nat.add_sub_cancel_left] at hd
    obtain ⟨x, r, rfl, h1⟩ := h_i_i h
    obtain ⟨h2, h3⟩ := h_b_i h1
    simp only [Bool.and_eq_true, decide_eq_true_eq] at h2
    obtain ⟨rfl, hal0⟩ := h2
    have hal := hal0
    simp only [xal, Bool.and_eq_true, Nat.blt_eq, Nat.ble_eq] at hal
    have hb3 : b < 65536 := Nat.blt_eq.mp hb2
    have key : ∃ ft : FieldType, newarray.typeOf ty = ft ∧ ((ft = .int ∧ a = 0) ∨ (ft = .boolean ∧ a = 1)) := by
      cases ty <;> first | exact ⟨.int, rfl, Or.inl ⟨rfl, Nat.eq_of_beq_eq_true hta⟩⟩ | exact ⟨.boolean, rfl, Or.inr ⟨rfl, Nat.eq_of_beq_eq_true hta⟩⟩ | cases hta
    obtain ⟨ft, hft, hor⟩ := key
    have hbyt : b * componentBytes ft ≤ 536870912 := by
      rcases hor with ⟨rfl, -⟩ | ⟨rfl, -⟩
      · show b * 4 ≤ _; omega
      · show b * 1 ≤ _; omega
    refine va_newa hx hb (hts _ (xmm_in harr rfl)) hft hK hP hD hS hA (a0 := (b, .inl (fun _ => 0))) (fun cA => by rcases hor with ⟨rfl, -⟩ | ⟨rfl, -⟩ <;> rfl) (nI_pos (by omega)) (nI_clamp (by omega)) hbyt (by omega) (by omega) hd (fun q cA H1 k1 q1 q2 q3 => ?_)
    have hcA : cA = (if a = 0 then I.2.1 else I.2.2.1) := by
      have r1 := (k1.2 3 (cA, ft) rfl).2
      rcases hor with ⟨rfl, rfl⟩ | ⟨rfl, rfl⟩
      · have r2 := (hK.2 0 _ rfl).2
        exact Option.some.inj (r1.symm.trans r2)
      · have r2 := (hK.2 1 _ rfl).2
        exact Option.some.inj (r1.symm.trans r2)
    subst hcA
    exact goA (cc' := .inl (a, b, fun _ => 0)) hal0 (fun _ => rfl) q1 q2 q3 h3
  case anewarray n =>
    simp only [Bool.and_eq_true] at hc
    obtain ⟨⟨hn, hb2⟩, hcl⟩ := hc
    obtain rfl := xnx hn; rw [Nat.add_sub_cancel_left] at hd
    obtain ⟨x, r, rfl, h1⟩ := h_i_i h
    obtain ⟨h2, h3⟩ := h_b_i h1
    simp only [Bool.and_eq_true, decide_eq_true_eq] at h2
    obtain ⟨rfl, hal0⟩ := h2
    have hal := hal0
    simp only [xal, Bool.and_eq_true, Nat.blt_eq, Nat.ble_eq] at hal
    have hb3 : b < 65536 := Nat.blt_eq.mp hb2
    refine va_newq hx hb hown (hts _ (xmt_in hcl rfl)) hF.2.2.2.2.2.2.1 hK hP hD hS hA (nI_pos (by omega)) (nI_clamp (by omega)) (by omega) (by omega) (by omega) hd (fun q cA H1 k1 q1 q2 q3 => ?_)
    have hcA : cA = I.2.2.2 := by
      obtain ⟨_, _, _, _, _, r1⟩ := (k1.2 3 (cA, _) rfl).2
      obtain ⟨_, _, _, _, _, r2⟩ := (hK.2 2 _ rfl).2
      exact Option.some.inj (r1.symm.trans r2)
    subst hcA
    have hnone : ∀ ad' : Nat → Nat, (fun j : Nat => ((List.replicate b (none : Option Nat))[j]?.join).map ad') = fun _ => none := by
      intro ad'
      funext j
      by_cases hj : j < b
      · simp [hj]
      · simp [hj]
    have hxe : ∀ ad' : Nat → Nat, xe I ad' (.inr (.inl (List.replicate b none))) = .inl (I.2.2.2, b, .inr (.inr (.inr (.inr (fun _ => none))))) := by
      intro ad'
      show (Sum.inl (I.2.2.2, (List.replicate b (none : Option Nat)).length, .inr (.inr (.inr (.inr (fun j : Nat => ((List.replicate b (none : Option Nat))[j]?.join).map ad'))))) : va_E) = _
      rw [hnone ad', List.length_replicate]
    refine goA (cc' := .inr (.inl (List.replicate b none))) hal0 (fun ad' => by rw [hxe, hxe]) ?_ ?_ q3 h3
    · rw [hxe]; exact q1
    · rw [hxe]; exact q2
