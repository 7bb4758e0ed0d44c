/-! ===== one step, as what must hold before it ===== -/
abbrev xK : Type := (Nat × Nat) → Nat → List (Option Value) → List Value → List xE → Prop
def h_l (ls : List (Option Value)) (k : Nat) (f : Value → Prop) : Prop := match ls[k]? with
  | some (some v) => f v
  | _ => False
theorem h_l_i {ls : List (Option Value)} {k : Nat} {f : Value → Prop} (h : h_l ls k f) : ∃ v, ls[k]? = some (some v) ∧ f v := by
  unfold h_l at h; split at h
  · next v hv => exact ⟨v, hv, h⟩
  · exact h.elim
def h_vi (v : Value) (f : Int32 → Prop) : Prop := match v with
  | .int x => f x
  | _ => False
theorem h_vi_i {v : Value} {f : Int32 → Prop} (h : h_vi v f) : ∃ x, v = .int x ∧ f x := by
  unfold h_vi at h; split at h
  · exact ⟨_, rfl, h⟩
  · exact h.elim
def h_vj (v : Value) (f : Int64 → Prop) : Prop := match v with
  | .long x => f x
  | _ => False
theorem h_vj_i {v : Value} {f : Int64 → Prop} (h : h_vj v f) : ∃ x, v = .long x ∧ f x := by
  unfold h_vj at h; split at h
  · exact ⟨_, rfl, h⟩
  · exact h.elim
def h_vr (v : Value) (f : Nat → Prop) : Prop := match v with
  | .ref x => f x
  | _ => False
theorem h_vr_i {v : Value} {f : Nat → Prop} (h : h_vr v f) : ∃ x, v = .ref x ∧ f x := by
  unfold h_vr at h; split at h
  · exact ⟨_, rfl, h⟩
  · exact h.elim
def h_i (st : List Value) (f : Int32 → List Value → Prop) : Prop := match st with
  | .int x :: r => f x r
  | _ => False
theorem h_i_i {st : List Value} {f : Int32 → List Value → Prop} (h : h_i st f) : ∃ x r, st = .int x :: r ∧ f x r := by
  unfold h_i at h; split at h
  · exact ⟨_, _, rfl, h⟩
  · exact h.elim
def h_j (st : List Value) (f : Int64 → List Value → Prop) : Prop := match st with
  | .long x :: r => f x r
  | _ => False
theorem h_j_i {st : List Value} {f : Int64 → List Value → Prop} (h : h_j st f) : ∃ x r, st = .long x :: r ∧ f x r := by
  unfold h_j at h; split at h
  · exact ⟨_, _, rfl, h⟩
  · exact h.elim
def h_r (st : List Value) (f : Nat → List Value → Prop) : Prop := match st with
  | .ref x :: r => f x r
  | _ => False
theorem h_r_i {st : List Value} {f : Nat → List Value → Prop} (h : h_r st f) : ∃ x r, st = .ref x :: r ∧ f x r := by
  unfold h_r at h; split at h
  · exact ⟨_, _, rfl, h⟩
  · exact h.elim
/-- two ints: the lower one first -/
def h_ii (st : List Value) (f : Int32 → Int32 → List Value → Prop) : Prop := match st with
  | .int y :: .int x :: r => f x y r
  | _ => False
theorem h_ii_i {st : List Value} {f : Int32 → Int32 → List Value → Prop} (h : h_ii st f) : ∃ x y r, st = .int y :: .int x :: r ∧ f x y r := by
  unfold h_ii at h; split at h
  · exact ⟨_, _, _, rfl, h⟩
  · exact h.elim
def h_jj (st : List Value) (f : Int64 → Int64 → List Value → Prop) : Prop := match st with
  | .long y :: .long x :: r => f x y r
  | _ => False
theorem h_jj_i {st : List Value} {f : Int64 → Int64 → List Value → Prop} (h : h_jj st f) : ∃ x y r, st = .long y :: .long x :: r ∧ f x y r := by
  unfold h_jj at h; split at h
  · exact ⟨_, _, _, rfl, h⟩
  · exact h.elim
def h_ji (st : List Value) (f : Int64 → Int32 → List Value → Prop) : Prop := match st with
  | .int y :: .long x :: r => f x y r
  | _ => False
theorem h_ji_i {st : List Value} {f : Int64 → Int32 → List Value → Prop} (h : h_ji st f) : ∃ x y r, st = .int y :: .long x :: r ∧ f x y r := by
  unfold h_ji at h; split at h
  · exact ⟨_, _, _, rfl, h⟩
  · exact h.elim
def h_ri (st : List Value) (f : Nat → Int32 → List Value → Prop) : Prop := match st with
  | .int y :: .ref x :: r => f x y r
  | _ => False
theorem h_ri_i {st : List Value} {f : Nat → Int32 → List Value → Prop} (h : h_ri st f) : ∃ x y r, st = .int y :: .ref x :: r ∧ f x y r := by
  unfold h_ri at h; split at h
  · exact ⟨_, _, _, rfl, h⟩
  · exact h.elim
def h_rii (st : List Value) (f : Nat → Int32 → Int32 → List Value → Prop) : Prop := match st with
  | .int v :: .int y :: .ref x :: r => f x y v r
  | _ => False
theorem h_rii_i {st : List Value} {f : Nat → Int32 → Int32 → List Value → Prop} (h : h_rii st f) : ∃ x y v r, st = .int v :: .int y :: .ref x :: r ∧ f x y v r := by
  unfold h_rii at h; split at h
  · exact ⟨_, _, _, _, rfl, h⟩
  · exact h.elim
def h_rir (st : List Value) (f : Nat → Int32 → Nat → List Value → Prop) : Prop := match st with
  | .ref v :: .int y :: .ref x :: r => f x y v r
  | _ => False
theorem h_rir_i {st : List Value} {f : Nat → Int32 → Nat → List Value → Prop} (h : h_rir st f) : ∃ x y v r, st = .ref v :: .int y :: .ref x :: r ∧ f x y v r := by
  unfold h_rir at h; split at h
  · exact ⟨_, _, _, _, rfl, h⟩
  · exact h.elim
def h_rv (st : List Value) (f : Nat → Value → List Value → Prop) : Prop := match st with
  | v :: .ref x :: r => f x v r
  | _ => False
theorem h_rv_i {st : List Value} {f : Nat → Value → List Value → Prop} (h : h_rv st f) : ∃ x v r, st = v :: .ref x :: r ∧ f x v r := by
  unfold h_rv at h; split at h
  · exact ⟨_, _, _, rfl, h⟩
  · exact h.elim
def h_cp (st : List Value) (f : Nat → Int32 → Nat → Int32 → Int32 → List Value → Prop) : Prop := match st with
  | .int n :: .int dp :: .ref d :: .int sp :: .ref a :: r => f a sp d dp n r
  | _ => False
theorem h_cp_i {st : List Value} {f : Nat → Int32 → Nat → Int32 → Int32 → List Value → Prop} (h : h_cp st f) : ∃ a sp d dp n r, st = .int n :: .int dp :: .ref d :: .int sp :: .ref a :: r ∧ f a sp d dp n r := by
  unfold h_cp at h; split at h
  · exact ⟨_, _, _, _, _, _, rfl, h⟩
  · exact h.elim
/-- a value of one slot on top -/
def h_1 (st : List Value) (f : Value → List Value → Prop) : Prop := match st with
  | .int x :: r => f (.int x) r
  | .ref x :: r => f (.ref x) r
  | _ => False
theorem h_1_i {st : List Value} {f : Value → List Value → Prop} (h : h_1 st f) : ∃ v r, st = v :: r ∧ v.category = 1 ∧ f v r := by
  unfold h_1 at h; split at h
  · exact ⟨_, _, rfl, rfl, h⟩
  · exact ⟨_, _, rfl, rfl, h⟩
  · exact h.elim
/-- a row of ints (0) or of booleans (1) -/
def h_a (X : List xE) (k t : Nat) (f : Nat → (Nat → Int32) → Prop) : Prop := match X[k]? with
  | some (.inl (t', n, g)) => bif Nat.beq t' t then f n g else False
  | _ => False
theorem h_a_i {X : List xE} {k t : Nat} {f : Nat → (Nat → Int32) → Prop} (h : h_a X k t f) : ∃ n g, X[k]? = some (.inl (t, n, g)) ∧ f n g := by
  unfold h_a at h; split at h
  · next t' n g hX =>
    cases hb : Nat.beq t' t with
    | false => rw [hb] at h; exact h.elim
    | true => rw [hb] at h; rw [Nat.eq_of_beq_eq_true hb] at hX; exact ⟨n, g, hX, h⟩
  · exact h.elim
def h_q (X : List xE) (k : Nat) (f : List (Option Nat) → Prop) : Prop := match X[k]? with
  | some (.inr (.inl l)) => f l
  | _ => False
theorem h_q_i {X : List xE} {k : Nat} {f : List (Option Nat) → Prop} (h : h_q X k f) : ∃ l, X[k]? = some (.inr (.inl l)) ∧ f l := by
  unfold h_q at h; split at h
  · next l hX => exact ⟨l, hX, h⟩
  · exact h.elim
/-- an object of class number ci -/
def h_o (X : List xE) (k ci : Nat) (f : List Value → Prop) : Prop := match X[k]? with
  | some (.inr (.inr (c, fs))) => bif Nat.beq c ci then f fs else False
  | _ => False
theorem h_o_i {X : List xE} {k ci : Nat} {f : List Value → Prop} (h : h_o X k ci f) : ∃ fs, X[k]? = some (.inr (.inr (ci, fs))) ∧ f fs := by
  unfold h_o at h; split at h
  · next c fs hX =>
    cases hb : Nat.beq c ci with
    | false => rw [hb] at h; exact h.elim
    | true => rw [hb] at h; rw [Nat.eq_of_beq_eq_true hb] at hX; exact ⟨fs, hX, h⟩
  · exact h.elim
def h_s {α : Type} (o : Option α) (f : α → Prop) : Prop := match o with
  | some v => f v
  | none => False
theorem h_s_i {α : Type} {o : Option α} {f : α → Prop} (h : h_s o f) : ∃ v, o = some v ∧ f v := by
  cases o with
  | none => exact h.elim
  | some v => exact ⟨v, rfl, h⟩
def h_b (b : Bool) (P : Prop) : Prop := bif b then P else False
theorem h_b_i {b : Bool} {P : Prop} (h : h_b b P) : b = true ∧ P := by
  cases b with
  | false => exact h.elim
  | true => exact ⟨rfl, h⟩
/-- may a value be written into a field of this kind (0 int, 1 boolean, 2 reference) -/
def h_f (t : Nat) (v : Value) (P : Prop) : Prop := match t with
  | 0 => match v with
    | .int _ => P
    | _ => False
  | 1 => match v with
    | .int x => (x = 0 ∨ x = 1) ∧ P
    | _ => False
  | 2 => match v with
    | .ref _ => P
    | _ => False
  | _ => match v with
    | .long _ => P
    | _ => False
def xswk (x : Int32) (dn : Nat) (f : Nat → Prop) : List (Int32 × Nat) → Prop
  | [] => f dn
  | (v, t) :: r => (x = v → f t) ∧ (¬ x = v → xswk x dn f r)
def xal (z : Nat × Nat) (mc ms N : Nat) (ls : List (Option Value)) (st : List Value) (X : List xE) : Bool :=
  Nat.blt z.1 mc && Nat.ble (z.2 + N) ms && Nat.blt X.length xB && X.all (xoke X.length) && ls.all (fun o => match o with | none => true | some v => xokv X.length v) && st.all (xokv X.length)
def xrr (M : xM) (Q : Option Value → List xE → Prop) (st : List Value) (X : List xE) : Prop := match st with
  | [.int x] => match xret M with
    | some .int => Q (some (.int x)) X
    | some .boolean => (x = 0 ∨ x = 1) ∧ Q (some (.int x)) X
    | some .char => narrow .char (.int x) = .int x ∧ Q (some (.int x)) X
    | some .byte => narrow .byte (.int x) = .int x ∧ Q (some (.int x)) X
    | _ => False
  | _ => False
/-- what must hold ahead of a row, if k is what must hold behind it, and stop here -/
def xs1 (L : xLn) (M : xM) (d mc ms : Nat) (Q : Option Value → List xE → Prop) (o : xO) (z : Nat × Nat) (ls : List (Option Value)) (st : List Value) (X : List xE) (k : xK) (stop : Prop) : Prop := match o with
  | (i, nx, tg, v, w, a, b, _, sw) => match i with
    | .iconst _ => k z nx ls (.int v :: st) X
    | .bipush _ => k z nx ls (.int v :: st) X
    | .sipush _ => k z nx ls (.int v :: st) X
    | .ldc _ => match a with
      | 0 => k z nx ls (.int v :: st) X
      | _ => h_b (Nat.blt b 10) (k z nx ls (.ref (xB + 1 + b) :: st) X)
    | .ldc_w _ => k z nx ls (.int v :: st) X
    | .ldc2_w _ => k z nx ls (.long w :: st) X
    | .lconst _ => k z nx ls (.long w :: st) X
    | .iload_n n => h_l ls n.val fun u => h_vi u fun x => k z nx ls (.int x :: st) X
    | .iload n => h_l ls n fun u => h_vi u fun x => k z nx ls (.int x :: st) X
    | .lload_n n => h_l ls n.val fun u => h_vj u fun x => k z nx ls (.long x :: st) X
    | .aload_n n => h_l ls n.val fun u => h_vr u fun x => k z nx ls (.ref x :: st) X
    | .aload n => h_l ls n fun u => h_vr u fun x => k z nx ls (.ref x :: st) X
    | .istore_n n => h_i st fun x r => h_b (xlok ls n.val) (k z nx (ls.set n.val (some (.int x))) r X)
    | .istore n => h_i st fun x r => h_b (xlok ls n) (k z nx (ls.set n (some (.int x))) r X)
    | .astore_n n => h_r st fun x r => h_b (xlok ls n.val) (k z nx (ls.set n.val (some (.ref x))) r X)
    | .iinc n _ => h_l ls n fun u => h_vi u fun x => h_b (xlok ls n) (k z nx (ls.set n (some (.int (x + v)))) st X)
    | .iadd => h_ii st fun x y r => k z nx ls (.int (x + y) :: r) X
    | .isub => h_ii st fun x y r => k z nx ls (.int (x - y) :: r) X
    | .imul => h_ii st fun x y r => k z nx ls (.int (x * y) :: r) X
    | .iand => h_ii st fun x y r => k z nx ls (.int (x &&& y) :: r) X
    | .ior => h_ii st fun x y r => k z nx ls (.int (x ||| y) :: r) X
    | .ixor => h_ii st fun x y r => k z nx ls (.int (x ^^^ y) :: r) X
    | .ishl => h_ii st fun x y r => k z nx ls (.int (x <<< (y &&& 31)) :: r) X
    | .ishr => h_ii st fun x y r => k z nx ls (.int (x >>> (y &&& 31)) :: r) X
    | .iushr => h_ii st fun x y r => k z nx ls (.int (x.toUInt32 >>> (y.toUInt32 &&& Int32.toUInt32 31)).toInt32 :: r) X
    | .idiv => h_ii st fun x y r => ¬ y = 0 ∧ k z nx ls (.int (x / y) :: r) X
    | .irem => h_ii st fun x y r => ¬ y = 0 ∧ k z nx ls (.int (x - x / y * y) :: r) X
    | .ladd => h_jj st fun x y r => k z nx ls (.long (x + y) :: r) X
    | .lsub => h_jj st fun x y r => k z nx ls (.long (x - y) :: r) X
    | .lmul => h_jj st fun x y r => k z nx ls (.long (x * y) :: r) X
    | .land => h_jj st fun x y r => k z nx ls (.long (x &&& y) :: r) X
    | .lor => h_jj st fun x y r => k z nx ls (.long (x ||| y) :: r) X
    | .lshl => h_ji st fun x y r => k z nx ls (.long (x <<< (y.toInt64 &&& 63)) :: r) X
    | .lshr => h_ji st fun x y r => k z nx ls (.long (x >>> (y.toInt64 &&& 63)) :: r) X
    | .lcmp => h_jj st fun x y r => k z nx ls (.int (lg_cmp x y) :: r) X
    | .i2l => h_i st fun x r => k z nx ls (.long x.toInt64 :: r) X
    | .l2i => h_j st fun x r => k z nx ls (.int x.toInt32 :: r) X
    | .i2c => h_i st fun x r => k z nx ls (.int (x.toUInt32 % 65536).toInt32 :: r) X
    | .dup => h_1 st fun u r => k z nx ls (u :: u :: r) X
    | .dup2 => h_1 st fun u r => h_1 r fun u2 r2 => k z nx ls (u :: u2 :: u :: u2 :: r2) X
    | .pop => h_1 st fun _ r => k z nx ls r X
    | .goto _ => k z tg ls st X
    | .ifCond .eq _ => h_i st fun x r => (x = 0 → k z tg ls r X) ∧ (¬ x = 0 → k z nx ls r X)
    | .ifCond .ne _ => h_i st fun x r => (¬ x = 0 → k z tg ls r X) ∧ (x = 0 → k z nx ls r X)
    | .ifCond .lt _ => h_i st fun x r => (x < 0 → k z tg ls r X) ∧ (¬ x < 0 → k z nx ls r X)
    | .ifCond .ge _ => h_i st fun x r => (0 ≤ x → k z tg ls r X) ∧ (¬ 0 ≤ x → k z nx ls r X)
    | .ifCond .gt _ => h_i st fun x r => (0 < x → k z tg ls r X) ∧ (¬ 0 < x → k z nx ls r X)
    | .ifCond .le _ => h_i st fun x r => (x ≤ 0 → k z tg ls r X) ∧ (¬ x ≤ 0 → k z nx ls r X)
    | .if_icmp .eq _ => h_ii st fun x y r => (x = y → k z tg ls r X) ∧ (¬ x = y → k z nx ls r X)
    | .if_icmp .ne _ => h_ii st fun x y r => (¬ x = y → k z tg ls r X) ∧ (x = y → k z nx ls r X)
    | .if_icmp .lt _ => h_ii st fun x y r => (x < y → k z tg ls r X) ∧ (¬ x < y → k z nx ls r X)
    | .if_icmp .ge _ => h_ii st fun x y r => (y ≤ x → k z tg ls r X) ∧ (¬ y ≤ x → k z nx ls r X)
    | .if_icmp .gt _ => h_ii st fun x y r => (y < x → k z tg ls r X) ∧ (¬ y < x → k z nx ls r X)
    | .if_icmp .le _ => h_ii st fun x y r => (x ≤ y → k z tg ls r X) ∧ (¬ x ≤ y → k z nx ls r X)
    | .tableswitch _ _ _ _ => h_i st fun x r => xswk x tg (fun t => k z t ls r X) sw
    | .lookupswitch _ _ => h_i st fun x r => xswk x tg (fun t => k z t ls r X) sw
    | .getfield _ => h_r st fun q r => match a with
      | 100 => h_b (Nat.ble (xB + 1) q && Nat.blt q (xB + 11)) (match b with
        | 0 => k z nx ls (.ref (q + 10) :: r) X
        | _ => k z nx ls (.int 0 :: r) X)
      | _ => h_o X q a fun fs => h_s fs[b]? fun u => k z nx ls (u :: r) X
    | .putfield _ => h_rv st fun q u r => h_o X q a fun fs => h_b (Nat.blt b fs.length) (h_f tg u (k z nx ls r (X.set q (.inr (.inr (a, fs.set b u))))))
    | .getstatic _ => match a with
      | 1 => k z nx ls (.ref xB :: st) X
      | 2 => k z nx ls (.int 1 :: st) X
      | 3 => k z nx ls (.ref (xB + 41) :: st) X ∧ k z nx ls (.null :: st) X
      | _ => stop
    | .iaload => h_ri st fun q i r => bif Nat.beq q xB then ∃ y : Nat, i = nI y ∧ y < 10 ∧ k z nx ls (.int (xnum.getD y 0) :: r) X else bif Nat.beq q (xB + 40) then ∃ y : Nat, i = nI y ∧ y < L.2.1 ∧ L.2.1 ≤ 1000000 ∧ k z nx ls (.int (L.2.2 y) :: r) X else h_a X q 0 fun n f => h_b (Nat.ble n 1000000) (∃ y : Nat, i = nI y ∧ y < n ∧ k z nx ls (.int (f y) :: r) X)
    | .baload => h_ri st fun q i r => bif Nat.ble (xB + 11) q && Nat.blt q (xB + 21) then ∃ y : Nat, i = nI y ∧ y < xsl.getD (q - (xB + 11)) 0 ∧ y < 1000000 ∧ xsl.getD (q - (xB + 11)) 0 ≤ 1000000 ∧ k z nx ls (.int ((xsb.getD (q - (xB + 11)) []).getD y 0) :: r) X else h_a X q 1 fun n f => h_b (Nat.ble n 1000000) (∃ y : Nat, i = nI y ∧ y < n ∧ k z nx ls (.int (f y) :: r) X)
    | .iastore => h_rii st fun q i x r => h_a X q 0 fun n f => h_b (Nat.ble n 1000000) (∃ y : Nat, i = nI y ∧ y < n ∧ k z nx ls r (X.set q (.inl (0, n, upd f y x))))
    | .bastore => h_rii st fun q i x r => h_a X q 1 fun n f => h_b (Nat.ble n 1000000) (∃ y : Nat, i = nI y ∧ y < n ∧ (x = 0 ∨ x = 1) ∧ k z nx ls r (X.set q (.inl (1, n, upd f y x))))
    | .aaload => h_ri st fun q i r => h_q X q fun c => h_b (Nat.ble c.length 1000000) (∃ y : Nat, i = nI y ∧ y < c.length ∧ h_s (c[y]?.join) fun u => k z nx ls (.ref u :: r) X)
    | .aastore => h_rir st fun q i u r => h_q X q fun c => h_o X u 0 fun _ => h_b (Nat.ble c.length 1000000) (∃ y : Nat, i = nI y ∧ y < c.length ∧ k z nx ls r (X.set q (.inr (.inl (c.set y (some u))))))
    | .arraylength => h_r st fun q r => bif Nat.beq q xB then k z nx ls (.int (nI 10) :: r) X else bif Nat.beq q (xB + 40) then k z nx ls (.int (nI L.2.1) :: r) X else bif Nat.ble (xB + 11) q && Nat.blt q (xB + 21) then k z nx ls (.int (nI (xsl.getD (q - (xB + 11)) 0)) :: r) X else h_a X q 0 fun n _ => k z nx ls (.int (nI n) :: r) X
    | .new _ => h_b (xal z mc ms (xdf.getD a []).length ls st X) (k (z.1 + 1, z.2 + (xdf.getD a []).length) nx ls (.ref X.length :: st) (X ++ [.inr (.inr (a, xdf.getD a []))]))
    | .newarray _ => h_i st fun x r => h_b (decide (x = nI b) && xal z mc ms b ls r X) (k (z.1 + 1, z.2 + b) nx ls (.ref X.length :: r) (X ++ [.inl (a, b, fun _ => 0)]))
    | .anewarray _ => h_i st fun x r => h_b (decide (x = nI b) && xal z mc ms b ls r X) (k (z.1 + 1, z.2 + b) nx ls (.ref X.length :: r) (X ++ [.inr (.inl (List.replicate b none))]))
    | .invokestatic _ => match a with
      | 1 => h_ii st fun x y r => h_b (Nat.blt 0 d && Nat.ble (r.map fun v => v.category).sum 8 && Nat.ble z.1 mc && Nat.ble z.2 ms) (k z nx ls (.int (if x < y then y else x) :: r) X)
      | 2 => h_ii st fun x y r => h_b (Nat.blt 0 d && Nat.ble (r.map fun v => v.category).sum 8 && Nat.ble z.1 mc && Nat.ble z.2 ms) (k z nx ls (.int (if y < x then y else x) :: r) X)
      | 3 => h_cp st fun s0 sp d0 dp n r => h_a X s0 0 fun n0 f => h_a X d0 0 fun n1 _ => h_b (Nat.blt 0 d && Nat.ble (r.map fun v => v.category).sum 8 && decide (sp = 0) && decide (dp = 0) && Nat.beq n0 n1 && decide (n = nI n1) && Nat.blt n1 65536) (k z nx ls r (X.set d0 (.inl (0, n1, f))))
      | _ => stop
    | .invokespecial _ => match a with
      | 1 => h_r st fun _ r => h_b (Nat.blt 0 d && Nat.ble (r.map fun v => v.category).sum 8) (k z nx ls r X)
      | _ => stop
    | .ireturn => h_b (Nat.ble z.1 mc && Nat.ble z.2 ms && X.all (xoke X.length)) (xrr M Q st X)
    | .return_ => h_b (Nat.ble z.1 mc && Nat.ble z.2 ms && X.all (xoke X.length)) (match st, xret M with
      | [], none => Q none X
      | _, _ => False)
    | _ => stop
