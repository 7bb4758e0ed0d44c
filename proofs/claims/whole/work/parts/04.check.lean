/-! ===== a row of a method against code and tables ===== -/
/-- what the classes' fields hold at first -/
def xdf : List (List Value) := [
  [.null, .int 0, .int 0, .int 0, .null, .null, .null, .int 0, .null, .null, .null, .null, .int 0, .int 0, .null],
  [.null, .null, .null, .null, .null, .int 0, .int 0, .int 0, .int 0, .int 0, .int 0, .int 0, .int 0],
  [.null, .null, .null, .null, .int 0],
  [.null, .null, .null, .int 0, .int 0, .int 0, .int 0, .int 0, .null],
  [.null, .null, .null, .null, .int 0, .int 0, .int 0, .int 0],
  [.null, .int 0],
  [.int 0, .int 0, .int 0, .int 0, .int 0, .int 0, .null, .null, .null, .int 0, .null, .null, .int 0, .null, .null, .null, .null],
  [.null, .null, .null, .null, .null, .null, .null, .null, .null],
  [.int 0, .int 0, .int 0, .int 0, .int 0, .int 0, .null, .int 0, .null, .int 0, .null, .int 0, .null, .int 0, .null, .int 0, .int 0, .long 0, .int 0, .int 0, .int 0, .int 0, .int 0, .int 0, .int 0, .null, .null, .null, .null, .null, .int 0, .int 0, .int 0, .null, .int 0, .int 0, .null]]

def xmt (t : Nat) (w : Cond) : Bool := decide (tables_1[t]? = some w)
def xmm (w : Cond) : Bool := decide (w ∈ tables_1)
/-- a field's row: class number a, field b, its kind tg, final or not -/
def xfk (own : String) (idx a b t : Nat) : Bool := match vwCl[a]? with
  | some r => Nat.blt b r.2.2 && xmt t (.fieldLink own idx (r.2.1 b).1 (r.2.1 b).2.1 (r.2.1 b).2.2.1)
  | none => false
def xisr (o : Option FieldType) : Bool := match o with
  | some (.object _) => true
  | some (.array _) => true
  | _ => false
theorem xisr_i {o : Option FieldType} (h : xisr o = true) : ∃ ty, o = some ty ∧ ((∃ n, ty = .object n) ∨ ∃ t, ty = .array t) := by
  unfold xisr at h
  split at h
  · exact ⟨_, rfl, Or.inl ⟨_, rfl⟩⟩
  · exact ⟨_, rfl, Or.inr ⟨_, rfl⟩⟩
  · cases h
def xfw (own : String) (a b tg : Nat) (v : Int32) : Bool := match vwCl[a]? with
  | some r => decide ((r.2.1 b).2.2.2 = decide (v = 1)) && (decide (v = 0) || decide ((r.2.1 b).1 = own)) && (match tg with
    | 0 => decide (parseFieldDescriptor (r.2.1 b).2.2.1 = some .int)
    | 1 => decide (parseFieldDescriptor (r.2.1 b).2.2.1 = some .boolean)
    | 2 => xisr (parseFieldDescriptor (r.2.1 b).2.2.1)
    | _ => decide (parseFieldDescriptor (r.2.1 b).2.2.1 = some .long))
  | none => false
def xswT (pc : Nat) (lo : Int) : List Int → List (Int32 × Int)
  | [] => []
  | o :: r => (Int32.ofInt lo, (pc : Int) + o) :: xswT pc (lo + 1) r
/-- is the row as the code and the tables have it -/
def xck (own : String) (ini : Bool) (cc : ByteArray) (pc : Nat) (o : xO) : Bool := match o with
  | (i, nx, tg, v, w, a, b, t, sw) => decide (decode cc pc = .ok (i, nx - pc)) && (match i with
    | .iconst n => Nat.beq nx (pc + 1) && decide (Int32.ofInt n = v)
    | .bipush n => Nat.beq nx (pc + 2) && decide ((Int8.ofInt n).toInt32 = v)
    | .sipush n => Nat.beq nx (pc + 3) && decide ((Int16.ofInt n).toInt32 = v)
    | .ldc n => Nat.beq nx (pc + 2) && (match a with
      | 0 => xmt t (.constant own n v)
      | _ => decide (own = "NeededStop$Reader") && Nat.beq (xsk.getD b 0) n)
    | .ldc_w n => Nat.beq nx (pc + 3) && xmt t (.constant own n v)
    | .ldc2_w n => Nat.beq nx (pc + 3) && xmt t (.constantLong own n w)
    | .lconst n => Nat.beq nx (pc + 1) && decide (Int64.ofNat (n : Nat) = w)
    | .iload _ => Nat.beq nx (pc + 2)
    | .aload _ => Nat.beq nx (pc + 2)
    | .istore _ => Nat.beq nx (pc + 2)
    | .iinc _ n => Nat.beq nx (pc + 3) && decide (Int32.ofInt n = v)
    | .goto off => Nat.beq nx (pc + 3) && decide ((pc : Int) + off = (tg : Int))
    | .ifCond _ off => Nat.beq nx (pc + 3) && decide ((pc : Int) + off = (tg : Int))
    | .if_icmp _ off => Nat.beq nx (pc + 3) && decide ((pc : Int) + off = (tg : Int))
    | .tableswitch df lo hi offs => decide ((pc : Int) + df = (tg : Int)) && decide (lo = 0) && decide (hi + 1 = (offs.size : Int)) && Nat.blt offs.size 100 && decide (sw.map (fun q => (q.1, (q.2 : Int))) = xswT pc 0 offs.toList)
    | .lookupswitch df ps => decide ((pc : Int) + df = (tg : Int)) && decide ((ps.toList.zip (ps.toList.drop 1)).all (fun (a, next) => a.1 < next.1) = true) && decide (sw.map (fun q => (q.1.toInt, (q.2 : Int))) = ps.toList.map (fun q => (q.1, (pc : Int) + q.2)))
    | .getfield n => Nat.beq nx (pc + 3) && (match a with
      | 100 => (match b with
        | 0 => xmt t (.fieldLink own n "java/lang/String" "value" "[B")
        | _ => xmt t (.fieldLink own n "java/lang/String" "coder" "B"))
      | _ => xfk own n a b t)
    | .putfield n => Nat.beq nx (pc + 3) && xfk own n a b t && xfw own a b tg v && (decide (v = 0) || ini)
    | .getstatic n => Nat.beq nx (pc + 3) && (match a with
      | 1 => xmt t (.fieldLink own n "NeededStop$Reader" "NUMBERS" "[I")
      | 3 => xmt t (.fieldLink own n "jdk/internal/util/Preconditions" "SIOOBE_FORMATTER" "Ljava/util/function/BiFunction;")
      | _ => xmt t (.fieldLink own n "java/lang/String" "COMPACT_STRINGS" "Z"))
    | .new n => Nat.beq nx (pc + 3) && (match vwCl[a]? with
      | some r => xmt t (.classLink own n r.1) && xmm (.instantiable r.1 r.2.2) && xmm (.initialized r.1) && Nat.beq (xdf.getD a []).length r.2.2 && (List.range r.2.2).all (fun j => match parseFieldDescriptor (r.2.1 j).2.2.1 with
        | some ty => decide (defaultValue ty = vp_V (xdf.getD a []) j)
        | none => false)
      | none => false)
    | .newarray ty => Nat.beq nx (pc + 2) && Nat.blt b 65536 && (match ty with
      | .int => Nat.beq a 0
      | .boolean => Nat.beq a 1
      | _ => false) && xmm (.arrayClass (newarray.typeOf ty))
    | .anewarray n => Nat.beq nx (pc + 3) && Nat.blt b 65536 && xmt t (.classLink own n "NeededStop$Day")
    | .invokestatic n => Nat.beq nx (pc + 3) && (match a with
      | 1 => xmt t (.methodLink own n Lib.Math.max.name) && xmm (.static Lib.Math.max.name) && xmm (.initialized "java/lang/Math") && xmm (.code Lib.Math.max.name Lib.Math.max.code 2 (some .int))
      | 2 => xmt t (.methodLink own n Lib.Math.min.name) && xmm (.static Lib.Math.min.name) && xmm (.initialized "java/lang/Math") && xmm (.code Lib.Math.min.name Lib.Math.min.code 2 (some .int))
      | 3 => xmt t (.methodLink own n arraycopyName) && xmm (.native arraycopyName) && xmm (.static arraycopyName) && xmm (.initialized "java/lang/System")
      | _ => true)
    | .invokespecial n => Nat.beq nx (pc + 3) && (match a with
      | 1 => xmt t (.methodLink own n Lib.objectInit) && xmm (.instanceMethod Lib.objectInit) && xmm (.code Lib.objectInit ⟨#[0xb1]⟩ 1 none)
      | _ => true)
    | .invokevirtual _ => Nat.beq nx (pc + 3)
    | _ => Nat.beq nx (pc + 1))
def xMk (M : xM) : Bool := M.2.2.2.2.all fun l => l.all fun q => xck (xown M) (decide (M.1.name = "<init>")) (xcc M) q.1 q.2
def xwd (w : Cond) : Bool := decide (w ∈ lw_tbl) && goodWord w
/-- what the tables must have of a callee: 0 an instance's method, 1 a static one, 2 a constructor -/
def xcB (M : xM) (kind n : Nat) : Bool := xwd (.initialized M.1.cls) && xwd (.code M.1 (xcc M) (xml M) (xret M)) && decide (M.1.cls ≠ "java/lang/invoke/MethodHandle" ∧ M.1.cls ≠ "java/lang/invoke/VarHandle") && decide ((parseMethodDescriptor M.1.desc).map (fun d => d.parameters.length) = some n) && Nat.ble (xml M) 21 && (match kind with
  | 0 => xwd (.instanceMethod M.1) && xwd (.selects M.1.cls M.1 M.1)
  | 1 => xwd (.static M.1)
  | _ => xwd (.instanceMethod M.1) && decide (M.1.name = "<init>") && decide (xret M = none))
