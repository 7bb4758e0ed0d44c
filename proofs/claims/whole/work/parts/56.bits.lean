/-! ===== sets by bits ===== -/
theorem nI_31 {q : Nat} (h : q < 32) : nI q &&& 31 = nI q := by
  have := pk_andN (n := q) (by omega) (m := 31) 5 rfl
  rw [this]
  congr 1
  omega
theorem nI_smod {q : Nat} (h : q < 32) : ((nI q).toBitVec.smod 32).toNat = q := by
  have key : ∀ q : Fin 32, ((nI q.val).toBitVec.smod 32).toNat = q.val := by decide
  exact key ⟨q, h⟩
theorem bv1 (v : BitVec 32) : (v &&& 1#32 = 1#32) ↔ v.getLsbD 0 = true := by
  constructor
  · intro h
    have := congrArg (fun b : BitVec 32 => b.getLsbD 0) h
    simpa using this
  · intro h
    apply BitVec.eq_of_getLsbD_eq
    intro i hi
    rw [BitVec.getLsbD_and]
    by_cases e : i = 0
    · subst e; simp [h]
    · have : (1#32).getLsbD i = false := by
        rw [BitVec.getLsbD_one]
        simp [e]
      rw [this]; simp
theorem hasP_bit (x : Int32) {q : Nat} (h : q < 32) : hasP x (nI q) = x.toBitVec.getLsbD q := by
  unfold hasP
  rw [nI_31 h]
  have e : (x >>> nI q &&& 1 = 1) ↔ x.toBitVec.getLsbD q = true := by
    rw [← Int32.toBitVec_inj, Int32.toBitVec_and, show (1 : Int32).toBitVec = 1#32 from rfl, bv1, Int32.toBitVec_shiftRight, BitVec.sshiftRight_eq', nI_smod h, BitVec.getLsbD_sshiftRight]
    simp [h]
  by_cases hb : x.toBitVec.getLsbD q = true
  · rw [hb, decide_eq_true (e.mpr hb)]
  · rw [decide_eq_false (fun z => hb (e.mp z))]
    cases hc : x.toBitVec.getLsbD q
    · rfl
    · exact absurd hc hb
theorem one_bit {v q : Nat} (hv : v < 32) (hq : q < 32) : hasP (1 <<< (nI v &&& 31)) (nI q) = decide (q = v) := by
  rw [hasP_bit _ hq, nI_31 hv, Int32.toBitVec_shiftLeft, BitVec.shiftLeft_eq', nI_smod hv, BitVec.getLsbD_shiftLeft, show (1 : Int32).toBitVec = 1#32 from rfl, BitVec.getLsbD_one]
  by_cases e : q = v
  · subst e; simp [hq]
  · simp only [decide_eq_false e]
    by_cases h : q < v
    · simp [h]
    · have : ¬ q - v = 0 := by omega
      simp [this]
theorem or_bit (x y : Int32) {q : Nat} (hq : q < 32) : hasP (x ||| y) (nI q) = (hasP x (nI q) || hasP y (nI q)) := by
  rw [hasP_bit _ hq, hasP_bit _ hq, hasP_bit _ hq, Int32.toBitVec_or, BitVec.getLsbD_or]
theorem and_bit (x y : Int32) {q : Nat} (hq : q < 32) : hasP (x &&& y) (nI q) = (hasP x (nI q) && hasP y (nI q)) := by
  rw [hasP_bit _ hq, hasP_bit _ hq, hasP_bit _ hq, Int32.toBitVec_and, BitVec.getLsbD_and]
theorem not_bit (x : Int32) {q : Nat} (hq : q < 32) : hasP (x ^^^ -1) (nI q) = !hasP x (nI q) := by
  rw [hasP_bit _ hq, hasP_bit _ hq, Int32.toBitVec_xor, BitVec.getLsbD_xor, show (-1 : Int32).toBitVec = BitVec.allOnes 32 from rfl, BitVec.getLsbD_allOnes]
  simp [hq]
theorem zero_bit {q : Nat} (hq : q < 32) : hasP 0 (nI q) = false := by
  rw [hasP_bit _ hq, show (0 : Int32).toBitVec = 0#32 from rfl]
  simp
theorem bit_ext {x y : Int32} (h : ∀ q, q < 32 → hasP x (nI q) = hasP y (nI q)) : x = y := by
  rw [← Int32.toBitVec_inj]
  apply BitVec.eq_of_getLsbD_eq
  intro q hq
  rw [← hasP_bit _ hq, ← hasP_bit _ hq]
  exact h q hq
theorem set_bit (x : Int32) {v q : Nat} (hv : v < 32) (hq : q < 32) : hasP (x ||| 1 <<< (nI v &&& 31)) (nI q) = (hasP x (nI q) || decide (q = v)) := by
  rw [or_bit _ _ hq, one_bit hv hq]
theorem clr_bit (x : Int32) {v q : Nat} (hv : v < 32) (hq : q < 32) : hasP (x &&& (1 <<< (nI v &&& 31) ^^^ -1)) (nI q) = (hasP x (nI q) && !decide (q = v)) := by
  rw [and_bit _ _ hq, not_bit _ hq, one_bit hv hq]
/-- the bit as it is asked for -/
theorem hasP_iff (x k : Int32) : x >>> (k &&& 31) &&& 1 = 1 ↔ hasP x k = true := by simp [hasP]
theorem hasP_val (x : Int32) {q : Nat} (hq : q < 32) : x >>> (nI q &&& 31) &&& 1 = bI (hasP x (nI q)) := by
  rw [hasP_bit x hq, nI_31 hq]
  have e : ∀ v : BitVec 32, v &&& 1#32 = if v.getLsbD 0 then 1#32 else 0#32 := by
    intro v
    apply BitVec.eq_of_getLsbD_eq
    intro i hi
    rw [BitVec.getLsbD_and, BitVec.getLsbD_one]
    by_cases e : i = 0
    · subst e
      cases h : v.getLsbD 0 <;> simp
    · cases h : v.getLsbD 0 <;> simp [e]
  rw [← Int32.toBitVec_inj, Int32.toBitVec_and, show (1 : Int32).toBitVec = 1#32 from rfl, e, Int32.toBitVec_shiftRight, BitVec.sshiftRight_eq', nI_smod hq, BitVec.getLsbD_sshiftRight]
  unfold bI
  cases x.toBitVec.getLsbD q <;> simp [hq]
