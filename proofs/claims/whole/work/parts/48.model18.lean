/-! ===== the reference: feigned moods ===== -/
theorem feltL_mo {mo mo' : xN} (N : xN) : ∀ k, (∀ i, i < 3 * k → mo' i = mo i) → feltL mo' N k = feltL mo N k
  | 0, _ => rfl
  | k + 1, h => by
    rw [feltL, feltL, feltL_mo N k (fun i hi => h i (by omega)), feltF, feltF, h (3 * k + 2) (by omega), h (3 * k) (by omega)]
theorem caP_mo {mo mo' : xN} (ns sp : Int32) (N : xN) (q : Int32) : ∀ k, k ≤ 26 → (∀ i, i < 3 * k → mo' i = mo i) → caP ns sp mo' N q k = caP ns sp mo N q k
  | 0, _, _ => rfl
  | k + 1, hk, h => by
    have ih := caP_mo ns sp N q k (by omega) (fun i hi => h i (by omega))
    have e : isC ns sp mo' N q k = isC ns sp mo N q k := by
      unfold isC
      rw [h (3 * k + 1) (by omega), h (3 * k + 2) (by omega)]
    rw [caP, caP, ih, e, h (3 * k + 2) (by omega)]
    rcases caP_in ns sp mo N q k with h1 | ⟨c, h1, h2⟩
    · rw [h1]
      simp
    · rw [h2, nI_clamp (by omega), h (3 * c + 2) (by omega)]
/-- all that a day of m moods needs of the told is the same -/
def eqTm (m : Nat) (s : xN) (a : Nat → xN) (s' : xN) (a' : Nat → xN) : Prop := (s' 0 = s 0 ∧ s' 3 = s 3 ∧ s' 4 = s 4 ∧ s' 5 = s 5 ∧ s' 7 = s 7 ∧ s' 30 = s 30 ∧ s' 31 = s 31) ∧ a' 6 = a 6 ∧ a' 8 = a 8 ∧ ∀ i, i < 3 * m → a' 10 i = a 10 i
theorem minP_mo {s s' : xN} {a a' : Nat → xN} {m : Nat} (hm : m ≤ 26) (h : eqTm m s a s' a') (N : xN) : minP s' a' m N = minP s a m N := by
  obtain ⟨⟨h0, h3, h4, h5, h7, h30, h31⟩, a6, a8, a10⟩ := h
  have t : ∀ (N : xN) (k : Nat), tramF s' a' m N k = tramF s a m N k := by
    intro N k
    unfold tramF
    rw [h0, h3, h4, h5, h7, h30, h31, a6, a8, caP_mo (s 30) (s 31) N (N (1 + k)) m hm a10]
  unfold minP
  rw [t, t, feltL_mo N m a10]
theorem goL_mo {s s' : xN} {a a' : Nat → xN} {m : Nat} (hm : m ≤ 26) (h : eqTm m s a s' a') (N : xN) : ∀ n, goL s' a' m N n = goL s a m N n
  | 0 => rfl
  | n + 1 => by rw [goL, goL, goL_mo hm h N n, minP_mo hm h]
theorem dq_mo {s s' : xN} {a a' : Nat → xN} {m : Nat} (hm : m ≤ 26) (h : eqTm m s a s' a') : dq s' a' m = dq s a m := by
  unfold dq dayP
  rw [goL_mo hm h, h.2.1, h.2.2.1]
def kindP (ns : Int32) : Int32 := if ns = 0 ∨ hasP ns 0 = true then 0 else if hasP ns 1 = true then 1 else 2
def up3 (f : xN) (m : Nat) (w k t : Int32) : xN := upd (upd (upd f (3 * m) w) (3 * m + 1) k) (3 * m + 2) t
/-- the moods' row with so many feigned behind m told -/
def feM (f : xN) (m : Nat) (p kd : Int32) (y z : Nat) : Nat → xN
  | 0 => f
  | 1 => up3 f m p kd (nI y)
  | _ => up3 (up3 f m p kd (nI y)) (m + 1) p kd (nI z)
/-- the best so far: the minute, how many, which -/
def bstP (v : Int32) (q y z : Nat) (b : xN) : xN := if v < b 0 then upd (upd (upd (upd b 0 v) 1 (nI q)) 2 (if 0 < q then nI y else -1)) 3 (if 1 < q then nI z else -1) else b
