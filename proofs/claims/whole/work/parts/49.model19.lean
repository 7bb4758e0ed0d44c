/-! ===== the reference: feigned ===== -/
theorem up3_mo {f g : xN} {m : Nat} (h : ∀ i, i < 3 * m → f i = g i) (w k t : Int32) : ∀ i, i < 3 * (m + 1) → up3 f m w k t i = up3 g m w k t i := by
  intro i hi
  unfold up3
  by_cases e2 : i = 3 * m + 2
  · subst e2; rw [pk_us, pk_us]
  rw [pk_un e2, pk_un e2]
  by_cases e1 : i = 3 * m + 1
  · subst e1; rw [pk_us, pk_us]
  rw [pk_un e1, pk_un e1]
  by_cases e0 : i = 3 * m
  · subst e0; rw [pk_us, pk_us]
  rw [pk_un e0, pk_un e0]
  exact h i (by omega)
theorem up3_lo {f : xN} {m i : Nat} (hi : i < 3 * m) (w k t : Int32) : up3 f m w k t i = f i := by
  unfold up3
  rw [pk_un (by omega), pk_un (by omega), pk_un (by omega)]
theorem feM_mo {f g : xN} {m : Nat} (h : ∀ i, i < 3 * m → f i = g i) (p kd : Int32) (y z : Nat) {q : Nat} (hq : q ≤ 2) : ∀ i, i < 3 * (m + q) → feM f m p kd y z q i = feM g m p kd y z q i := by
  rcases (show q = 0 ∨ q = 1 ∨ q = 2 by omega) with rfl | rfl | rfl
  · exact h
  · exact up3_mo h p kd (nI y)
  · exact up3_mo (up3_mo h p kd (nI y)) p kd (nI z)
theorem feM_lo {f : xN} {m i : Nat} (hi : i < 3 * m) (p kd : Int32) (y z : Nat) {q : Nat} (hq : q ≤ 2) : feM f m p kd y z q i = f i := by
  rcases (show q = 0 ∨ q = 1 ∨ q = 2 by omega) with rfl | rfl | rfl
  · rfl
  · exact up3_lo hi p kd (nI y)
  · exact (up3_lo (by omega) p kd (nI z)).trans (up3_lo hi p kd (nI y))
/-- when one is home if it feigns so -/
def feV (s : xN) (a : Nat → xN) (m p q y z : Nat) : Int32 := lateP (dq (feS s m q) (feA s a m p y z q) (m + q)) p
theorem feS_lo (s : xN) (m q : Nat) {i : Nat} (hi : i < 15) : feS s m q i = s i := by
  unfold feS toldP
  rw [pk_un (by omega), pk_un (by omega), pk_un (by omega), pk_un (by omega)]
theorem feV_kept {s : xN} {a : Nat → xN} {s' : xN} {a' : Nat → xN} {m p q y z : Nat} (hm : m ≤ 24) (hq : q ≤ 2) (hK : keptM m s a s' a') : dq (feS s' m q) (feA s' a' m p y z q) (m + q) = dq (feS s m q) (feA s a m p y z q) (m + q) := by
  refine dq_mo (by omega) ?_
  refine ⟨⟨?_, ?_, ?_, ?_, ?_, ?_, ?_⟩, hK.2.1.1, hK.2.1.2.1, ?_⟩
  · rw [feS_lo s' m q (by omega), feS_lo s m q (by omega)]; exact hK.1 0 (by omega)
  · rw [feS_lo s' m q (by omega), feS_lo s m q (by omega)]; exact hK.1 3 (by omega)
  · rw [feS_lo s' m q (by omega), feS_lo s m q (by omega)]; exact hK.1 4 (by omega)
  · rw [feS_lo s' m q (by omega), feS_lo s m q (by omega)]; exact hK.1 5 (by omega)
  · rw [feS_lo s' m q (by omega), feS_lo s m q (by omega)]; exact hK.1 7 (by omega)
  · exact hK.1 1 (by omega)
  · exact hK.1 2 (by omega)
  · show ∀ i, i < 3 * (m + q) → feM (a' 10) m (nI p) (kindP (s' 1)) y z q i = feM (a 10) m (nI p) (kindP (s 1)) y z q i
    rw [hK.1 1 (by omega)]
    exact feM_mo hK.2.2.1 _ _ y z hq
theorem okT.kept {s : xN} {a : Nat → xN} {m : Nat} (h : okT s a m) {s' : xN} {a' : Nat → xN} (hK : keptM m s a s' a') : okT s' a' m :=
  ⟨(hK.1 9 (by omega)).trans h.1, h.2.1, fun k hk => by rw [hK.2.2.1 (3 * k) (by omega)]; exact h.2.2 k hk⟩
def tfQ (m : Nat) (s : xN) (j : Int64) (a : Nat → xN) (b : xN) : Option Value → List xE → Prop := fun r Y => r = none ∧ ∃ s' a', Y = modW s' j a' ∧ keptM m s a s' a' ∧ a' 33 = b
theorem c8_tf (L : xLn) (s : xN) (j : Int64) (a : Nat → xN) (m p q y z : Nat) (hp : p < 8) (hq : q ≤ 2) (hok : okT s a m) (s' : xN) (a' : Nat → xN) (hK : keptM m s a s' a') : CT L mX8_tryFeigned 4 0 0 [.ref 0, .int (nI p), .int (nI q), .int (nI y), .int (nI z)] (modW s' j a') (tfQ m s j a (bstP (feV s a m p q y z) q y z (a' 33))) := by
  refine (c8_tryFeigned L s' j a' m p q y z hp hq (hok.kept hK)).mono ?_
  rintro r Y ⟨rfl, N, A, B, hN, hB, rfl⟩
  have e : lateP N p = feV s a m p q y z := by
    obtain ⟨-, h', e1, e2, e3⟩ := hN
    rw [lateP_ag e3 hp, feV_kept hok.2.1 hq hK]
    rfl
  rw [e]
  generalize feV s a m p q y z = v
  refine ⟨rfl, _, _, rfl, ?_, rfl⟩
  obtain ⟨k1, k2, k3, k4⟩ := hK
  refine ⟨fun i hi => (feS_lo s' m q hi).trans (k1 i hi), k2, fun i hi => ?_, fun i hi => (hB i hi).trans (k4 i hi)⟩
  exact (feM_lo hi _ _ y z hq).trans (k3 i hi)
def fe1 (V : Nat → Nat → Nat → Int32) (b : xN) : Nat → xN
  | 0 => b
  | i + 1 => bstP (V 1 i 0) 1 i 0 (fe1 V b i)
def fe2i (V : Nat → Nat → Nat → Int32) (y : Nat) (b : xN) : Nat → xN
  | 0 => b
  | i + 1 => bstP (V 2 y (y + 1 + i)) 2 y (y + 1 + i) (fe2i V y b i)
def fe2 (V : Nat → Nat → Nat → Int32) (b : xN) : Nat → xN
  | 0 => b
  | y + 1 => fe2i V y (fe2 V b y) (59 - y)
def fe0 (b : xN) : xN := upd (upd (upd (upd b 0 60) 1 (-1)) 2 (-1)) 3 (-1)
def feB (V : Nat → Nat → Nat → Int32) (n : Nat) (b : xN) : xN := if 1 < n then fe2 V (fe1 V (bstP (V 0 0 0) 0 0 0 (fe0 b)) 60) 60 else if 0 < n then fe1 V (bstP (V 0 0 0) 0 0 0 (fe0 b)) 60 else bstP (V 0 0 0) 0 0 0 (fe0 b)
