/-! ===== the reference: a halt, a minute ===== -/
def haltA (N : xN) (k c h : Nat) : xN :=
  let A1 := upd N (93 + 4 * h) (nI k)
  let A2 := upd A1 (93 + 4 * h + 1) (A1 (1 + k))
  let A3 := upd A2 (93 + 4 * h + 2) (A2 0)
  let A4 := upd A3 (93 + 4 * h + 3) (nI c)
  let A5 := upd A4 (7 + k) (A4 (7 + k) + 1)
  let A6 := upd A5 (5 + k) 1
  upd A6 (67 + c) 1
def offT (B : xN) (k q : Nat) : xN :=
  let B1 := upd B (9 + q) (B (1 + k))
  let B2 := upd B1 (25 + q) (B1 0)
  upd B2 (17 + q) (-1)
def offU (B : xN) (k q : Nat) : xN :=
  let B1 := upd B (9 + q) (B (9 + q))
  let B2 := upd B1 (25 + q) (-1)
  upd B2 (17 + q) (nI k)
def offS (fo : Int32) (pe : xN) (k q : Nat) (S : xN × Int32) : xN × Int32 := if hasP fo (nI q) = true ∧ S.1 (17 + q) = nI k then (if pe (2 * q + 1) = S.1 (1 + k) then (offT S.1 k q, S.2 + 0) else (offU S.1 k q, S.2 + 1)) else S
def offL (fo : Int32) (pe : xN) (k : Nat) (N : xN) : Nat → xN × Int32
  | 0 => (N, 0)
  | q + 1 => offS fo pe k q (offL fo pe k N q)
def onS (fo se : Int32) (k q : Nat) (S : xN × Int32) : xN × Int32 := if hasP fo (nI q) = true ∧ S.1 (17 + q) = -1 ∧ S.1 (25 + q) = -1 ∧ S.1 (9 + q) = S.1 (1 + k) ∧ S.2 < se then (upd S.1 (17 + q) (nI k), S.2 + 1) else S
def onL (fo se : Int32) (k : Nat) (S : xN × Int32) : Nat → xN × Int32
  | 0 => S
  | q + 1 => onS fo se k q (onL fo se k S q)
def haltP (fo se : Int32) (pe N : xN) (k c h : Nat) : xN := (onL fo se k (offL fo pe k (haltA N k c h) 8) 8).1
set_option maxHeartbeats 4000000 in
theorem c8_haltBy (L : xLn) (s : xN) (j : Int64) (a : Nat → xN) (N : xN) (k c h : Nat) (hk : k < 2) (hc : c < 26) (hh : N 7 + N 8 = nI h) (hh2 : h < 120) : CT L mX8_haltBy 1 0 0 [.ref 0, .int (nI k), .int (nI c)] (modN s j a N) (fun r Y => r = none ∧ Y = modN s j a (haltP (s 7) (s 3) (a 8) N k c h)) := by
  refine CT.of rfl (Nat.le_of_ble_eq_true rfl) (Nat.le_of_ble_eq_true rfl) ?_
  -- getting on
  have l2 : ∀ (n q : Nat) (S : xN × Int32) (x6 : Option Value), q + n = 8 → xokv 13 (x6.getD .null) = true → AJ L mX8_haltBy 1 0 0 (fun r Y => r = none ∧ Y = modN s j a (onL (s 7) (s 3) k S 8).1) (modN s j a N).length (0, 0) 261 [some (.ref 0), some (.int (nI k)), some (.int (nI c)), some (.int (nI (93 + 4 * h))), some (.int (onL (s 7) (s 3) k S q).2), some (.int (nI q)), x6] [] (modN s j a (onL (s 7) (s 3) k S q).1) := by
    intro n
    induction n with
    | zero =>
      intro q S x6 hq hx
      obtain rfl : q = 8 := by omega
      exact AJ.run kX8_haltBy [261] 60 ⟨fun h => ⟨rfl, rfl⟩, fun h => absurd (by decide) h⟩
    | succ n ih =>
      intro q S x6 hq hx
      have h2 := ih (q + 1) S x6 (by omega) hx
      rw [nI_succ, show onL (s 7) (s 3) k S (q + 1) = onS (s 7) (s 3) k q (onL (s 7) (s 3) k S q) from rfl] at h2
      generalize onL (s 7) (s 3) k S q = B at h2 ⊢
      refine AJ.run kX8_haltBy [261] 60 ⟨fun hz => absurd hz (nI_ge (b := 8) (by omega) (by omega)), fun hz => ?_⟩
      refine AJ.callS kX8_haltBy (c8_has L (s 7) (nI q)) bX8_has rfl (by decide +kernel) [] [] rfl rfl rfl rfl ?_ rfl rfl ?_
      · cases x6 with
        | none => rfl
        | some u => simpa [xwf, xokv, modN, modW, xoke] using hx
      rintro r Y ⟨rfl, rfl⟩
      have skip : ¬ (hasP (s 7) (nI q) = true ∧ B.1 (17 + q) = -1 ∧ B.1 (25 + q) = -1 ∧ B.1 (9 + q) = B.1 (1 + k) ∧ B.2 < s 3) → AJ L mX8_haltBy 1 0 0 (fun r Y => r = none ∧ Y = modN s j a (onL (s 7) (s 3) k S 8).1) (modN s j a N).length (0, 0) 352 [some (.ref 0), some (.int (nI k)), some (.int (nI c)), some (.int (nI (93 + 4 * h))), some (.int B.2), some (.int (nI q)), x6] [] (modN s j a B.1) := by
        intro hn
        rw [onS, if_neg hn] at h2
        exact AJ.run kX8_haltBy [261] 60 h2
      refine ⟨rfl, AJ.run kX8_haltBy [261, 352] 60 ⟨fun h3 => skip ?_, fun h3 => ⟨17 + q, nI_add 17 q, by omega, fun h4 => skip ?_, fun h4 => ⟨25 + q, nI_add 25 q, by omega, fun h5 => skip ?_, fun h5 => ⟨9 + q, nI_add 9 q, by omega, 1 + k, nI_add 1 k, by omega, fun h6 => skip ?_, fun h6 => ⟨fun h7 => skip ?_, fun h7 => ⟨17 + q, nI_add 17 q, by omega, ?_⟩⟩⟩⟩⟩⟩⟩
      · rw [bI_eq0] at h3
        simp [h3]
      · have h4 : ¬ B.1 (17 + q) = -1 := h4
        simp [h4]
      · have h5 : ¬ B.1 (25 + q) = -1 := h5
        simp [h5]
      · have h6 : ¬ B.1 (9 + q) = B.1 (1 + k) := h6
        simp [h6]
      · have h7 : s 3 ≤ B.2 := h7
        rintro ⟨-, -, -, -, h8⟩
        simp only [i32_lt, i32_le] at h7 h8
        omega
      · have h4 : B.1 (17 + q) = -1 := h4
        have h5 : B.1 (25 + q) = -1 := h5
        have h6 : B.1 (9 + q) = B.1 (1 + k) := h6
        have h7 : ¬ s 3 ≤ B.2 := h7
        have h8 : B.2 < s 3 := by
          simp only [i32_lt, i32_le] at h7 ⊢
          omega
        rw [bI_ne0] at h3
        rw [onS, if_pos ⟨h3, h4, h5, h6, h8⟩] at h2
        exact AJ.run kX8_haltBy [261] 60 h2
  -- getting off
  have l1 : ∀ (n q : Nat) (A : xN) (x6 : Option Value), q + n = 8 → xokv 13 (x6.getD .null) = true → AJ L mX8_haltBy 1 0 0 (fun r Y => r = none ∧ Y = modN s j a (onL (s 7) (s 3) k (offL (s 7) (a 8) k A 8) 8).1) (modN s j a N).length (0, 0) 94 [some (.ref 0), some (.int (nI k)), some (.int (nI c)), some (.int (nI (93 + 4 * h))), some (.int (offL (s 7) (a 8) k A q).2), some (.int (nI q)), x6] [] (modN s j a (offL (s 7) (a 8) k A q).1) := by
    intro n
    induction n with
    | zero =>
      intro q A x6 hq hx
      obtain rfl : q = 8 := by omega
      exact AJ.run kX8_haltBy [94, 261] 60 ⟨fun h => l2 8 0 (offL (s 7) (a 8) k A 8) x6 rfl hx, fun h => absurd (by decide) h⟩
    | succ n ih =>
      intro q A x6 hq hx
      have h2 := fun x6' hx' => ih (q + 1) A x6' (by omega) hx'
      rw [nI_succ, show offL (s 7) (a 8) k A (q + 1) = offS (s 7) (a 8) k q (offL (s 7) (a 8) k A q) from rfl] at h2
      generalize offL (s 7) (a 8) k A q = B at h2 ⊢
      refine AJ.run kX8_haltBy [94] 60 ⟨fun hz => absurd hz (nI_ge (b := 8) (by omega) (by omega)), fun hz => ?_⟩
      refine AJ.callS kX8_haltBy (c8_has L (s 7) (nI q)) bX8_has rfl (by decide +kernel) [] [] rfl rfl rfl rfl ?_ rfl rfl ?_
      · cases x6 with
        | none => rfl
        | some u => simpa [xwf, xokv, modN, modW, xoke] using hx
      rintro r Y ⟨rfl, rfl⟩
      refine ⟨rfl, AJ.run kX8_haltBy [94] 120 ⟨fun h3 => ?_, fun h3 => ⟨17 + q, nI_add 17 q, by omega, fun h4 => ?_, fun h4 => ⟨2 * q + 1, by simp only [fa_lit, nI_add, pk_mul], by omega, 1 + k, nI_add 1 k, by omega, fun h5 => ⟨fun _ => ⟨9 + q, nI_add 9 q, by omega, 9 + q, nI_add 9 q, by omega, fun _ => ⟨25 + q, nI_add 25 q, by omega, fun _ => ⟨17 + q, nI_add 17 q, by omega, fun _ => ?_, fun hz => absurd rfl hz⟩, fun hz => absurd rfl hz⟩, fun hz => absurd rfl hz⟩, fun hz => absurd rfl hz⟩, fun h5 => ⟨fun hz => absurd hz (by decide), fun _ => ⟨1 + k, nI_add 1 k, by omega, 9 + q, nI_add 9 q, by omega, fun hz => absurd hz (by decide), fun _ => ⟨0, rfl, by omega, 25 + q, nI_add 25 q, by omega, fun hz => absurd hz (by decide), fun _ => ⟨17 + q, nI_add 17 q, by omega, fun hz => absurd hz (by decide), fun _ => ?_⟩⟩⟩⟩⟩⟩⟩⟩
      · rw [bI_eq0] at h3
        have h2 := h2 x6 hx
        rw [offS, if_neg (by simp [h3])] at h2
        exact h2
      · have h4 : ¬ B.1 (17 + q) = nI k := h4
        have h2 := h2 x6 hx
        rw [offS, if_neg (by simp [h4])] at h2
        exact h2
      · have h4 : B.1 (17 + q) = nI k := h4
        have h5 : ¬ a 8 (2 * q + 1) = B.1 (1 + k) := h5
        rw [bI_ne0] at h3
        have h2 := h2 (some (.int 0)) rfl
        rw [offS, if_pos ⟨h3, h4⟩, if_neg h5] at h2
        exact h2
      · have h4 : B.1 (17 + q) = nI k := h4
        have h5 : a 8 (2 * q + 1) = B.1 (1 + k) := h5
        rw [bI_ne0] at h3
        have h2 := h2 (some (.int 1)) rfl
        rw [offS, if_pos ⟨h3, h4⟩, if_pos h5] at h2
        exact h2
  refine AJ.run kX8_haltBy [] 60 ?_
  refine AJ.callV kX8_haltBy (c8_haltMany L s j (va_up a 26 N)) bX8_haltMany rfl (by decide +kernel) [0, 1, 2, 3, 4, 5, 6, 7, 8, 9, 10, 11, 12] [.int 4, .int 93] rfl rfl rfl rfl rfl rfl rfl rfl rfl rfl ?_
  rintro r Y ⟨rfl, rfl⟩
  refine ⟨rfl, ?_⟩
  have e1 : (93 : Int32) + 4 * (N 7 + N 8) = nI (93 + 4 * h) := by rw [hh]; simp only [fa_lit, nI_add, pk_mul]
  have go : AJ L mX8_haltBy 1 0 0 (fun r Y => r = none ∧ Y = modN s j a (haltP (s 7) (s 3) (a 8) N k c h)) (modN s j a N).length (0, 0) 9 [some (.ref 0), some (.int (nI k)), some (.int (nI c)), none, none, none, none] [.int (nI (93 + 4 * h))] (modN s j a N) := by
    exact AJ.run kX8_haltBy [94] 100 ⟨93 + 4 * h, rfl, by omega, 1 + k, nI_add 1 k, by omega, 93 + 4 * h + 1, nI_add _ 1, by omega, 0, rfl, by omega, 93 + 4 * h + 2, nI_add _ 2, by omega, 93 + 4 * h + 3, nI_add _ 3, by omega, 7 + k, nI_add 7 k, by omega, 7 + k, nI_add 7 k, by omega, 5 + k, nI_add 5 k, by omega, 67 + c, nI_add 67 c, by omega, l1 8 0 (haltA N k c h) none rfl rfl⟩
  rw [← e1] at go
  exact AJ.run kX8_haltBy [9] 60 go
