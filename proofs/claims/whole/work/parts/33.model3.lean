/-! ===== the reference: a minute, a day ===== -/
def bg1 (tr N : xN) : Nat → xN
  | 0 => upd N 0 0
  | k + 1 => upd (upd (upd (upd (bg1 tr N k) (1 + k) (tr (3 * k))) (3 + k) (tr (3 * k + 2))) (5 + k) 0) (7 + k) 0
def bg2 (pe N : xN) : Nat → xN
  | 0 => N
  | k + 1 => upd (upd (upd (upd (bg2 pe N k) (9 + k) (pe (2 * k))) (17 + k) (-1)) (25 + k) (-1)) (33 + k) 0
def bg3 (N : xN) : Nat → xN
  | 0 => N
  | k + 1 => upd (upd (bg3 N k) (41 + k) (-1)) (67 + k) 0
def beginP (tr pe N : xN) : xN := bg3 (bg2 pe (bg1 tr N 2) 8) 26
set_option maxHeartbeats 2000000 in
theorem c8_begin (L : xLn) (s : xN) (j : Int64) (a : Nat → xN) (N : xN) : CT L mX8_begin 0 0 0 [.ref 0] (modN s j a N) (fun r Y => r = none ∧ Y = modN s j a (beginP (a 6) (a 8) N)) := by
  refine CT.of rfl (Nat.le_of_ble_eq_true rfl) (Nat.le_of_ble_eq_true rfl) ?_
  have l3 : ∀ (n k : Nat) (B : xN), k + n = 26 → AJ L mX8_begin 0 0 0 (fun r Y => r = none ∧ Y = modN s j a (bg3 B 26)) (modN s j a N).length (0, 0) 136 [some (.ref 0), some (.int (nI k))] [] (modN s j a (bg3 B k)) := by
    intro n
    induction n with
    | zero =>
      intro k B hk
      obtain rfl : k = 26 := by omega
      exact AJ.run kX8_begin [136] 60 ⟨fun h => ⟨rfl, rfl⟩, fun h => absurd (by decide) h⟩
    | succ n ih =>
      intro k B hk
      have h2 := ih (k + 1) B (by omega)
      rw [nI_succ] at h2
      exact AJ.run kX8_begin [136] 60 ⟨fun h => absurd h (nI_ge (b := 26) (by omega) (by omega)), fun h => ⟨41 + k, nI_add 41 k, by omega, 67 + k, nI_add 67 k, by omega, h2⟩⟩
  have l2 : ∀ (n k : Nat) (B : xN), k + n = 8 → AJ L mX8_begin 0 0 0 (fun r Y => r = none ∧ Y = modN s j a (bg3 (bg2 (a 8) B 8) 26)) (modN s j a N).length (0, 0) 75 [some (.ref 0), some (.int (nI k))] [] (modN s j a (bg2 (a 8) B k)) := by
    intro n
    induction n with
    | zero =>
      intro k B hk
      obtain rfl : k = 8 := by omega
      exact AJ.run kX8_begin [75, 136] 60 ⟨fun h => l3 26 0 (bg2 (a 8) B 8) rfl, fun h => absurd (by decide) h⟩
    | succ n ih =>
      intro k B hk
      have h2 := ih (k + 1) B (by omega)
      rw [nI_succ] at h2
      exact AJ.run kX8_begin [75, 136] 60 ⟨fun h => absurd h (nI_ge (b := 8) (by omega) (by omega)), fun h => ⟨2 * k, by simp only [fa_lit, pk_mul], by omega, 9 + k, nI_add 9 k, by omega, 17 + k, nI_add 17 k, by omega, 25 + k, nI_add 25 k, by omega, 33 + k, nI_add 33 k, by omega, h2⟩⟩
  have l1 : ∀ (n k : Nat), k + n = 2 → AJ L mX8_begin 0 0 0 (fun r Y => r = none ∧ Y = modN s j a (beginP (a 6) (a 8) N)) (modN s j a N).length (0, 0) 9 [some (.ref 0), some (.int (nI k))] [] (modN s j a (bg1 (a 6) N k)) := by
    intro n
    induction n with
    | zero =>
      intro k hk
      obtain rfl : k = 2 := by omega
      exact AJ.run kX8_begin [9, 75] 60 ⟨fun h => l2 8 0 (bg1 (a 6) N 2) rfl, fun h => absurd (by decide) h⟩
    | succ n ih =>
      intro k hk
      have h2 := ih (k + 1) (by omega)
      rw [nI_succ] at h2
      exact AJ.run kX8_begin [9, 75] 60 ⟨fun h => absurd h (nI_ge (b := 2) (by omega) (by omega)), fun h => ⟨3 * k, by simp only [fa_lit, pk_mul], by omega, 1 + k, nI_add 1 k, by omega, 3 * k + 2, by simp only [fa_lit, nI_add, pk_mul], by omega, 3 + k, nI_add 3 k, by omega, 5 + k, nI_add 5 k, by omega, 7 + k, nI_add 7 k, by omega, h2⟩⟩
  exact AJ.run kX8_begin [9] 60 ⟨0, rfl, by omega, l1 2 0 rfl⟩
/-- tram k goes on: its way, its place -/
def wayP (pl : Int32) (N : xN) (k : Nat) : Int32 := if (if N (3 + k) = 0 then N (1 + k) = pl - 1 else N (1 + k) = 0) then 1 - N (3 + k) else N (3 + k)
def onA (pl : Int32) (N : xN) (k : Nat) : xN := upd (upd (upd N (3 + k) (wayP pl N k)) (1 + k) (N (1 + k) + (if wayP pl N k = 0 then 1 else -1))) (5 + k) 0
/-- what those aboard of k owe -/
def oweL (fo fa : Int32) (k : Nat) (N : xN) : Nat → xN
  | 0 => N
  | q + 1 => upd (oweL fo fa k N q) (33 + q) (oweL fo fa k N q (33 + q) + (if hasP fo (nI q) = true ∧ oweL fo fa k N q (17 + q) = nI k then fa else 0))
def goOnP (pl fo fa : Int32) (N : xN) (k : Nat) : xN := oweL fo fa k (onA pl N k) 8
set_option maxHeartbeats 4000000 in
theorem c8_goOn (L : xLn) (s : xN) (j : Int64) (a : Nat → xN) (N : xN) (k : Nat) (hk : k < 2) : CT L mX8_goOn 1 0 0 [.ref 0, .int (nI k)] (modN s j a N) (fun r Y => r = none ∧ Y = modN s j a (goOnP (s 0) (s 7) (s 4) N k)) := by
  refine CT.of rfl (Nat.le_of_ble_eq_true rfl) (Nat.le_of_ble_eq_true rfl) ?_
  have loop : ∀ (n q : Nat) (B : xN) (x2 : Int32), q + n = 8 → AJ L mX8_goOn 1 0 0 (fun r Y => r = none ∧ Y = modN s j a (oweL (s 7) (s 4) k B 8)) (modN s j a N).length (0, 0) 124 [some (.ref 0), some (.int (nI k)), some (.int x2), some (.int (nI q))] [] (modN s j a (oweL (s 7) (s 4) k B q)) := by
    intro n
    induction n with
    | zero =>
      intro q B x2 hq
      obtain rfl : q = 8 := by omega
      exact AJ.run kX8_goOn [124] 60 ⟨fun h => ⟨rfl, rfl⟩, fun h => absurd (by decide) h⟩
    | succ n ih =>
      intro q B x2 hq
      have h2 := ih (q + 1) B x2 (by omega)
      rw [nI_succ] at h2
      have tail : ∀ v : Int32, v = (if hasP (s 7) (nI q) = true ∧ oweL (s 7) (s 4) k B q (17 + q) = nI k then s 4 else 0) → AJ L mX8_goOn 1 0 0 (fun r Y => r = none ∧ Y = modN s j a (oweL (s 7) (s 4) k B 8)) (modN s j a N).length (0, 0) 172 [some (.ref 0), some (.int (nI k)), some (.int x2), some (.int (nI q))] [.int v, .int (oweL (s 7) (s 4) k B q (33 + q)), .int (33 + nI q), .ref 7] (modN s j a (oweL (s 7) (s 4) k B q)) := by
        intro v hv
        subst hv
        exact AJ.run kX8_goOn [124] 60 ⟨33 + q, nI_add 33 q, by omega, h2⟩
      refine AJ.run kX8_goOn [124] 60 ⟨fun h => absurd h (nI_ge (b := 8) (by omega) (by omega)), fun h => ⟨33 + q, nI_add 33 q, by omega, ?_⟩⟩
      refine AJ.callS kX8_goOn (c8_has L (s 7) (nI q)) bX8_has rfl (by decide +kernel) [] [.int (oweL (s 7) (s 4) k B q (33 + q)), .int (33 + nI q), .ref 7] rfl rfl rfl rfl rfl rfl rfl ?_
      rintro r Y ⟨rfl, rfl⟩
      refine ⟨rfl, AJ.run kX8_goOn [172] 60 ⟨fun h3 => tail 0 ?_, fun h3 => ⟨17 + q, nI_add 17 q, by omega, fun h4 => tail 0 ?_, fun h4 => tail (s 4) ?_⟩⟩⟩
      · rw [bI_eq0] at h3
        rw [if_neg]
        simp [h3]
      · have h4 : ¬ oweL (s 7) (s 4) k B q (17 + q) = nI k := h4
        rw [if_neg]
        simp [h4]
      · have h4 : oweL (s 7) (s 4) k B q (17 + q) = nI k := h4
        rw [bI_ne0] at h3
        rw [if_pos ⟨h3, h4⟩]
  -- the way and the place
  have t3 : ∀ v : Int32, v = (if wayP (s 0) N k = 0 then 1 else -1) → ∀ x2 : Int32, AJ L mX8_goOn 1 0 0 (fun r Y => r = none ∧ Y = modN s j a (goOnP (s 0) (s 7) (s 4) N k)) (modN s j a N).length (0, 0) 111 [some (.ref 0), some (.int (nI k)), some (.int x2), none] [.int v, .int (N (1 + k)), .int (1 + nI k), .ref 7] (modN s j a (upd N (3 + k) (wayP (s 0) N k))) := by
    intro v hv x2
    subst hv
    exact AJ.run kX8_goOn [124] 60 ⟨1 + k, nI_add 1 k, by omega, 5 + k, nI_add 5 k, by omega, loop 8 0 (onA (s 0) N k) x2 rfl⟩
  have t2 : ∀ x2 : Int32, AJ L mX8_goOn 1 0 0 (fun r Y => r = none ∧ Y = modN s j a (goOnP (s 0) (s 7) (s 4) N k)) (modN s j a N).length (0, 0) 85 [some (.ref 0), some (.int (nI k)), some (.int x2), none] [.int (wayP (s 0) N k), .int (3 + nI k), .ref 7] (modN s j a N) := by
    intro x2
    have e1 : upd N (3 + k) (wayP (s 0) N k) (1 + k) = N (1 + k) := pk_un (by omega)
    have e2 : upd N (3 + k) (wayP (s 0) N k) (3 + k) = wayP (s 0) N k := pk_us
    refine AJ.run kX8_goOn [111] 60 ⟨3 + k, nI_add 3 k, by omega, 1 + k, nI_add 1 k, by omega, 3 + k, nI_add 3 k, by omega, fun h => ?_, fun h => ?_⟩
    · have h : ¬ upd N (3 + k) (wayP (s 0) N k) (3 + k) = 0 := h
      have := t3 (-1) (by rw [e2] at h; rw [if_neg h]) x2
      rw [← e1] at this
      exact this
    · have h : upd N (3 + k) (wayP (s 0) N k) (3 + k) = 0 := h
      have := t3 1 (by rw [e2] at h; rw [if_pos h]) x2
      rw [← e1] at this
      exact this
  have t1 : ∀ b : Bool, b = decide (if N (3 + k) = 0 then N (1 + k) = s 0 - 1 else N (1 + k) = 0) → AJ L mX8_goOn 1 0 0 (fun r Y => r = none ∧ Y = modN s j a (goOnP (s 0) (s 7) (s 4) N k)) (modN s j a N).length (0, 0) 52 [some (.ref 0), some (.int (nI k)), none, none] [.int (bI b)] (modN s j a N) := by
    intro b hb
    refine AJ.run kX8_goOn [85] 60 ⟨fun h => ⟨3 + k, nI_add 3 k, by omega, ?_⟩, fun h => ⟨3 + k, nI_add 3 k, by omega, ?_⟩⟩
    · rw [bI_eq0] at h
      subst h
      have e : wayP (s 0) N k = N (3 + k) := by
        rw [wayP, if_neg]
        exact of_decide_eq_false hb.symm
      have := t2 (bI false)
      rw [e] at this
      exact this
    · rw [bI_ne0] at h
      subst h
      have e : wayP (s 0) N k = 1 - N (3 + k) := by
        rw [wayP, if_pos]
        exact of_decide_eq_true hb.symm
      have := t2 (bI true)
      rw [e] at this
      exact this
  refine AJ.run kX8_goOn [52] 60 ⟨3 + k, nI_add 3 k, by omega, fun h => ⟨1 + k, nI_add 1 k, by omega, fun h2 => t1 false ?_, fun h2 => t1 true ?_⟩, fun h => ⟨1 + k, nI_add 1 k, by omega, fun h2 => t1 false ?_, fun h2 => t1 true ?_⟩⟩
  · have h : ¬ N (3 + k) = 0 := h
    have h2 : ¬ N (1 + k) = 0 := h2
    simp [h, h2]
  · have h : ¬ N (3 + k) = 0 := h
    have h2 : N (1 + k) = 0 := h2
    simp [h, h2]
  · have h : N (3 + k) = 0 := h
    have h2 : ¬ N (1 + k) = s 0 - 1 := h2
    simp [h, h2]
  · have h : N (3 + k) = 0 := h
    have h2 : N (1 + k) = s 0 - 1 := h2
    simp [h, h2]
