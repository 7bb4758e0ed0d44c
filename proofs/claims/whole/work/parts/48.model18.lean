/-! ===== the reference: feigned moods ===== -/
theorem feltL_mo {mo mo' : xN} (N : xN) : ∀ k, (∀ i, i < 3 * k → mo' i = mo i) → feltL mo' N k = feltL mo N k
  | 0, _ => rfl
  | k + 1, h => by
    rw [feltL, feltL, feltL_mo N k (fun i hi => h i (by omega)), feltF, feltF, h (3 * k + 2) (by omega), h (3 * k) (by omega)]
theorem caP_mo {mo mo' : xN} (ns sp : Int32) (N : xN) (q : Int32) : ∀ k, k ≤ 26 → (∀ i, i < 3 * k → mo' i = mo i) → caP ns sp mo' N q k = caP ns sp mo N q k
  | 0, _, _ => rfl
  | k + 1, hk, h => by
    have ih := caP_mo ns sp N q k (by omega) (fun i hi => h i (by omega))
    have e : isC ns sp mo' N q k = isC ns sp mo N q k := by
      unfold isC
      rw [h (3 * k + 1) (by omega), h (3 * k + 2) (by omega)]
    rw [caP, caP, ih, e, h (3 * k + 2) (by omega)]
    rcases caP_in ns sp mo N q k with h1 | ⟨c, h1, h2⟩
    · rw [h1]
      simp
    · rw [h2, nI_clamp (by omega), h (3 * c + 2) (by omega)]
/-- all that a day of m moods needs of the told is the same -/
def eqTm (m : Nat) (s : xN) (a : Nat → xN) (s' : xN) (a' : Nat → xN) : Prop := (s' 0 = s 0 ∧ s' 3 = s 3 ∧ s' 4 = s 4 ∧ s' 5 = s 5 ∧ s' 7 = s 7 ∧ s' 30 = s 30 ∧ s' 31 = s 31) ∧ a' 6 = a 6 ∧ a' 8 = a 8 ∧ ∀ i, i < 3 * m → a' 10 i = a 10 i
theorem minP_mo {s s' : xN} {a a' : Nat → xN} {m : Nat} (hm : m ≤ 26) (h : eqTm m s a s' a') (N : xN) : minP s' a' m N = minP s a m N := by
  obtain ⟨⟨h0, h3, h4, h5, h7, h30, h31⟩, a6, a8, a10⟩ := h
  have t : ∀ (N : xN) (k : Nat), tramF s' a' m N k = tramF s a m N k := by
    intro N k
    unfold tramF
    rw [h0, h3, h4, h5, h7, h30, h31, a6, a8, caP_mo (s 30) (s 31) N (N (1 + k)) m hm a10]
  unfold minP
  rw [t, t, feltL_mo N m a10]
theorem goL_mo {s s' : xN} {a a' : Nat → xN} {m : Nat} (hm : m ≤ 26) (h : eqTm m s a s' a') (N : xN) : ∀ n, goL s' a' m N n = goL s a m N n
  | 0 => rfl
  | n + 1 => by rw [goL, goL, goL_mo hm h N n, minP_mo hm h]
theorem dq_mo {s s' : xN} {a a' : Nat → xN} {m : Nat} (hm : m ≤ 26) (h : eqTm m s a s' a') : dq s' a' m = dq s a m := by
  unfold dq dayP
  rw [goL_mo hm h, h.2.1, h.2.2.1]
def kindP (ns : Int32) : Int32 := if ns = 0 ∨ hasP ns 0 = true then 0 else if hasP ns 1 = true then 1 else 2
def up3 (f : xN) (m : Nat) (w k t : Int32) : xN := upd (upd (upd f (3 * m) w) (3 * m + 1) k) (3 * m + 2) t
/-- the moods' row with so many feigned behind m told -/
def feM (f : xN) (m : Nat) (p kd : Int32) (y z : Nat) : Nat → xN
  | 0 => f
  | 1 => up3 f m p kd (nI y)
  | _ => up3 (up3 f m p kd (nI y)) (m + 1) p kd (nI z)
/-- the best so far: the minute, how many, which -/
def bstP (v : Int32) (q y z : Nat) (b : xN) : xN := if v < b 0 then upd (upd (upd (upd b 0 v) 1 (nI q)) 2 (if 0 < q then nI y else -1)) 3 (if 1 < q then nI z else -1) else b
theorem c8_tf_tail (L : xLn) (Q : Option Value → List xE → Prop) (s : xN) (j : Int64) (a : Nat → xN) (m n0 p q y z : Nat) (x5 x6 : Int32) (hp : p < 8) (hq : q ≤ 2) (hok : okD s a m)
    (nxt : ∀ N, isDay s a m N → Q none (modW s j (va_up (aftA a N) 33 (bstP (lateP N p) q y z (a 33))))) :
    AJ L mX8_tryFeigned 4 0 0 Q n0 (0, 0) 120 [some (.ref 0), some (.int (nI p)), some (.int (nI q)), some (.int (nI y)), some (.int (nI z)), some (.int x5), some (.int x6)] [] (modW s j a) := by
  refine AJ.run kX8_tryFeigned [] 60 ?_
  refine AJ.callF kX8_tryFeigned (c8_dayA L s j a m hok) bX8_goDay rfl (by decide +kernel) [] rfl rfl rfl rfl rfl rfl rfl rfl ?_
  rintro r Y ⟨rfl, N, hN, rfl⟩
  have nxt := nxt N hN
  refine ⟨rfl, rfl, AJ.run kX8_tryFeigned [] 60 ?_⟩
  refine AJ.callF kX8_tryFeigned (c8_late L s j (va_up a 27 (cpL (a 26) 0 (a 27) 0 573)) N p hp) bX8_late rfl (by decide +kernel) [] rfl rfl rfl rfl rfl rfl rfl rfl ?_
  rintro r Y ⟨rfl, rfl⟩
  have ev : (if N (25 + p) = -1 then 60 else N (25 + p)) = lateP N p := rfl
  rw [ev]
  generalize lateP N p = v at nxt
  refine ⟨rfl, rfl, AJ.run kX8_tryFeigned [] 60 ?_⟩
  refine AJ.callF kX8_tryFeigned (c8_putBack L s j (va_up a 27 (cpL (a 26) 0 (a 27) 0 573)) N) bX8_putBack rfl (by decide +kernel) [] rfl rfl rfl rfl rfl rfl rfl rfl ?_
  rintro r Y ⟨rfl, rfl⟩
  refine ⟨rfl, rfl, AJ.run kX8_tryFeigned [] 60 ⟨0, rfl, by omega, fun h => ?_, fun h => ⟨0, rfl, by omega, 1, rfl, by omega, fun h2 => ⟨2, rfl, by omega, fun h3 => ⟨3, rfl, by omega, ?_⟩, fun h3 => ⟨3, rfl, by omega, ?_⟩⟩, fun h2 => ⟨2, rfl, by omega, fun h3 => ⟨3, rfl, by omega, ?_⟩, fun h3 => ⟨3, rfl, by omega, ?_⟩⟩⟩⟩⟩
  · have h : a 33 0 ≤ v := h
    rw [bstP, if_neg (by simp only [i32_lt, i32_le] at h ⊢; omega)] at nxt
    exact nxt
  all_goals
    have h : ¬ a 33 0 ≤ v := h
    have h' : v < a 33 0 := by simp only [i32_lt, i32_le] at h ⊢; omega
    rw [bstP, if_pos h'] at nxt
    have h2a := nI_leI (a := q) (b := 0) (by omega) (by omega)
    have h3a := nI_leI (a := q) (b := 1) (by omega) (by omega)
  · have h2 := h2a.mp h2
    have h3 := h3a.mp h3
    rw [if_neg (by omega), if_neg (by omega)] at nxt
    exact nxt
  · have h2 := h2a.mp h2
    exact absurd (h3a.mpr (by omega)) h3
  · have h3 := h3a.mp h3
    have h2 : ¬ q ≤ 0 := fun z => h2 (h2a.mpr z)
    rw [if_pos (by omega), if_neg (by omega)] at nxt
    exact nxt
  · have h3 : ¬ q ≤ 1 := fun z => h3 (h3a.mpr z)
    rw [if_pos (by omega), if_pos (by omega)] at nxt
    exact nxt
set_option maxHeartbeats 1000000 in
theorem c8_tryFeigned (L : xLn) (s : xN) (j : Int64) (a : Nat → xN) (m p q y z : Nat) (hp : p < 8) (hq : q ≤ 2) (hok : okT s a m) : CT L mX8_tryFeigned 4 0 0 [.ref 0, .int (nI p), .int (nI q), .int (nI y), .int (nI z)] (modW s j a) (fun r Y => r = none ∧ ∃ N, isDay (upd (toldP s) 32 (nI (m + q))) (va_up a 10 (feM (a 10) m (nI p) (kindP (s 1)) y z q)) (m + q) N ∧ Y = modW (upd (toldP s) 32 (nI (m + q))) j (va_up (aftA (va_up a 10 (feM (a 10) m (nI p) (kindP (s 1)) y z q)) N) 33 (bstP (lateP N p) q y z (a 33)))) := by
  obtain ⟨h9, hm, hmo⟩ := hok
  refine CT.of rfl (Nat.le_of_ble_eq_true rfl) (Nat.le_of_ble_eq_true rfl) ?_
  have okd : ∀ q', q' ≤ 2 → okD (upd (toldP s) 32 (nI (m + q'))) (va_up a 10 (feM (a 10) m (nI p) (kindP (s 1)) y z q')) (m + q') := by
    intro q' hq'
    refine ⟨rfl, by omega, fun k hk => ?_⟩
    show ∃ p', p' < 8 ∧ feM (a 10) m (nI p) (kindP (s 1)) y z q' (3 * k) = nI p'
    rcases (show q' = 0 ∨ q' = 1 ∨ q' = 2 by omega) with rfl | rfl | rfl
    · exact hmo k (by omega)
    · show ∃ p', p' < 8 ∧ up3 (a 10) m (nI p) (kindP (s 1)) (nI y) (3 * k) = nI p'
      unfold up3
      by_cases e : k = m
      · subst e
        rw [pk_un (by omega), pk_un (by omega), pk_us]
        exact ⟨p, hp, rfl⟩
      · rw [pk_un (by omega), pk_un (by omega), pk_un (by omega)]
        exact hmo k (by omega)
    · show ∃ p', p' < 8 ∧ up3 (up3 (a 10) m (nI p) (kindP (s 1)) (nI y)) (m + 1) (nI p) (kindP (s 1)) (nI z) (3 * k) = nI p'
      unfold up3
      by_cases e : k = m + 1
      · subst e
        rw [pk_un (by omega), pk_un (by omega), pk_us]
        exact ⟨p, hp, rfl⟩
      · rw [pk_un (by omega), pk_un (by omega), pk_un (by omega)]
        by_cases e : k = m
        · subst e
          rw [pk_un (by omega), pk_un (by omega), pk_us]
          exact ⟨p, hp, rfl⟩
        · rw [pk_un (by omega), pk_un (by omega), pk_un (by omega)]
          exact hmo k (by omega)
  have at38 : ∀ kd : Int32, kd = kindP (s 1) → AJ L mX8_tryFeigned 4 0 0 (fun r Y => r = none ∧ ∃ N, isDay (upd (toldP s) 32 (nI (m + q))) (va_up a 10 (feM (a 10) m (nI p) (kindP (s 1)) y z q)) (m + q) N ∧ Y = modW (upd (toldP s) 32 (nI (m + q))) j (va_up (aftA (va_up a 10 (feM (a 10) m (nI p) (kindP (s 1)) y z q)) N) 33 (bstP (lateP N p) q y z (a 33)))) (modW s j a).length (0, 0) 38 [some (.ref 0), some (.int (nI p)), some (.int (nI q)), some (.int (nI y)), some (.int (nI z)), none, none] [.int kd] (modW s j a) := by
    intro kd hkd
    rw [← hkd] at okd ⊢
    refine AJ.run kX8_tryFeigned [] 60 ?_
    refine AJ.callF kX8_tryFeigned (c8_asTold L s j a) bX8_asTold rfl (by decide +kernel) [] rfl rfl rfl rfl rfl rfl rfl rfl ?_
    rintro r Y ⟨rfl, rfl⟩
    refine ⟨rfl, rfl, ?_⟩
    have tail := fun q' (hq' : q' ≤ 2) x6 => c8_tf_tail L (fun r Y => r = none ∧ ∃ N, isDay (upd (toldP s) 32 (nI (m + q'))) (va_up a 10 (feM (a 10) m (nI p) kd y z q')) (m + q') N ∧ Y = modW (upd (toldP s) 32 (nI (m + q'))) j (va_up (aftA (va_up a 10 (feM (a 10) m (nI p) kd y z q')) N) 33 (bstP (lateP N p) q' y z (a 33)))) (upd (toldP s) 32 (nI (m + q'))) j (va_up a 10 (feM (a 10) m (nI p) kd y z q')) (m + q') (modW s j a).length p q' y z kd x6 hp hq' (okd q' hq') (fun N hN => ⟨rfl, N, hN, rfl⟩)
    have i0 : 3 * s 9 = nI (3 * m) := by rw [h9]; simp only [fa_lit, pk_mul]
    have i1 : 3 * s 9 + 1 = nI (3 * m + 1) := by rw [h9]; simp only [fa_lit, nI_add, pk_mul]
    have i2 : 3 * s 9 + 2 = nI (3 * m + 2) := by rw [h9]; simp only [fa_lit, nI_add, pk_mul]
    have e1 : s 9 + 1 = nI (m + 1) := by rw [h9, nI_1]
    have e2 : s 9 + 1 + 1 = nI (m + 2) := by rw [e1, nI_1]
    have k0 : 3 * (s 9 + 1) = nI (3 * (m + 1)) := by rw [e1]; simp only [fa_lit, pk_mul]
    have k1 : 3 * (s 9 + 1) + 1 = nI (3 * (m + 1) + 1) := by rw [e1]; simp only [fa_lit, nI_add, pk_mul]
    have k2 : 3 * (s 9 + 1) + 2 = nI (3 * (m + 1) + 2) := by rw [e1]; simp only [fa_lit, nI_add, pk_mul]
    rcases (show q = 0 ∨ q = 1 ∨ q = 2 by omega) with rfl | rfl | rfl
    · have t := tail 0 (by omega) 0
      rw [Nat.add_zero, ← h9] at t
      exact AJ.run kX8_tryFeigned [120] 60 ⟨fun _ => t, fun hz => absurd (by decide) hz⟩
    · have t := tail 1 (by omega) 1
      rw [← e1] at t
      exact AJ.run kX8_tryFeigned [120] 90 ⟨fun hz => absurd hz (by decide), fun _ => ⟨3 * m, i0, by omega, 3 * m + 1, i1, by omega, fun hz => absurd rfl hz, fun _ => ⟨3 * m + 2, i2, by omega, fun _ => t, fun hz => absurd (by decide) hz⟩⟩⟩
    · have t := tail 2 (by omega) 2
      rw [← e2] at t
      exact AJ.run kX8_tryFeigned [120] 150 ⟨fun hz => absurd hz (by decide), fun _ => ⟨3 * m, i0, by omega, 3 * m + 1, i1, by omega, fun hz => absurd rfl hz, fun _ => ⟨3 * m + 2, i2, by omega, fun hz => absurd hz (by decide), fun _ => ⟨3 * (m + 1), k0, by omega, 3 * (m + 1) + 1, k1, by omega, fun _ => ⟨3 * (m + 1) + 2, k2, by omega, fun _ => t, fun hz => absurd (by decide) hz⟩, fun hz => absurd hz (by decide)⟩⟩⟩⟩
  refine AJ.run kX8_tryFeigned [38] 60 ⟨fun h => at38 0 ?_, fun h => ?_⟩
  · have h : s 1 = 0 := h
    rw [kindP, if_pos (Or.inl h)]
  have h : ¬ s 1 = 0 := h
  refine AJ.callZ kX8_tryFeigned (c8_has L (s 1) 0) bX8_has rfl (by decide +kernel) [] rfl rfl rfl rfl rfl ?_
  rintro r rfl
  refine AJ.run kX8_tryFeigned [38] 60 ⟨fun h2 => ?_, fun h2 => at38 0 ?_⟩
  · rw [bI_eq0] at h2
    refine AJ.callZ kX8_tryFeigned (c8_has L (s 1) 1) bX8_has rfl (by decide +kernel) [] rfl rfl rfl rfl rfl ?_
    rintro r rfl
    have hn : ¬ (s 1 = 0 ∨ hasP (s 1) 0 = true) := by rintro (z | z); exact h z; rw [h2] at z; cases z
    refine AJ.run kX8_tryFeigned [38] 60 ⟨fun h3 => at38 2 ?_, fun h3 => at38 1 ?_⟩
    · rw [bI_eq0] at h3
      rw [kindP, if_neg hn, if_neg (by rw [h3]; simp)]
    · rw [bI_ne0] at h3
      rw [kindP, if_neg hn, if_pos h3]
  · rw [bI_ne0] at h2
    rw [kindP, if_pos (Or.inr h2)]

