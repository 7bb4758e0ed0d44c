theorem feM_ok {s : xN} {a : Nat → xN} {m p : Nat} (kd : Int32) (y z : Nat) (hp : p < 8) (hok : okT s a m) {q : Nat} (hq : q ≤ 2) (u : xN) (hu : u 32 = nI (m + q)) : okD u (va_up a 10 (feM (a 10) m (nI p) kd y z q)) (m + q) := by
  obtain ⟨h9, hm, hmo⟩ := hok
  refine ⟨hu, by omega, fun k hk => ?_⟩
  show ∃ p', p' < 8 ∧ feM (a 10) m (nI p) kd y z q (3 * k) = nI p'
  rcases (show q = 0 ∨ q = 1 ∨ q = 2 by omega) with rfl | rfl | rfl
  · exact hmo k (by omega)
  · show ∃ p', p' < 8 ∧ up3 (a 10) m (nI p) kd (nI y) (3 * k) = nI p'
    unfold up3
    by_cases e : k = m
    · subst e
      rw [pk_un (by omega), pk_un (by omega), pk_us]
      exact ⟨p, hp, rfl⟩
    · rw [pk_un (by omega), pk_un (by omega), pk_un (by omega)]
      exact hmo k (by omega)
  · show ∃ p', p' < 8 ∧ up3 (up3 (a 10) m (nI p) kd (nI y)) (m + 1) (nI p) kd (nI z) (3 * k) = nI p'
    unfold up3
    by_cases e : k = m + 1
    · subst e
      rw [pk_un (by omega), pk_un (by omega), pk_us]
      exact ⟨p, hp, rfl⟩
    · rw [pk_un (by omega), pk_un (by omega), pk_un (by omega)]
      by_cases e : k = m
      · subst e
        rw [pk_un (by omega), pk_un (by omega), pk_us]
        exact ⟨p, hp, rfl⟩
      · rw [pk_un (by omega), pk_un (by omega), pk_un (by omega)]
        exact hmo k (by omega)
def feS (s : xN) (m q : Nat) : xN := upd (toldP s) 32 (nI (m + q))
def feA (s : xN) (a : Nat → xN) (m p y z q : Nat) : Nat → xN := va_up a 10 (feM (a 10) m (nI p) (kindP (s 1)) y z q)
set_option maxHeartbeats 400000 in
theorem c8_tf_at (L : xLn) (Q : Option Value → List xE → Prop) (s : xN) (j : Int64) (a : Nat → xN) (m n0 p q y z : Nat) (kd : Int32) (hp : p < 8) (hq : q ≤ 2) (hok : okT s a m)
    (nxt : ∀ N A B, isDay (feS s m q) (va_up a 10 (feM (a 10) m (nI p) kd y z q)) (m + q) N → (∀ i, i < 573 → B i = a 26 i) → Q none (modW (feS s m q) j (arA (va_up a 10 (feM (a 10) m (nI p) kd y z q)) A B (bstP (lateP N p) q y z (a 33))))) :
    AJ L mX8_tryFeigned 4 0 0 Q n0 (0, 0) 38 [some (.ref 0), some (.int (nI p)), some (.int (nI q)), some (.int (nI y)), some (.int (nI z)), none, none] [.int kd] (modW s j a) := by
  have tail := fun x6 => c8_tf_tail L Q (feS s m q) j (va_up a 10 (feM (a 10) m (nI p) kd y z q)) (m + q) n0 p q y z kd x6 hp hq (feM_ok kd y z hp hok hq _ rfl) nxt
  clear nxt
  obtain ⟨h9, hm, hmo⟩ := hok
  refine AJ.run kX8_tryFeigned [] 60 ?_
  refine AJ.callF kX8_tryFeigned (c8_asTold L s j a) bX8_asTold rfl (by decide +kernel) [] rfl rfl rfl rfl rfl rfl rfl rfl ?_
  rintro r Y ⟨rfl, rfl⟩
  refine ⟨rfl, rfl, ?_⟩
  have i0 : 3 * s 9 = nI (3 * m) := by rw [h9]; simp only [fa_lit, pk_mul]
  have i1 : 3 * s 9 + 1 = nI (3 * m + 1) := by rw [h9]; simp only [fa_lit, nI_add, pk_mul]
  have i2 : 3 * s 9 + 2 = nI (3 * m + 2) := by rw [h9]; simp only [fa_lit, nI_add, pk_mul]
  have e1 : s 9 + 1 = nI (m + 1) := by rw [h9, nI_1]
  have e2 : s 9 + 1 + 1 = nI (m + 2) := by rw [e1, nI_1]
  have k0 : 3 * (s 9 + 1) = nI (3 * (m + 1)) := by rw [e1]; simp only [fa_lit, pk_mul]
  have k1 : 3 * (s 9 + 1) + 1 = nI (3 * (m + 1) + 1) := by rw [e1]; simp only [fa_lit, nI_add, pk_mul]
  have k2 : 3 * (s 9 + 1) + 2 = nI (3 * (m + 1) + 2) := by rw [e1]; simp only [fa_lit, nI_add, pk_mul]
  unfold feS at tail
  rcases (show q = 0 ∨ q = 1 ∨ q = 2 by omega) with rfl | rfl | rfl
  · have t := tail 0
    rw [Nat.add_zero, ← h9] at t
    exact AJ.run kX8_tryFeigned [120] 60 ⟨fun _ => t, fun hz => absurd (by decide) hz⟩
  · have t := tail 1
    rw [← e1] at t
    exact AJ.run kX8_tryFeigned [120] 90 ⟨fun hz => absurd hz (by decide), fun _ => ⟨3 * m, i0, by omega, 3 * m + 1, i1, by omega, fun hz => absurd rfl hz, fun _ => ⟨3 * m + 2, i2, by omega, fun _ => t, fun hz => absurd (by decide) hz⟩⟩⟩
  · have t := tail 2
    rw [← e2] at t
    exact AJ.run kX8_tryFeigned [120] 150 ⟨fun hz => absurd hz (by decide), fun _ => ⟨3 * m, i0, by omega, 3 * m + 1, i1, by omega, fun hz => absurd rfl hz, fun _ => ⟨3 * m + 2, i2, by omega, fun hz => absurd hz (by decide), fun _ => ⟨3 * (m + 1), k0, by omega, 3 * (m + 1) + 1, k1, by omega, fun _ => ⟨3 * (m + 1) + 2, k2, by omega, fun _ => t, fun hz => absurd (by decide) hz⟩, fun hz => absurd hz (by decide)⟩⟩⟩⟩
theorem c8_tryFeigned (L : xLn) (s : xN) (j : Int64) (a : Nat → xN) (m p q y z : Nat) (hp : p < 8) (hq : q ≤ 2) (hok : okT s a m) : CT L mX8_tryFeigned 4 0 0 [.ref 0, .int (nI p), .int (nI q), .int (nI y), .int (nI z)] (modW s j a) (fun r Y => r = none ∧ ∃ N A B, isDay (feS s m q) (feA s a m p y z q) (m + q) N ∧ (∀ i, i < 573 → B i = a 26 i) ∧ Y = modW (feS s m q) j (arA (feA s a m p y z q) A B (bstP (lateP N p) q y z (a 33)))) := by
  refine CT.of rfl (Nat.le_of_ble_eq_true rfl) (Nat.le_of_ble_eq_true rfl) ?_
  have at38 : ∀ kd : Int32, kd = kindP (s 1) → AJ L mX8_tryFeigned 4 0 0 (fun r Y => r = none ∧ ∃ N A B, isDay (feS s m q) (feA s a m p y z q) (m + q) N ∧ (∀ i, i < 573 → B i = a 26 i) ∧ Y = modW (feS s m q) j (arA (feA s a m p y z q) A B (bstP (lateP N p) q y z (a 33)))) (modW s j a).length (0, 0) 38 [some (.ref 0), some (.int (nI p)), some (.int (nI q)), some (.int (nI y)), some (.int (nI z)), none, none] [.int kd] (modW s j a) := by
    intro kd hkd
    refine c8_tf_at L _ s j a m _ p q y z kd hp hq hok ?_
    intro N A B h1 h2
    rw [hkd] at h1 ⊢
    exact ⟨rfl, N, A, B, h1, h2, rfl⟩
  generalize (fun (r : Option Value) (Y : List xE) => r = none ∧ ∃ N A B, isDay (feS s m q) (feA s a m p y z q) (m + q) N ∧ (∀ i, i < 573 → B i = a 26 i) ∧ Y = modW (feS s m q) j (arA (feA s a m p y z q) A B (bstP (lateP N p) q y z (a 33)))) = Q at at38 ⊢
  refine AJ.run kX8_tryFeigned [38] 60 ⟨fun h => at38 0 ?_, fun h => ?_⟩
  · have h : s 1 = 0 := h
    rw [kindP, if_pos (Or.inl h)]
  have h : ¬ s 1 = 0 := h
  refine AJ.callZ kX8_tryFeigned (c8_has L (s 1) 0) bX8_has rfl (by decide +kernel) [] rfl rfl rfl rfl rfl ?_
  rintro r rfl
  refine AJ.run kX8_tryFeigned [38] 60 ⟨fun h2 => ?_, fun h2 => at38 0 ?_⟩
  · rw [bI_eq0] at h2
    refine AJ.callZ kX8_tryFeigned (c8_has L (s 1) 1) bX8_has rfl (by decide +kernel) [] rfl rfl rfl rfl rfl ?_
    rintro r rfl
    have hn : ¬ (s 1 = 0 ∨ hasP (s 1) 0 = true) := by rintro (z | z); exact h z; rw [h2] at z; cases z
    refine AJ.run kX8_tryFeigned [38] 60 ⟨fun h3 => at38 2 ?_, fun h3 => at38 1 ?_⟩
    · rw [bI_eq0] at h3
      rw [kindP, if_neg hn, if_neg (by rw [h3]; simp)]
    · rw [bI_ne0] at h3
      rw [kindP, if_neg hn, if_pos h3]
  · rw [bI_ne0] at h2
    rw [kindP, if_pos (Or.inr h2)]
