/-! ===== the class: the lowest parts ===== -/
theorem gcL_A : ∀ (f x y : Nat), y < f → gcL f x y = gcL (y + 1) x y := by
  have key : ∀ (b f g x y : Nat), y ≤ b → y < f → y < g → gcL f x y = gcL g x y := by
    intro b
    induction b with
    | zero =>
      intro f g x y hb hf hg
      obtain ⟨f, rfl⟩ : ∃ q, f = q + 1 := ⟨f - 1, by omega⟩
      obtain ⟨g, rfl⟩ : ∃ q, g = q + 1 := ⟨g - 1, by omega⟩
      rw [gcL, gcL, if_pos (by omega), if_pos (by omega)]
    | succ b ih =>
      intro f g x y hb hf hg
      obtain ⟨f, rfl⟩ : ∃ q, f = q + 1 := ⟨f - 1, by omega⟩
      obtain ⟨g, rfl⟩ : ∃ q, g = q + 1 := ⟨g - 1, by omega⟩
      rw [gcL, gcL]
      by_cases c : y = 0
      · rw [if_pos c, if_pos c]
      · rw [if_neg c, if_neg c]
        have := Nat.mod_lt x (show 0 < y by omega)
        exact ih f g y (x % y) (by omega) (by omega) (by omega)
  exact fun f x y h => key y f (y + 1) x y (Nat.le_refl _) h (by omega)
theorem gcL_s (f x y : Nat) : gcL (f + 1) x y = if y = 0 then x else gcL f y (x % y) := rfl
theorem gcL_B : ∀ (k x y : Nat), y < 2 ^ k → ∀ j, gcL (2 * k + 1 + j) x y = gcL (2 * k + 1) x y
  | 0, x, y, h, j => by
    have : y = 0 := by simpa using h
    rw [show 2 * 0 + 1 + j = j + 1 by omega, gcL, gcL, if_pos this, if_pos this]
  | k + 1, x, y, h, j => by
    rw [show 2 * (k + 1) + 1 + j = (2 * k + 1 + j + 1) + 1 by omega, show 2 * (k + 1) + 1 = (2 * k + 1 + 1) + 1 by omega, gcL_s (2 * k + 1 + j + 1), gcL_s (2 * k + 1 + 1)]
    by_cases c : y = 0
    · rw [if_pos c, if_pos c]
    rw [if_neg c, if_neg c, gcL_s (2 * k + 1 + j), gcL_s (2 * k + 1)]
    have h1 := Nat.mod_lt x (show 0 < y by omega)
    generalize x % y = r at h1 ⊢
    by_cases c2 : r = 0
    · rw [if_pos c2, if_pos c2]
    rw [if_neg c2, if_neg c2]
    have h2 := Nat.mod_lt y (show 0 < r by omega)
    have h3 : y % r + r ≤ y := by
      have h4 : r * (y / r) + y % r = y := Nat.div_add_mod y r
      have h5 : 1 ≤ y / r := (Nat.one_le_div_iff (by omega)).mpr (by omega)
      have h6 : r * 1 ≤ r * (y / r) := Nat.mul_le_mul_left r h5
      omega
    have h7 : 2 ^ (k + 1) = 2 * 2 ^ k := by rw [Nat.pow_succ, Nat.mul_comm]
    exact gcL_B k r (y % r) (by omega) j
theorem gcL_64 {x y : Nat} (hy : y < 2 ^ 20) : gcL 64 x y = gcL (y + 1) x y := by
  have e1 := gcL_B 20 x y hy 23
  have e2 := gcL_B 20 x y hy (y + 1)
  have e3 := gcL_A (2 * 20 + 1 + (y + 1)) x y (by omega)
  rw [show 2 * 20 + 1 + 23 = 64 from rfl] at e1
  rw [e1, ← e2, e3]
theorem c7_commonDivisor (L : xLn) (x y : Nat) (hx : x < 2 ^ 20) (hy : y < 2 ^ 20) : CT L mX7_commonDivisor 0 0 0 [.int (nI x), .int (nI y)] [] (fun r Y => r = some (.int (nI (gcL (y + 1) x y))) ∧ Y = []) := by
  rw [← gcL_64 hy]
  obtain ⟨G, hG⟩ : ∃ G, G = gcL 64 x y := ⟨_, rfl⟩
  rw [← hG]
  refine CT.of rfl (Nat.le_of_ble_eq_true rfl) (Nat.le_of_ble_eq_true rfl) ?_
  have loop : ∀ (f i x' y' : Nat) (x5 : Option Value), i + f = 64 → x' < 2 ^ 20 → y' < 2 ^ 20 → gcL f x' y' = G → oI x5 → AJ L mX7_commonDivisor 0 0 0 (fun r Y => r = some (.int (nI G)) ∧ Y = []) 0 (0, 0) 7 [some (.int (nI x)), some (.int (nI y)), some (.int (nI x')), some (.int (nI y')), some (.int (nI i)), x5] [] [] := by
    intro f
    induction f with
    | zero =>
      intro i x' y' x5 hi h1 h2 h3 h5
      obtain rfl : i = 64 := by omega
      rw [gcL] at h3
      subst h3
      rcases h5 with rfl | ⟨v, rfl⟩
      · exact AJ.run kX7_commonDivisor [7] 30 ⟨fun _ => ⟨rfl, rfl⟩, fun z => absurd (by decide) z⟩
      · exact AJ.run kX7_commonDivisor [7] 30 ⟨fun _ => ⟨rfl, rfl⟩, fun z => absurd (by decide) z⟩
    | succ f ih =>
      intro i x' y' x5 hi h1 h2 h3 h5
      rw [gcL] at h3
      by_cases c : y' = 0
      · rw [if_pos c] at h3
        subst h3
        subst c
        rcases h5 with rfl | ⟨v, rfl⟩
        · exact AJ.run kX7_commonDivisor [7] 30 ⟨fun z => absurd z (nI_ge (b := 64) (by omega) (by omega)), fun _ => ⟨fun _ => ⟨rfl, rfl⟩, fun z => absurd rfl z⟩⟩
        · exact AJ.run kX7_commonDivisor [7] 30 ⟨fun z => absurd z (nI_ge (b := 64) (by omega) (by omega)), fun _ => ⟨fun _ => ⟨rfl, rfl⟩, fun z => absurd rfl z⟩⟩
      · rw [if_neg c] at h3
        have h4 := Nat.mod_lt x' (show 0 < y' by omega)
        have nxt := ih (i + 1) y' (x' % y') (some (.int (nI (x' % y')))) (by omega) h2 (by omega) h3 (Or.inr ⟨_, rfl⟩)
        rw [nI_succ, ← pk_rem (a := x') (d := y') (by omega) (by omega) (by omega)] at nxt
        have hne : ¬ nI y' = 0 := nI_ne0 (by omega) (by omega)
        rcases h5 with rfl | ⟨v, rfl⟩
        · exact AJ.run kX7_commonDivisor [7] 30 ⟨fun z => absurd z (nI_ge (b := 64) (by omega) (by omega)), fun _ => ⟨fun z => absurd z hne, fun _ => ⟨hne, nxt⟩⟩⟩
        · exact AJ.run kX7_commonDivisor [7] 30 ⟨fun z => absurd z (nI_ge (b := 64) (by omega) (by omega)), fun _ => ⟨fun z => absurd z hne, fun _ => ⟨hne, nxt⟩⟩⟩
  exact AJ.run kX7_commonDivisor [7] 30 (loop 64 0 x y none (by omega) hx hy hG.symm (Or.inl rfl))
theorem c7_lowestPart (L : xLn) (x y : Nat) (w : Int32) (hx : x < 2 ^ 20) (hy : y < 2 ^ 20) (hp : 0 < x ∨ 0 < y) : CT L mX7_lowestPart 1 0 0 [.int (nI x), .int (nI y), .int w] [] (fun r Y => r = some (.int (nI ((if w = 0 then x else y) / gcL (y + 1) x y))) ∧ Y = []) := by
  have g0 := gcL_pos (y + 1) x y (by omega) hp
  have g1 := gcL_le (y + 1) x y (2 ^ 20) (by omega) (by omega)
  have cc := c7_commonDivisor L x y hx hy
  generalize gcL (y + 1) x y = G at *
  refine CT.of rfl (Nat.le_of_ble_eq_true rfl) (Nat.le_of_ble_eq_true rfl) ?_
  refine AJ.run kX7_lowestPart [] 30 ?_
  refine AJ.callZ kX7_lowestPart cc bX7_commonDivisor rfl (by decide +kernel) [] rfl rfl rfl rfl rfl ?_
  rintro r rfl
  have hne : ¬ nI G = 0 := nI_ne0 g0 (by omega)
  refine AJ.run kX7_lowestPart [] 30 ⟨fun z => ⟨fun _ => ⟨hne, ?_, rfl⟩, fun y => absurd y hne⟩, fun z => ⟨fun _ => ⟨hne, ?_, rfl⟩, fun y => absurd y hne⟩⟩
  · rw [if_neg z, ← pk_div (by omega) g0 (by omega)]
  · rw [if_pos z, ← pk_div (by omega) g0 (by omega)]
