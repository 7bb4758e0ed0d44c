abbrev tfC (L : xLn) (V : Nat → Nat → Nat → Int32) (m : Nat) (s : xN) (j : Int64) (a : Nat → xN) (p : Nat) : Prop := ∀ q y z s' a', q ≤ 2 → keptM m s a s' a' → CT L mX8_tryFeigned 4 0 0 [.ref 0, .int (nI p), .int (nI q), .int (nI y), .int (nI z)] (modW s' j a') (tfQ m s j a (bstP (V q y z) q y z (a' 33)))
set_option maxHeartbeats 400000 in
theorem c8_fe_in (L : xLn) (Q : Option Value → List xE → Prop) (V : Nat → Nat → Nat → Int32) (s : xN) (j : Int64) (a : Nat → xN) (m n0 p n y : Nat) (w : Int32) (hn : n ≤ 2) (hy : y < 60) (hc : tfC L V m s j a p) (G : Nat → xN) (hG : ∀ i, G (i + 1) = bstP (V 2 y (y + 1 + i)) 2 y (y + 1 + i) (G i))
    (nxt : ∀ s' a', keptM m s a s' a' → a' 33 = G (59 - y) → AJ L mX8_feigned 5 0 0 Q n0 (0, 0) 142 [some (.ref 0), some (.int (nI p)), some (.int (nI n)), some (.int w), some (.int (nI y)), some (.int (nI 60))] [] (modW s' j a')) :
    ∀ (f i : Nat) (s' : xN) (a' : Nat → xN), y + 1 + i + f = 60 → keptM m s a s' a' → a' 33 = G i → AJ L mX8_feigned 5 0 0 Q n0 (0, 0) 119 [some (.ref 0), some (.int (nI p)), some (.int (nI n)), some (.int w), some (.int (nI y)), some (.int (nI (y + 1 + i)))] [] (modW s' j a') := by
  intro f
  induction f with
  | zero =>
    intro i s' a' hi hK hb
    obtain rfl : i = 59 - y := by omega
    have nx := nxt s' a' hK hb
    rw [show y + 1 + (59 - y) = 60 by omega]
    exact AJ.run kX8_feigned [119, 142] 60 ⟨fun _ => nx, fun hz => absurd (by decide) hz⟩
  | succ f ih =>
    intro i s' a' hi hK hb
    refine AJ.run kX8_feigned [119] 60 ⟨fun hz => absurd hz (nI_ge (b := 60) (by omega) (by omega)), fun _ => ?_⟩
    refine AJ.callF kX8_feigned (hc 2 y (y + 1 + i) s' a' (by omega) hK) bX8_tryFeigned rfl (by decide +kernel) [] rfl rfl rfl rfl rfl rfl rfl rfl ?_
    rintro r Y ⟨rfl, s2, a2, rfl, hK2, hb2⟩
    have h2 := ih (i + 1) s2 a2 (by omega) hK2 (by rw [hb2, hb, hG])
    rw [show y + 1 + (i + 1) = (y + 1 + i) + 1 by omega, nI_succ] at h2
    exact ⟨rfl, rfl, AJ.run kX8_feigned [119] 60 h2⟩
set_option maxHeartbeats 400000 in
theorem c8_fe_two (L : xLn) (Q : Option Value → List xE → Prop) (V : Nat → Nat → Nat → Int32) (s : xN) (j : Int64) (a : Nat → xN) (m n0 p n : Nat) (w : Int32) (hn : n ≤ 2) (h1 : 1 < n) (hc : tfC L V m s j a p) (G : Nat → xN) (hG : ∀ y, y < 60 → G (y + 1) = fe2i V y (G y) (59 - y))
    (nxt : ∀ s' a' x5, keptM m s a s' a' → a' 33 = G 60 → x5 = none ∨ x5 = some (.int (nI 60)) → AJ L mX8_feigned 5 0 0 Q n0 (0, 0) 148 [some (.ref 0), some (.int (nI p)), some (.int (nI n)), some (.int w), some (.int (nI 60)), x5] [] (modW s' j a')) :
    ∀ (f y : Nat) (s' : xN) (a' : Nat → xN) (x5 : Option Value), y + f = 60 → keptM m s a s' a' → a' 33 = G y → x5 = none ∨ x5 = some (.int (nI 60)) → AJ L mX8_feigned 5 0 0 Q n0 (0, 0) 101 [some (.ref 0), some (.int (nI p)), some (.int (nI n)), some (.int w), some (.int (nI y)), x5] [] (modW s' j a') := by
  intro f
  induction f with
  | zero =>
    intro y s' a' x5 hi hK hb hx
    obtain rfl : y = 60 := by omega
    have nx := nxt s' a' x5 hK hb hx
    exact AJ.run kX8_feigned [101, 148] 60 ⟨fun _ => nx, fun hz => absurd (by decide) hz⟩
  | succ f ih =>
    intro y s' a' x5 hi hK hb hx
    refine AJ.run kX8_feigned [119, 148] 60 ⟨fun hz => absurd hz (nI_ge (b := 60) (by omega) (by omega)), fun _ => ⟨fun hz => absurd hz (nI_ge (b := n) (a := 1) (by omega) (by omega)), fun _ => ?_⟩⟩
    have key := c8_fe_in L Q V s j a m n0 p n y w hn (by omega) hc (fun i => fe2i V y (G y) i) (fun i => rfl) (fun s2 a2 hK2 hb2 => by
      have h2 := ih (y + 1) s2 a2 (some (.int (nI 60))) (by omega) hK2 (by rw [hb2, hG y (by omega)]) (Or.inr rfl)
      rw [nI_succ] at h2
      exact AJ.run kX8_feigned [101] 60 h2) (59 - y) 0 s' a' (by omega) hK hb
    rw [Nat.add_zero, nI_succ] at key
    rcases hx with rfl | rfl
    · exact key
    · exact key
set_option maxHeartbeats 400000 in
theorem c8_fe_one (L : xLn) (Q : Option Value → List xE → Prop) (V : Nat → Nat → Nat → Int32) (s : xN) (j : Int64) (a : Nat → xN) (m n0 p n : Nat) (w : Int32) (hn : n ≤ 2) (h1 : 0 < n) (hc : tfC L V m s j a p) (G : Nat → xN) (hG : ∀ i, G (i + 1) = bstP (V 1 i 0) 1 i 0 (G i))
    (nxt : ∀ s' a', keptM m s a s' a' → a' 33 = G 60 → AJ L mX8_feigned 5 0 0 Q n0 (0, 0) 98 [some (.ref 0), some (.int (nI p)), some (.int (nI n)), some (.int w), some (.int (nI 60)), none] [] (modW s' j a')) :
    ∀ (f i : Nat) (s' : xN) (a' : Nat → xN), i + f = 60 → keptM m s a s' a' → a' 33 = G i → AJ L mX8_feigned 5 0 0 Q n0 (0, 0) 72 [some (.ref 0), some (.int (nI p)), some (.int (nI n)), some (.int w), some (.int (nI i)), none] [] (modW s' j a') := by
  intro f
  induction f with
  | zero =>
    intro i s' a' hi hK hb
    obtain rfl : i = 60 := by omega
    have nx := nxt s' a' hK hb
    exact AJ.run kX8_feigned [72, 98] 60 ⟨fun _ => nx, fun hz => absurd (by decide) hz⟩
  | succ f ih =>
    intro i s' a' hi hK hb
    refine AJ.run kX8_feigned [72] 60 ⟨fun hz => absurd hz (nI_ge (b := 60) (by omega) (by omega)), fun _ => ⟨fun hz => absurd hz (nI_ge (b := n) (a := 0) (by omega) (by omega)), fun _ => ?_⟩⟩
    refine AJ.callF kX8_feigned (hc 1 i 0 s' a' (by omega) hK) bX8_tryFeigned rfl (by decide +kernel) [] rfl rfl rfl rfl rfl rfl rfl rfl ?_
    rintro r Y ⟨rfl, s2, a2, rfl, hK2, hb2⟩
    have h2 := ih (i + 1) s2 a2 (by omega) hK2 (by rw [hb2, hb, hG])
    rw [nI_succ] at h2
    exact ⟨rfl, rfl, AJ.run kX8_feigned [72] 60 h2⟩
