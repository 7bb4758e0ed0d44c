/-! ===== the reference: laws read back, all of them ===== -/
def lwS (s : xN) (c : Nat) : xN := upd (upd (toldP s) 30 (nI (c / 30))) 31 (nI (c % 30 + 1))
/-- the counts of kinds, one law more -/
def hkA (c : Nat) (f : xN) : Nat → xN
  | 0 => f
  | k + 1 => upd (hkA c f k) k (hkA c f k k + (nI (c / 30) >>> (nI k &&& 31) &&& 1))
theorem hkA_at (c : Nat) (f : xN) (i : Nat) : ∀ k, hkA c f k i = if i < k then f i + (nI (c / 30) >>> (nI i &&& 31) &&& 1) else f i
  | 0 => by rw [hkA, if_neg (by omega)]
  | k + 1 => by
    rw [hkA]
    by_cases h : i = k
    · subst h
      rw [pk_us, hkA_at c f i i, if_neg (by omega), if_pos (by omega)]
    · rw [pk_un h, hkA_at c f i k]
      by_cases h2 : i < k
      · rw [if_pos h2, if_pos (by omega)]
      · rw [if_neg h2, if_neg (by omega)]
theorem c8_ll_has (L : xLn) (Q : Option Value → List xE → Prop) (s : xN) (j : Int64) (a : Nat → xN) (n0 c : Nat) (hc : c < 240) (G : Nat → xN) (hG : ∀ k, k < 3 → G (k + 1) = upd (G k) k (G k k + (nI (c / 30) >>> (nI k &&& 31) &&& 1)))
    (nxt : AJ L mX8_layLaws 4 0 0 Q n0 (0, 0) 132 [some (.ref 0), some (.int (nI c)), some (.int (nI 3))] [] (modW s j (va_up a 36 (G 3)))) :
    ∀ (n k : Nat), k + n = 3 → AJ L mX8_layLaws 4 0 0 Q n0 (0, 0) 104 [some (.ref 0), some (.int (nI c)), some (.int (nI k))] [] (modW s j (va_up a 36 (G k))) := by
  intro n
  induction n with
  | zero =>
    intro k hk
    obtain rfl : k = 3 := by omega
    exact AJ.run kX8_layLaws [104, 132] 60 ⟨fun _ => nxt, fun hz => absurd (by decide) hz⟩
  | succ n ih =>
    intro k hk
    have h2 := ih (k + 1) (by omega)
    rw [nI_succ, hG k (by omega), ← pk_div (d := 30) (by omega : c < 2 ^ 31) (by omega) (by omega)] at h2
    exact AJ.run kX8_layLaws [104] 60 ⟨fun hz => absurd hz (nI_ge (b := 3) (by omega) (by omega)), fun _ => ⟨k, rfl, by omega, by decide, k, rfl, by omega, h2⟩⟩
/-- one law -/
theorem c8_ll_one (L : xLn) (Q : Option Value → List xE → Prop) (s : xN) (j : Int64) (a : Nat → xN) (m n n0 c mn : Nat) (x2 : Option Value) (hx2 : x2 = none ∨ ∃ v, x2 = some (.int v)) (hc : c < 240) (hokd : okD (lwS s c) a m) (hs : s 11 = nI n) (hn : n ≤ 8) (hmn : s 34 = nI mn) (hmn2 : mn ≤ 240)
    (nxt : ∀ (N : xN) (x2' : Option Value), isDay (lwS s c) a m N → (x2' = none ∨ ∃ v, x2' = some (.int v)) → AJ L mX8_layLaws 4 0 0 Q n0 (0, 0) 33 [some (.ref 0), some (.int (nI (c + 1))), x2'] [] (if seenA N (a 12) (hmP N) n = true then modW (upd (upd (lwS s c) 35 (if mn = 0 then nI c else s 35)) 34 (nI (mn + 1))) j (va_up (aftA a N) 36 (hkA c (a 36) 3)) else modW (lwS s c) j (aftA a N))) :
    AJ L mX8_layLaws 4 0 0 Q n0 (0, 0) 33 [some (.ref 0), some (.int (nI c)), x2] [] (modW s j a) := by
  have wf : ∀ X : List xE, xwf X [some (.ref 0), some (.int (nI c)), none] [] = true → xwf X [some (.ref 0), some (.int (nI c)), x2] [] = true := by
    intro X hX
    rcases hx2 with rfl | ⟨v, rfl⟩
    · exact hX
    · simpa [xwf, xokv] using hX
  refine AJ.run kX8_layLaws [33] 60 ⟨fun hz => absurd hz (nI_ge (b := 240) (by omega) (by omega)), fun _ => ?_⟩
  refine AJ.callF kX8_layLaws (c8_asTold L s j a) bX8_asTold rfl (by decide +kernel) [] rfl rfl rfl rfl rfl (wf _ rfl) rfl rfl ?_
  rintro r Y ⟨rfl, rfl⟩
  refine ⟨rfl, rfl, AJ.run kX8_layLaws [62] 60 ⟨by decide, by decide, ?_⟩⟩
  have e1 : nI c / 30 = nI (c / 30) := pk_div (d := 30) (by omega) (by omega) (by omega)
  have e2 : nI c - nI c / 30 * 30 = nI (c % 30) := pk_rem (d := 30) (by omega) (by omega) (by omega)
  have e3 : nI c - nI c / 30 * 30 + 1 = nI (c % 30 + 1) := by rw [e2, nI_1]
  have at62 : AJ L mX8_layLaws 4 0 0 Q n0 (0, 0) 62 [some (.ref 0), some (.int (nI c)), x2] [] (modW (lwS s c) j a) := by
    refine AJ.run kX8_layLaws [] 60 ?_
    refine AJ.callF kX8_layLaws (c8_dayA L (lwS s c) j a m hokd) bX8_goDay rfl (by decide +kernel) [] rfl rfl rfl rfl rfl (wf _ rfl) rfl rfl ?_
    rintro r Y ⟨rfl, N, hN, rfl⟩
    have nxt := fun x2' h => nxt N x2' hN h
    obtain ⟨e4, e5, e6⟩ := isDay_hm hN
    have ehm : hmP (dq (lwS s c) a m) = hmP N := by
      unfold hmP
      rw [e6 7 (by omega), e6 8 (by omega)]
    rw [ehm] at e4 e5
    clear e6 ehm hN
    refine ⟨rfl, rfl, AJ.run kX8_layLaws [] 60 ?_⟩
    refine AJ.callF kX8_layLaws (c8_areSeen L (lwS s c) j (va_up a 27 (cpL (a 26) 0 (a 27) 0 573)) N n (hmP N) hs hn e4 e5) bX8_areSeen rfl (by decide +kernel) [] rfl rfl rfl rfl rfl (wf _ rfl) rfl rfl ?_
    rintro r Y ⟨rfl, rfl⟩
    have hse : seenA N ((va_up a 27 (cpL (a 26) 0 (a 27) 0 573)) 12) (hmP N) n = seenA N (a 12) (hmP N) n := rfl
    rw [hse]
    clear hse
    generalize seenA N (a 12) (hmP N) n = b at nxt
    have pb : ∀ (s' : xN) (a' : Nat → xN) (x2' : Option Value), (x2' = none ∨ ∃ v, x2' = some (.int v)) → (∀ i, i ≠ 36 → a' i = va_up a 27 (cpL (a 26) 0 (a 27) 0 573) i) → AJ L mX8_layLaws 4 0 0 Q n0 (0, 0) 33 [some (.ref 0), some (.int (nI c + 1)), x2'] [] (modW s' j (va_up a' 26 (cpL (cpL (a 26) 0 (a 27) 0 573) 0 N 0 573))) → AJ L mX8_layLaws 4 0 0 Q n0 (0, 0) 132 [some (.ref 0), some (.int (nI c)), x2'] [] (modN s' j a' N) := by
      intro s' a' x2' hx' ha' h2
      have wf' : xwf (modN s' j a' N) [some (.ref 0), some (.int (nI c)), x2'] [] = true := by
        rcases hx' with rfl | ⟨v, rfl⟩ <;> rfl
      refine AJ.run kX8_layLaws [] 60 ?_
      refine AJ.callF kX8_layLaws (c8_putBack L s' j a' N) bX8_putBack rfl (by decide +kernel) [] rfl rfl rfl rfl rfl wf' rfl rfl ?_
      rintro r Y ⟨rfl, rfl⟩
      have e27 : a' 27 = cpL (a 26) 0 (a 27) 0 573 := ha' 27 (by omega)
      rw [e27]
      exact ⟨rfl, rfl, AJ.run kX8_layLaws [33] 60 h2⟩
    refine ⟨rfl, rfl, AJ.run kX8_layLaws [132, 89] 60 ⟨fun h3 => ?_, fun h3 => ?_⟩⟩
    · rw [bI_eq0] at h3
      have nxt := nxt x2 hx2
      rw [h3, if_neg (by simp), nI_succ] at nxt
      exact pb (lwS s c) _ x2 hx2 (fun i _ => rfl) nxt
    · rw [bI_ne0] at h3
      have nxt := nxt (some (.int (nI 3))) (Or.inr ⟨_, rfl⟩)
      rw [h3, if_pos rfl, nI_succ] at nxt
      have at89 : ∀ v : Int32, v = (if mn = 0 then nI c else s 35) → AJ L mX8_layLaws 4 0 0 Q n0 (0, 0) 89 [some (.ref 0), some (.int (nI c)), x2] [.int v, .ref 0] (modN (lwS s c) j (va_up a 27 (cpL (a 26) 0 (a 27) 0 573)) N) := by
        intro v hv
        subst hv
        have h4 := pb (upd (upd (lwS s c) 35 (if mn = 0 then nI c else s 35)) 34 (nI (mn + 1))) (va_up (va_up a 27 (cpL (a 26) 0 (a 27) 0 573)) 36 (hkA c (a 36) 3)) (some (.int (nI 3))) (Or.inr ⟨_, rfl⟩) (fun i hi => by unfold va_up; rw [if_neg hi]) nxt
        obtain ⟨G, hGe⟩ : ∃ G : Nat → xN, G = hkA c (a 36) := ⟨_, rfl⟩
        have hG0 : G 0 = a 36 := by rw [hGe]; rfl
        have hG : ∀ k, k < 3 → G (k + 1) = upd (G k) k (G k k + (nI (c / 30) >>> (nI k &&& 31) &&& 1)) := fun k _ => by rw [hGe]; rfl
        rw [← hGe] at h4
        clear hGe nxt pb
        have h5 := c8_ll_has L Q (upd (upd (lwS s c) 35 (if mn = 0 then nI c else s 35)) 34 (nI (mn + 1))) j (va_up (va_up a 27 (cpL (a 26) 0 (a 27) 0 573)) 26 N) n0 c hc G hG h4 3 0 rfl
        rw [hG0, ← nI_1, ← hmn] at h5
        rcases hx2 with rfl | ⟨v, rfl⟩ <;> exact AJ.run kX8_layLaws [104] 60 h5
      refine ⟨fun h4 => at89 _ ?_, fun h4 => at89 _ ?_⟩
      · have h4 : ¬ s 34 = 0 := h4
        rw [if_neg (fun q => h4 (by rw [hmn, q]; rfl))]; rfl
      · have h4 : s 34 = 0 := h4
        rw [hmn] at h4
        rw [if_pos]
        rcases Nat.eq_zero_or_pos mn with q | q
        · exact q
        · exact absurd h4 (nI_ne0 q (by omega))
  rw [lwS, ← e1, ← e3] at at62
  exact at62

