theorem cR_rs_b (L : xLn) (Q : Option Value → List xE → Prop) (n0 : Nat) (fa li fr to : Int32) (n : Nat) (f : xN) (nu u : xN) (ua : Nat → xN) (key : AJ L mX4_readLines 8 0 0 Q n0 (0, 0) 30 [some (.ref 0), some (.int 1), some (.int (nI 0))] [] (rdW (-1) (nI 0) fr (nI 0) n f u ua nu u ua)) : AJ L mX4_readLines 8 0 0 Q n0 (0, 0) 11 [some (.ref 0), none, none] [] (rdW fa li fr to n f u ua nu u ua) := AJ.run kX4_readLines [30] 60 key
theorem cR_rs_a (L : xLn) (Q : Option Value → List xE → Prop) (n0 : Nat) (fa li fr to : Int32) (n : Nat) (f t : xN) (ta : Nat → xN) (nu u : xN) (ua : Nat → xN) (key : AJ L mX4_readLines 8 0 0 Q n0 (0, 0) 11 [some (.ref 0), none, none] [] (rdW fa li fr to n f u ua nu u ua)) : AJ L mX4_readLines 8 0 0 Q n0 (0, 0) 8 [some (.ref 0), none, none] [.ref 14, .ref 3] (rdW fa li fr to n f t ta nu u ua) := by
  refine AJ.callX kX4_readLines (cT_copyFrom L t ta u ua) bX6_copyFrom rfl (by decide +kernel) [3, 4, 5, 6, 7, 8, 9, 10, 11, 12, 14, 15, 16, 17, 18, 19, 20, 21, 22, 23] [] rfl rfl rfl rfl rfl rfl rfl rfl rfl rfl ?_
  rintro r Y ⟨rfl, rfl⟩
  exact ⟨rdW fa li fr to n f u ua nu u ua, rfl, rfl, key⟩
theorem cR_readLines (L : xLn) (fa li fr to : Int32) (n : Nat) (f t : xN) (ta : Nat → xN) (nu u : xN) (ua : Nat → xN) (l m : Nat) (s : xN) (a : Nat → xN) (h200 : n ≤ 200) (hT : RT m u ua s a) (hW : WT l m s a) : CT L mX4_readLines 8 0 0 [.ref 0] (rdW fa li fr to n f t ta nu u ua) (rsQ n f u ua (rdL f n 10 0 0 s a)) := by
  obtain ⟨o, ho⟩ : ∃ o, o = rdL f n 10 0 0 s a := ⟨_, rfl⟩
  rw [← ho]
  obtain ⟨Q, hQ⟩ : ∃ Q, Q = rsQ n f u ua o := ⟨_, rfl⟩
  have q0 : ∀ e li fr to t ta nu, o = .inl e → e ≤ n → Q none (rdW (nI e) li fr to n f t ta nu u ua) := fun e li fr to t ta nu h1 h2 => by rw [hQ]; exact ⟨rfl, Or.inl ⟨e, li, fr, to, t, ta, nu, h1, h2, rfl⟩⟩
  have q1 : ∀ c S A fr to t ta m nu, o = .inr (c, S, A) → RT m t ta S A → S 9 = nI m → m ≤ 24 → Q none (rdW (-1) (nI c) fr to n f t ta nu u ua) := fun c S A fr to t ta m nu h1 h2 h3 h4 => by rw [hQ]; exact ⟨rfl, Or.inr ⟨c, S, A, fr, to, t, ta, m, nu, h1, h2, h3, h4, rfl⟩⟩
  rw [← hQ]
  clear hQ
  have key := cR_rs_loop L Q n (rdW fa li fr to n f t ta nu u ua).length f u ua h200 o q0 q1 10 0 0 l m s a fr u ua nu (by omega) (by omega) (by omega) hT hW ho.symm
  clear ho q0 q1
  refine CT.of rfl (Nat.le_of_ble_eq_true rfl) (Nat.le_of_ble_eq_true rfl) ?_
  have k2 := cR_rs_a L Q _ fa li fr to n f t ta nu u ua (cR_rs_b L Q _ fa li fr to n f nu u ua key)
  clear key
  exact AJ.run kX4_readLines [] 30 k2
