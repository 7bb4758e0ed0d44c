/-! ===== the class: moods feigned ===== -/
/-- Feigning: itself, its plan (from 1), its days (from 11, 24, 37), what is told (from 50) -/
def feW (kn pe mo li ho us fi se : Int32) (t : xN) (ta : Nat → xN) (d1 : xN) (e1 : Nat → xN) (d2 : xN) (e2 : Nat → xN) (d3 : xN) (e3 : Nat → xN) (u : xN) (ua : Nat → xN) : List xE := [.inr (.inr (1, [.ref 50, .ref 1, .ref 11, .ref 24, .ref 37, .int kn, .int pe, .int mo, .int li, .int ho, .int us, .int fi, .int se]))] ++ (tolW 1 t ta ++ (dayW 11 1 d1 e1 ++ (dayW 24 1 d2 e2 ++ (dayW 37 1 d3 e3 ++ tolW 50 u ua))))
set_option maxHeartbeats 1000000 in
theorem cF_take1 (L : xLn) (Q : Option Value → List xE → Prop) (kn mo ho us fi se q y z : Int32) (l m sp g p Lm V : Nat) (s : xN) (a : Nat → xN) (t : xN) (ta : Nat → xN) (d1 : xN) (e1 : Nat → xN) (d2 : xN) (e2 : Nat → xN) (d3 : xN) (e3 : Nat → xN) (u : xN) (ua : Nat → xN) (hW : WD l m sp s a) (hT : RT m t ta s a) (hp : p < 8) (hL : Lm ≤ 60) (hg : g ≤ 60) (hV : homV s a m p V) (hR : RD m g sp s a d1 e1 (dyL s a m g)) (f1 : ∀ d' e', V < Lm → Q none (feW kn (nI p) mo (nI V) (nI V) q y z t ta d' e' d2 e2 d3 e3 u ua)) (f0 : ∀ d' e', ¬ V < Lm → Q none (feW kn (nI p) mo (nI Lm) ho us fi se t ta d' e' d2 e2 d3 e3 u ua)) : CT L mX1_take 4 0 0 [.ref 0, .ref 11, .int q, .int y, .int z] (feW kn (nI p) mo (nI Lm) ho us fi se t ta d1 e1 d2 e2 d3 e3 u ua) Q := by
  have hI : ∀ n, n ≤ 60 → ID l m n n s a (dyL s a m n) := fun n hn => by
    have := ID_goL hW (ID_begin hW (fun _ => 0)) n (by omega)
    rw [Nat.zero_add] at this
    exact this
  have st : ∀ n, n < 60 → dyL s a m (n + 1) = minP s a m (dyL s a m n) := fun n hn => goL_step hW (ID_begin hW _) (by omega)
  obtain ⟨hV60, -, hVn⟩ := hV
  obtain ⟨G, hG⟩ : ∃ G : Nat → xN, G = fun n => dyL s a m n := ⟨_, rfl⟩
  have hR : RD m g sp s a d1 e1 (G g) := by rw [hG]; exact hR
  have hI : ∀ n, n ≤ 60 → ID l m n n s a (G n) := by rw [hG]; exact hI
  have st : ∀ n, n < 60 → G (n + 1) = minP s a m (G n) := by rw [hG]; exact st
  have hVn : ∀ n, n ≤ 60 → G n (25 + p) = if V < n then nI V else -1 := by rw [hG]; exact hVn
  clear hG
  refine CT.of rfl (Nat.le_of_ble_eq_true rfl) (Nat.le_of_ble_eq_true rfl) ?_
  have g38 : ∀ (n : Nat) (d' : xN) (e' : Nat → xN), n ≤ 60 → (Lm ≤ n ∨ V < n) → RD m n sp s a d' e' (G n) → AJ L mX1_take 4 0 0 Q (feW kn (nI p) mo (nI Lm) ho us fi se t ta d1 e1 d2 e2 d3 e3 u ua).length (0, 0) 38 [some (.ref 0), some (.ref 11), some (.int q), some (.int y), some (.int z), some (.int (nI n))] [] (feW kn (nI p) mo (nI Lm) ho us fi se t ta d' e' d2 e2 d3 e3 u ua) := by
    intro n d' e' hn hx hRn
    have e8 : e' 8 p = if V < n then nI V else -1 := (hRn.2.2.1.2 p hp).1.trans (hVn n hn)
    by_cases c : V < n
    · rw [if_pos c] at e8
      have h1 := f1 d' e'
      have h0 := f0 d' e'
      rw [← e8] at h1
      refine AJ.run kX1_take [] 60 ⟨p, rfl, by omega, fun w => absurd w (by rw [e8]; exact nI_m1 (by omega)), fun _ => ⟨fun w => h0 (fun b => ?_), fun w => h1 ?_⟩⟩
      · rw [e8] at w
        exact nI_ge b (by omega) w
      · rcases Nat.lt_or_ge V Lm with b | b
        · exact b
        · exact absurd (by rw [e8]; exact nI_le b (by omega)) w
    · rw [if_neg c] at e8
      have h0 := f0 d' e' (by omega)
      exact AJ.run kX1_take [] 60 ⟨p, rfl, by omega, fun _ => h0, fun w => absurd e8 w⟩
  have loop : ∀ (k n : Nat) (d' : xN) (e' : Nat → xN), Lm - n = k → n ≤ 60 → RD m n sp s a d' e' (G n) → AJ L mX1_take 4 0 0 Q (feW kn (nI p) mo (nI Lm) ho us fi se t ta d1 e1 d2 e2 d3 e3 u ua).length (0, 0) 6 [some (.ref 0), some (.ref 11), some (.int q), some (.int y), some (.int z), some (.int (nI n))] [] (feW kn (nI p) mo (nI Lm) ho us fi se t ta d' e' d2 e2 d3 e3 u ua) := by
    intro k
    induction k with
    | zero =>
      intro n d' e' hk hn hRn
      exact AJ.run kX1_take [38] 30 ⟨fun _ => g38 n d' e' hn (Or.inl (by omega)) hRn, fun w => absurd (nI_le (by omega) (by omega)) w⟩
    | succ k ih =>
      intro n d' e' hk hn hRn
      have e8 : e' 8 p = if V < n then nI V else -1 := (hRn.2.2.1.2 p hp).1.trans (hVn n hn)
      refine AJ.run kX1_take [6, 38] 30 ⟨fun w => absurd w (nI_ge (by omega) (by omega)), fun _ => ⟨p, rfl, by omega, fun w => g38 n d' e' hn (Or.inr ?_) hRn, fun w => ?_⟩⟩
      · by_cases c : V < n
        · exact c
        · rw [if_neg c] at e8
          exact absurd e8 w
      refine AJ.callX kX1_take (cD_passMinute L d' e' t ta l m sp n s a (G n) hW hT (by omega) (hI n hn) hRn) bX0_passMinute rfl (by decide +kernel) [11, 12, 13, 14, 15, 16, 17, 18, 19, 20, 21, 22, 23, 1, 2, 3, 4, 5, 6, 7, 8, 9, 10] [] rfl rfl rfl rfl rfl rfl rfl rfl rfl rfl ?_
      rintro r Y ⟨rfl, d'', e'', hR2, rfl⟩
      refine ⟨(feW kn (nI p) mo (nI Lm) ho us fi se t ta d'' e'' d2 e2 d3 e3 u ua), rfl, rfl, ?_⟩
      rw [← st n (by omega)] at hR2
      have nxt := ih (n + 1) d'' e'' (by omega) (by omega) hR2
      rw [nI_succ] at nxt
      exact AJ.run kX1_take [6] 30 nxt
  have d3g : d1 3 = nI g := hR.2.1.1.trans (hI g hg).1.1.1
  have lp := loop _ g d1 e1 rfl hg hR
  rw [← d3g] at lp
  exact AJ.run kX1_take [6] 30 lp
set_option maxHeartbeats 1000000 in
theorem cF_take2 (L : xLn) (Q : Option Value → List xE → Prop) (kn mo ho us fi se q y z : Int32) (l m sp g p Lm V : Nat) (s : xN) (a : Nat → xN) (t : xN) (ta : Nat → xN) (d1 : xN) (e1 : Nat → xN) (d2 : xN) (e2 : Nat → xN) (d3 : xN) (e3 : Nat → xN) (u : xN) (ua : Nat → xN) (hW : WD l m sp s a) (hT : RT m t ta s a) (hp : p < 8) (hL : Lm ≤ 60) (hg : g ≤ 60) (hV : homV s a m p V) (hR : RD m g sp s a d2 e2 (dyL s a m g)) (f1 : ∀ d' e', V < Lm → Q none (feW kn (nI p) mo (nI V) (nI V) q y z t ta d1 e1 d' e' d3 e3 u ua)) (f0 : ∀ d' e', ¬ V < Lm → Q none (feW kn (nI p) mo (nI Lm) ho us fi se t ta d1 e1 d' e' d3 e3 u ua)) : CT L mX1_take 4 0 0 [.ref 0, .ref 24, .int q, .int y, .int z] (feW kn (nI p) mo (nI Lm) ho us fi se t ta d1 e1 d2 e2 d3 e3 u ua) Q := by
  have hI : ∀ n, n ≤ 60 → ID l m n n s a (dyL s a m n) := fun n hn => by
    have := ID_goL hW (ID_begin hW (fun _ => 0)) n (by omega)
    rw [Nat.zero_add] at this
    exact this
  have st : ∀ n, n < 60 → dyL s a m (n + 1) = minP s a m (dyL s a m n) := fun n hn => goL_step hW (ID_begin hW _) (by omega)
  obtain ⟨hV60, -, hVn⟩ := hV
  obtain ⟨G, hG⟩ : ∃ G : Nat → xN, G = fun n => dyL s a m n := ⟨_, rfl⟩
  have hR : RD m g sp s a d2 e2 (G g) := by rw [hG]; exact hR
  have hI : ∀ n, n ≤ 60 → ID l m n n s a (G n) := by rw [hG]; exact hI
  have st : ∀ n, n < 60 → G (n + 1) = minP s a m (G n) := by rw [hG]; exact st
  have hVn : ∀ n, n ≤ 60 → G n (25 + p) = if V < n then nI V else -1 := by rw [hG]; exact hVn
  clear hG
  refine CT.of rfl (Nat.le_of_ble_eq_true rfl) (Nat.le_of_ble_eq_true rfl) ?_
  have g38 : ∀ (n : Nat) (d' : xN) (e' : Nat → xN), n ≤ 60 → (Lm ≤ n ∨ V < n) → RD m n sp s a d' e' (G n) → AJ L mX1_take 4 0 0 Q (feW kn (nI p) mo (nI Lm) ho us fi se t ta d1 e1 d2 e2 d3 e3 u ua).length (0, 0) 38 [some (.ref 0), some (.ref 24), some (.int q), some (.int y), some (.int z), some (.int (nI n))] [] (feW kn (nI p) mo (nI Lm) ho us fi se t ta d1 e1 d' e' d3 e3 u ua) := by
    intro n d' e' hn hx hRn
    have e8 : e' 8 p = if V < n then nI V else -1 := (hRn.2.2.1.2 p hp).1.trans (hVn n hn)
    by_cases c : V < n
    · rw [if_pos c] at e8
      have h1 := f1 d' e'
      have h0 := f0 d' e'
      rw [← e8] at h1
      refine AJ.run kX1_take [] 60 ⟨p, rfl, by omega, fun w => absurd w (by rw [e8]; exact nI_m1 (by omega)), fun _ => ⟨fun w => h0 (fun b => ?_), fun w => h1 ?_⟩⟩
      · rw [e8] at w
        exact nI_ge b (by omega) w
      · rcases Nat.lt_or_ge V Lm with b | b
        · exact b
        · exact absurd (by rw [e8]; exact nI_le b (by omega)) w
    · rw [if_neg c] at e8
      have h0 := f0 d' e' (by omega)
      exact AJ.run kX1_take [] 60 ⟨p, rfl, by omega, fun _ => h0, fun w => absurd e8 w⟩
  have loop : ∀ (k n : Nat) (d' : xN) (e' : Nat → xN), Lm - n = k → n ≤ 60 → RD m n sp s a d' e' (G n) → AJ L mX1_take 4 0 0 Q (feW kn (nI p) mo (nI Lm) ho us fi se t ta d1 e1 d2 e2 d3 e3 u ua).length (0, 0) 6 [some (.ref 0), some (.ref 24), some (.int q), some (.int y), some (.int z), some (.int (nI n))] [] (feW kn (nI p) mo (nI Lm) ho us fi se t ta d1 e1 d' e' d3 e3 u ua) := by
    intro k
    induction k with
    | zero =>
      intro n d' e' hk hn hRn
      exact AJ.run kX1_take [38] 30 ⟨fun _ => g38 n d' e' hn (Or.inl (by omega)) hRn, fun w => absurd (nI_le (by omega) (by omega)) w⟩
    | succ k ih =>
      intro n d' e' hk hn hRn
      have e8 : e' 8 p = if V < n then nI V else -1 := (hRn.2.2.1.2 p hp).1.trans (hVn n hn)
      refine AJ.run kX1_take [6, 38] 30 ⟨fun w => absurd w (nI_ge (by omega) (by omega)), fun _ => ⟨p, rfl, by omega, fun w => g38 n d' e' hn (Or.inr ?_) hRn, fun w => ?_⟩⟩
      · by_cases c : V < n
        · exact c
        · rw [if_neg c] at e8
          exact absurd e8 w
      refine AJ.callX kX1_take (cD_passMinute L d' e' t ta l m sp n s a (G n) hW hT (by omega) (hI n hn) hRn) bX0_passMinute rfl (by decide +kernel) [24, 25, 26, 27, 28, 29, 30, 31, 32, 33, 34, 35, 36, 1, 2, 3, 4, 5, 6, 7, 8, 9, 10] [] rfl rfl rfl rfl rfl rfl rfl rfl rfl rfl ?_
      rintro r Y ⟨rfl, d'', e'', hR2, rfl⟩
      refine ⟨(feW kn (nI p) mo (nI Lm) ho us fi se t ta d1 e1 d'' e'' d3 e3 u ua), rfl, rfl, ?_⟩
      rw [← st n (by omega)] at hR2
      have nxt := ih (n + 1) d'' e'' (by omega) (by omega) hR2
      rw [nI_succ] at nxt
      exact AJ.run kX1_take [6] 30 nxt
  have d3g : d2 3 = nI g := hR.2.1.1.trans (hI g hg).1.1.1
  have lp := loop _ g d2 e2 rfl hg hR
  rw [← d3g] at lp
  exact AJ.run kX1_take [6] 30 lp
set_option maxHeartbeats 1000000 in
theorem cF_take3 (L : xLn) (Q : Option Value → List xE → Prop) (kn mo ho us fi se q y z : Int32) (l m sp g p Lm V : Nat) (s : xN) (a : Nat → xN) (t : xN) (ta : Nat → xN) (d1 : xN) (e1 : Nat → xN) (d2 : xN) (e2 : Nat → xN) (d3 : xN) (e3 : Nat → xN) (u : xN) (ua : Nat → xN) (hW : WD l m sp s a) (hT : RT m t ta s a) (hp : p < 8) (hL : Lm ≤ 60) (hg : g ≤ 60) (hV : homV s a m p V) (hR : RD m g sp s a d3 e3 (dyL s a m g)) (f1 : ∀ d' e', V < Lm → Q none (feW kn (nI p) mo (nI V) (nI V) q y z t ta d1 e1 d2 e2 d' e' u ua)) (f0 : ∀ d' e', ¬ V < Lm → Q none (feW kn (nI p) mo (nI Lm) ho us fi se t ta d1 e1 d2 e2 d' e' u ua)) : CT L mX1_take 4 0 0 [.ref 0, .ref 37, .int q, .int y, .int z] (feW kn (nI p) mo (nI Lm) ho us fi se t ta d1 e1 d2 e2 d3 e3 u ua) Q := by
  have hI : ∀ n, n ≤ 60 → ID l m n n s a (dyL s a m n) := fun n hn => by
    have := ID_goL hW (ID_begin hW (fun _ => 0)) n (by omega)
    rw [Nat.zero_add] at this
    exact this
  have st : ∀ n, n < 60 → dyL s a m (n + 1) = minP s a m (dyL s a m n) := fun n hn => goL_step hW (ID_begin hW _) (by omega)
  obtain ⟨hV60, -, hVn⟩ := hV
  obtain ⟨G, hG⟩ : ∃ G : Nat → xN, G = fun n => dyL s a m n := ⟨_, rfl⟩
  have hR : RD m g sp s a d3 e3 (G g) := by rw [hG]; exact hR
  have hI : ∀ n, n ≤ 60 → ID l m n n s a (G n) := by rw [hG]; exact hI
  have st : ∀ n, n < 60 → G (n + 1) = minP s a m (G n) := by rw [hG]; exact st
  have hVn : ∀ n, n ≤ 60 → G n (25 + p) = if V < n then nI V else -1 := by rw [hG]; exact hVn
  clear hG
  refine CT.of rfl (Nat.le_of_ble_eq_true rfl) (Nat.le_of_ble_eq_true rfl) ?_
  have g38 : ∀ (n : Nat) (d' : xN) (e' : Nat → xN), n ≤ 60 → (Lm ≤ n ∨ V < n) → RD m n sp s a d' e' (G n) → AJ L mX1_take 4 0 0 Q (feW kn (nI p) mo (nI Lm) ho us fi se t ta d1 e1 d2 e2 d3 e3 u ua).length (0, 0) 38 [some (.ref 0), some (.ref 37), some (.int q), some (.int y), some (.int z), some (.int (nI n))] [] (feW kn (nI p) mo (nI Lm) ho us fi se t ta d1 e1 d2 e2 d' e' u ua) := by
    intro n d' e' hn hx hRn
    have e8 : e' 8 p = if V < n then nI V else -1 := (hRn.2.2.1.2 p hp).1.trans (hVn n hn)
    by_cases c : V < n
    · rw [if_pos c] at e8
      have h1 := f1 d' e'
      have h0 := f0 d' e'
      rw [← e8] at h1
      refine AJ.run kX1_take [] 60 ⟨p, rfl, by omega, fun w => absurd w (by rw [e8]; exact nI_m1 (by omega)), fun _ => ⟨fun w => h0 (fun b => ?_), fun w => h1 ?_⟩⟩
      · rw [e8] at w
        exact nI_ge b (by omega) w
      · rcases Nat.lt_or_ge V Lm with b | b
        · exact b
        · exact absurd (by rw [e8]; exact nI_le b (by omega)) w
    · rw [if_neg c] at e8
      have h0 := f0 d' e' (by omega)
      exact AJ.run kX1_take [] 60 ⟨p, rfl, by omega, fun _ => h0, fun w => absurd e8 w⟩
  have loop : ∀ (k n : Nat) (d' : xN) (e' : Nat → xN), Lm - n = k → n ≤ 60 → RD m n sp s a d' e' (G n) → AJ L mX1_take 4 0 0 Q (feW kn (nI p) mo (nI Lm) ho us fi se t ta d1 e1 d2 e2 d3 e3 u ua).length (0, 0) 6 [some (.ref 0), some (.ref 37), some (.int q), some (.int y), some (.int z), some (.int (nI n))] [] (feW kn (nI p) mo (nI Lm) ho us fi se t ta d1 e1 d2 e2 d' e' u ua) := by
    intro k
    induction k with
    | zero =>
      intro n d' e' hk hn hRn
      exact AJ.run kX1_take [38] 30 ⟨fun _ => g38 n d' e' hn (Or.inl (by omega)) hRn, fun w => absurd (nI_le (by omega) (by omega)) w⟩
    | succ k ih =>
      intro n d' e' hk hn hRn
      have e8 : e' 8 p = if V < n then nI V else -1 := (hRn.2.2.1.2 p hp).1.trans (hVn n hn)
      refine AJ.run kX1_take [6, 38] 30 ⟨fun w => absurd w (nI_ge (by omega) (by omega)), fun _ => ⟨p, rfl, by omega, fun w => g38 n d' e' hn (Or.inr ?_) hRn, fun w => ?_⟩⟩
      · by_cases c : V < n
        · exact c
        · rw [if_neg c] at e8
          exact absurd e8 w
      refine AJ.callX kX1_take (cD_passMinute L d' e' t ta l m sp n s a (G n) hW hT (by omega) (hI n hn) hRn) bX0_passMinute rfl (by decide +kernel) [37, 38, 39, 40, 41, 42, 43, 44, 45, 46, 47, 48, 49, 1, 2, 3, 4, 5, 6, 7, 8, 9, 10] [] rfl rfl rfl rfl rfl rfl rfl rfl rfl rfl ?_
      rintro r Y ⟨rfl, d'', e'', hR2, rfl⟩
      refine ⟨(feW kn (nI p) mo (nI Lm) ho us fi se t ta d1 e1 d2 e2 d'' e'' u ua), rfl, rfl, ?_⟩
      rw [← st n (by omega)] at hR2
      have nxt := ih (n + 1) d'' e'' (by omega) (by omega) hR2
      rw [nI_succ] at nxt
      exact AJ.run kX1_take [6] 30 nxt
  have d3g : d3 3 = nI g := hR.2.1.1.trans (hI g hg).1.1.1
  have lp := loop _ g d3 e3 rfl hg hR
  rw [← d3g] at lp
  exact AJ.run kX1_take [6] 30 lp
/-- the class's best: limit, homed, used, first, second -/
def hoP (T : bT) : Int32 := if T.1 = 60 then -1 else nI T.1
def feB2 (kn mo : Int32) (p : Nat) (T : bT) (t : xN) (ta : Nat → xN) (d1 : xN) (e1 : Nat → xN) (d2 : xN) (e2 : Nat → xN) (d3 : xN) (e3 : Nat → xN) (u : xN) (ua : Nat → xN) : List xE := feW kn (nI p) mo (nI T.1) (hoP T) T.2.1 T.2.2.1 T.2.2.2 t ta d1 e1 d2 e2 d3 e3 u ua
theorem btN_y {v q y z : Nat} {T : bT} (h : v < T.1) : btN v q y z T = (v, nI q, if 0 < q then nI y else -1, if 1 < q then nI z else -1) := if_pos h
theorem btN_n {v q y z : Nat} {T : bT} (h : ¬ v < T.1) : btN v q y z T = T := if_neg h
theorem hoP_v {v : Nat} {a b c : Int32} (h : v < 60) : hoP (v, a, b, c) = nI v := if_neg (by dsimp only; omega)
theorem cF_tk1 (L : xLn) (Q : Option Value → List xE → Prop) (kn mo : Int32) (T : bT) (l m sp g p V : Nat) (s : xN) (a : Nat → xN) (t : xN) (ta : Nat → xN) (d1 : xN) (e1 : Nat → xN) (d2 : xN) (e2 : Nat → xN) (d3 : xN) (e3 : Nat → xN) (u : xN) (ua : Nat → xN) (hW : WD l m sp s a) (hT : RT m t ta s a) (hp : p < 8) (hL : T.1 ≤ 60) (hg : g ≤ 60) (hV : homV s a m p V) (hR : RD m g sp s a d1 e1 (dyL s a m g)) (f : ∀ d' e', Q none (feB2 kn mo p (btN V 0 0 0 T) t ta d' e' d2 e2 d3 e3 u ua)) : CT L mX1_take 4 0 0 [.ref 0, .ref 11, .int 0, .int (-1), .int (-1)] (feB2 kn mo p T t ta d1 e1 d2 e2 d3 e3 u ua) Q := by
  refine cF_take1 L Q kn mo (hoP T) T.2.1 T.2.2.1 T.2.2.2 0 (-1) (-1) l m sp g p T.1 V s a t ta d1 e1 d2 e2 d3 e3 u ua hW hT hp hL hg hV hR (fun d' e' hv => ?_) (fun d' e' hv => ?_)
  · have := f d' e'
    rw [btN_y hv] at this
    unfold feB2 at this
    rw [hoP_v (by omega)] at this
    exact this
  · have := f d' e'
    rw [btN_n hv] at this
    exact this
theorem cF_tk2 (L : xLn) (Q : Option Value → List xE → Prop) (kn mo : Int32) (T : bT) (l m sp g p V : Nat) (y : Nat) (s : xN) (a : Nat → xN) (t : xN) (ta : Nat → xN) (d1 : xN) (e1 : Nat → xN) (d2 : xN) (e2 : Nat → xN) (d3 : xN) (e3 : Nat → xN) (u : xN) (ua : Nat → xN) (hW : WD l m sp s a) (hT : RT m t ta s a) (hp : p < 8) (hL : T.1 ≤ 60) (hg : g ≤ 60) (hV : homV s a m p V) (hR : RD m g sp s a d2 e2 (dyL s a m g)) (f : ∀ d' e', Q none (feB2 kn mo p (btN V 1 y 0 T) t ta d1 e1 d' e' d3 e3 u ua)) : CT L mX1_take 4 0 0 [.ref 0, .ref 24, .int 1, .int (nI y), .int (-1)] (feB2 kn mo p T t ta d1 e1 d2 e2 d3 e3 u ua) Q := by
  refine cF_take2 L Q kn mo (hoP T) T.2.1 T.2.2.1 T.2.2.2 1 (nI y) (-1) l m sp g p T.1 V s a t ta d1 e1 d2 e2 d3 e3 u ua hW hT hp hL hg hV hR (fun d' e' hv => ?_) (fun d' e' hv => ?_)
  · have := f d' e'
    rw [btN_y hv] at this
    unfold feB2 at this
    rw [hoP_v (by omega)] at this
    exact this
  · have := f d' e'
    rw [btN_n hv] at this
    exact this
theorem cF_tk3 (L : xLn) (Q : Option Value → List xE → Prop) (kn mo : Int32) (T : bT) (l m sp g p V : Nat) (y z : Nat) (s : xN) (a : Nat → xN) (t : xN) (ta : Nat → xN) (d1 : xN) (e1 : Nat → xN) (d2 : xN) (e2 : Nat → xN) (d3 : xN) (e3 : Nat → xN) (u : xN) (ua : Nat → xN) (hW : WD l m sp s a) (hT : RT m t ta s a) (hp : p < 8) (hL : T.1 ≤ 60) (hg : g ≤ 60) (hV : homV s a m p V) (hR : RD m g sp s a d3 e3 (dyL s a m g)) (f : ∀ d' e', Q none (feB2 kn mo p (btN V 2 y z T) t ta d1 e1 d2 e2 d' e' u ua)) : CT L mX1_take 4 0 0 [.ref 0, .ref 37, .int 2, .int (nI y), .int (nI z)] (feB2 kn mo p T t ta d1 e1 d2 e2 d3 e3 u ua) Q := by
  refine cF_take3 L Q kn mo (hoP T) T.2.1 T.2.2.1 T.2.2.2 2 (nI y) (nI z) l m sp g p T.1 V s a t ta d1 e1 d2 e2 d3 e3 u ua hW hT hp hL hg hV hR (fun d' e' hv => ?_) (fun d' e' hv => ?_)
  · have := f d' e'
    rw [btN_y hv] at this
    unfold feB2 at this
    rw [hoP_v (by omega)] at this
    exact this
  · have := f d' e'
    rw [btN_n hv] at this
    exact this
theorem cF_tryNone (L : xLn) (Q : Option Value → List xE → Prop) (kn mo : Int32) (T : bT) (l m sp p V : Nat) (s : xN) (a : Nat → xN) (t : xN) (ta : Nat → xN) (d1 : xN) (e1 : Nat → xN) (d2 : xN) (e2 : Nat → xN) (d3 : xN) (e3 : Nat → xN) (u : xN) (ua : Nat → xN) (hW : WD l m sp s a) (hT : RT m t ta s a) (h30 : s 30 = t 1) (h31 : s 31 = t 2) (hp : p < 8) (hL : T.1 ≤ 60) (hV : homV s a m p V) (f : ∀ d' e', Q none (feB2 kn mo p (btN V 0 0 0 T) t ta d' e' d2 e2 d3 e3 u ua)) : CT L mX1_tryNone 5 0 0 [.ref 0] (feB2 kn mo p T t ta d1 e1 d2 e2 d3 e3 u ua) Q := by
  refine CT.of rfl (Nat.le_of_ble_eq_true rfl) (Nat.le_of_ble_eq_true rfl) ?_
  refine AJ.run kX1_tryNone [] 30 ?_
  refine AJ.callX kX1_tryNone (cD_begin L d1 e1 t ta m sp s a (t 1) (t 2) (by have := hW.2.1; omega) hT h30 h31) bX0_begin rfl (by decide +kernel) [11, 12, 13, 14, 15, 16, 17, 18, 19, 20, 21, 22, 23, 1, 2, 3, 4, 5, 6, 7, 8, 9, 10] [] rfl rfl rfl rfl rfl rfl rfl rfl rfl rfl ?_
  rintro r Y ⟨rfl, db, eb, hRb, rfl⟩
  refine ⟨(feB2 kn mo p T t ta db eb d2 e2 d3 e3 u ua), rfl, rfl, ?_⟩
  have hRb := hRb (fun _ => 0)
  refine AJ.run kX1_tryNone [] 30 ?_
  refine AJ.callF kX1_tryNone (cF_tk1 L (fun r Y => r = none ∧ ∃ d' e', Y = (feB2 kn mo p (btN V 0 0 0 T) t ta d' e' d2 e2 d3 e3 u ua)) kn mo T l m sp 0 p V s a t ta db eb d2 e2 d3 e3 u ua hW hT hp hL (by omega) hV hRb (fun d' e' => ⟨rfl, d', e', rfl⟩)) bX1_take rfl (by decide +kernel) [] rfl rfl rfl rfl rfl rfl rfl rfl ?_
  rintro r Y ⟨rfl, d', e', rfl⟩
  exact ⟨rfl, rfl, AJ.run kX1_tryNone [] 30 (f d' e')⟩
theorem upd_upd (t : xN) (k : Nat) (x y : Int32) : upd (upd t k x) k y = upd t k y := by
  funext i
  unfold upd
  split <;> rfl
theorem kindP_3 {v : Nat} (hv : v < 8) : ∃ k, k < 3 ∧ kindP (nI v) = nI k := by
  unfold kindP
  split
  · exact ⟨0, by omega, rfl⟩
  split
  · exact ⟨1, by omega, rfl⟩
  · exact ⟨2, by omega, rfl⟩
set_option maxHeartbeats 2000000 in
theorem cF_tryOne (L : xLn) (Q : Option Value → List xE → Prop) (kn mo : Int32) (T : bT) (l m sp p k v V0 : Nat) (V1 : Nat → Nat) (V2 : Nat → Nat → Nat) (s : xN) (a : Nat → xN) (t : xN) (ta : Nat → xN) (d1 : xN) (e1 : Nat → xN) (d2 : xN) (e2 : Nat → xN) (d3 : xN) (e3 : Nat → xN) (u : xN) (ua : Nat → xN) (hW : WD l m sp s a) (hm : m ≤ 24) (hT : RT m t ta s a) (h30 : s 30 = t 1) (h31 : s 31 = t 2) (hp : p < 8) (hf : hasP (s 7) (nI p) = true) (hv : v < 8) (ht : t 1 = nI v) (hk : k < 3) (hkd : kindP (t 1) = nI k) (hL : T.1 ≤ 60) (hT0 : T.1 ≤ V0) (hfV : fV V0 V1 V2) (hV1 : ∀ y, y < 60 → homV s (fA1 a m p k y) (m + 1) p (V1 y))
    (f : ∀ t' ta' d1 e1 d2 e2, RT m t' ta' s a → Q none (feB2 kn mo p (fo1 V1 T 60) t' ta' d1 e1 d2 e2 d3 e3 u ua)) : CT L mX1_tryOne 5 0 0 [.ref 0] (feB2 kn mo p T t ta d1 e1 d2 e2 d3 e3 u ua) Q := by
  refine CT.of rfl (Nat.le_of_ble_eq_true rfl) (Nat.le_of_ble_eq_true rfl) ?_
  refine AJ.run kX1_tryOne [] 30 ?_
  refine AJ.callX kX1_tryOne (cD_begin L d1 e1 t ta m sp s a (t 1) (t 2) (by have := hW.2.1; omega) hT h30 h31) bX0_begin rfl (by decide +kernel) [11, 12, 13, 14, 15, 16, 17, 18, 19, 20, 21, 22, 23, 1, 2, 3, 4, 5, 6, 7, 8, 9, 10] [] rfl rfl rfl rfl rfl rfl rfl rfl rfl rfl ?_
  rintro r Y ⟨rfl, db, eb, hRb, rfl⟩
  refine ⟨(feB2 kn mo p T t ta db eb d2 e2 d3 e3 u ua), rfl, rfl, ?_⟩
  have hRb := hRb (fun _ => 0)
  have hI : ∀ n, n ≤ 60 → ID l m n n s a (dyL s a m n) := fun n hn => by
    have := ID_goL hW (ID_begin hW (fun _ => 0)) n (by omega)
    rw [Nat.zero_add] at this
    exact this
  have st : ∀ n, n < 60 → dyL s a m (n + 1) = minP s a m (dyL s a m n) := fun n hn => goL_step hW (ID_begin hW _) (by omega)
  have l12 := hW.1.2.1
  have hkv : kindP (nI v) = nI k := by rw [← ht]; exact hkd
  have loop : ∀ (n i : Nat) (t : xN) (ta : Nat → xN) (d1 : xN) (e1 : Nat → xN) (d2 : xN) (e2 : Nat → xN), i + n = 60 → RT m t ta s a → t 1 = nI v → RD m i sp s a d1 e1 (dyL s a m i) → AJ L mX1_tryOne 5 0 0 Q (feB2 kn mo p T t ta d1 e1 d2 e2 d3 e3 u ua).length (0, 0) 23 [some (.ref 0), some (.int (nI i))] [] (feB2 kn mo p (fo1 V1 T i) t ta d1 e1 d2 e2 d3 e3 u ua) := by
    intro n
    induction n with
    | zero =>
      intro i t ta d1 e1 d2 e2 hi hT ht hR
      obtain rfl : i = 60 := by omega
      have le := (fo1_le (V1 := V1) (T := T) 60).1
      have := f t ta d1 e1 d2 e2 hT
      exact AJ.run kX1_tryOne [23] 30 ⟨fun _ => this, fun w => absurd (nI_le (by omega) (by omega)) w⟩
    | succ n ih =>
      intro i t ta d1 e1 d2 e2 hi hT ht hR
      have le := (fo1_le (V1 := V1) (T := T) i).1
      have e12 : upd t 12 (nI m) = t := upd_id hT.1.2.2.2.2.2.2.2
      have hkd2 : kindP (t 1) = nI k := by rw [ht]; exact hkv
      refine AJ.run kX1_tryOne [23] 30 ⟨fun w => ?_, fun w => ?_⟩
      · have w : nI (fo1 V1 T i).1 ≤ nI i := w
        have hle : (fo1 V1 T i).1 ≤ i := by
          rcases Nat.lt_or_ge i (fo1 V1 T i).1 with b | b
          · exact absurd w (nI_ge b (by omega))
          · exact b
        have := f t ta d1 e1 d2 e2 hT
        rw [fV_one hfV hT0 hle (by omega)] at this
        exact this
      · refine AJ.callP kX1_tryOne (cT_leastKind L t ta v hv ht) bX6_leastKind rfl (by decide +kernel) [1, 2, 3, 4, 5, 6, 7, 8, 9, 10] [.int (nI p), .ref 1] rfl rfl rfl rfl rfl rfl rfl rfl rfl rfl ?_
        rintro r rfl
        rw [hkd2]
        refine AJ.run kX1_tryOne [23] 30 ?_
        have ca := cT_addMood L t ta m i (by omega) (by omega) (nI p) (nI k)
        rw [e12] at ca
        refine AJ.callX kX1_tryOne ca bX6_addMood rfl (by decide +kernel) [1, 2, 3, 4, 5, 6, 7, 8, 9, 10] [] rfl rfl rfl rfl rfl rfl rfl rfl rfl rfl ?_
        rintro r Y ⟨rfl, rfl⟩
        refine ⟨(feB2 kn mo p (fo1 V1 T i) (upd t 12 (nI m + 1)) (tAdd ta m (nI p) (nI k) i) d1 e1 d2 e2 d3 e3 u ua), rfl, rfl, ?_⟩
        have hTa : RT (m + 1) (upd t 12 (nI m + 1)) (tAdd ta m (nI p) (nI k) i) s (fA1 a m p k i) := RT_add (by omega) (by omega) hT
        refine AJ.run kX1_tryOne [23] 30 ?_
        refine AJ.callX kX1_tryOne (cD_copyFrom L d2 e2 d1 e1 (upd t 12 (nI m + 1)) (tAdd ta m (nI p) (nI k) i)) bX0_copyFrom rfl (by decide +kernel) [24, 25, 26, 27, 28, 29, 30, 31, 32, 33, 34, 35, 36, 11, 12, 13, 14, 15, 16, 17, 18, 19, 20, 21, 22, 23, 1, 2, 3, 4, 5, 6, 7, 8, 9, 10] [] rfl rfl rfl rfl rfl rfl rfl rfl rfl rfl ?_
        rintro r Y ⟨rfl, rfl⟩
        refine ⟨(feB2 kn mo p (fo1 V1 T i) (upd t 12 (nI m + 1)) (tAdd ta m (nI p) (nI k) i) d1 e1 d1 e1 d3 e3 u ua), rfl, rfl, ?_⟩
        have hW1 : WD l (m + 1) sp s (fA1 a m p k i) := WD_add hW (by omega) hp hf hk (by omega)
        have hR1 : RD (m + 1) i sp s (fA1 a m p k i) d1 e1 (dyL s (fA1 a m p k i) (m + 1) i) := by
          unfold fA1
          rw [dyL_ext hW (by omega) hp hf hk (by omega) (Nat.le_refl _)]
          exact RD_ext (by omega) l12 (moX_add m a (nI p) (nI k) i).1 (hI i (by omega)) hR
        refine AJ.run kX1_tryOne [23] 30 ?_
        refine AJ.callF kX1_tryOne (cF_tk2 L (fun r Y => r = none ∧ ∃ d' e', Y = (feB2 kn mo p (btN (V1 i) 1 i 0 (fo1 V1 T i)) (upd t 12 (nI m + 1)) (tAdd ta m (nI p) (nI k) i) d1 e1 d' e' d3 e3 u ua)) kn mo (fo1 V1 T i) l (m + 1) sp i p (V1 i) i s (fA1 a m p k i) (upd t 12 (nI m + 1)) (tAdd ta m (nI p) (nI k) i) d1 e1 d1 e1 d3 e3 u ua hW1 hTa hp (by omega) (by omega) (hV1 i (by omega)) hR1 (fun d' e' => ⟨rfl, d', e', rfl⟩)) bX1_take rfl (by decide +kernel) [] rfl rfl rfl rfl rfl rfl rfl rfl ?_
        rintro r Y ⟨rfl, d2', e2', rfl⟩
        refine ⟨rfl, rfl, ?_⟩
        refine AJ.run kX1_tryOne [23] 30 ?_
        have cd := cT_dropLastMood L t (tAdd ta m (nI p) (nI k) i) m i (by omega) (by omega) pk_us
        rw [← nI_1] at cd
        refine AJ.callX kX1_tryOne cd bX6_dropLastMood rfl (by decide +kernel) [1, 2, 3, 4, 5, 6, 7, 8, 9, 10] [] rfl rfl rfl rfl rfl rfl rfl rfl rfl rfl ?_
        rintro r Y ⟨rfl, rfl⟩
        refine ⟨(feB2 kn mo p (btN (V1 i) 1 i 0 (fo1 V1 T i)) (upd t 12 (nI m)) (tDrop (tAdd ta m (nI p) (nI k) i) m i) d1 e1 d2' e2' d3 e3 u ua), rfl, rfl, ?_⟩
        have hTd := RT_drop (a' := a) (by omega) (by omega) hTa (moX_add m a (nI p) (nI k) i).2 rfl rfl (fun j hj => ((moX_add m a (nI p) (nI k) i).1.2.2 j hj).symm)
        rw [upd_upd, e12] at hTd
        rw [e12]
        refine AJ.run kX1_tryOne [23] 30 ?_
        refine AJ.callX kX1_tryOne (cD_passMinute L d1 e1 t (tDrop (tAdd ta m (nI p) (nI k) i) m i) l m sp i s a (dyL s a m i) hW hTd (by omega) (hI i (by omega)) hR) bX0_passMinute rfl (by decide +kernel) [11, 12, 13, 14, 15, 16, 17, 18, 19, 20, 21, 22, 23, 1, 2, 3, 4, 5, 6, 7, 8, 9, 10] [] rfl rfl rfl rfl rfl rfl rfl rfl rfl rfl ?_
        rintro r Y ⟨rfl, d1', e1', hR2, rfl⟩
        rw [← st i (by omega)] at hR2
        refine ⟨(feB2 kn mo p (btN (V1 i) 1 i 0 (fo1 V1 T i)) t (tDrop (tAdd ta m (nI p) (nI k) i) m i) d1' e1' d2' e2' d3 e3 u ua), rfl, rfl, ?_⟩
        have nxt := ih (i + 1) t (tDrop (tAdd ta m (nI p) (nI k) i) m i) d1' e1' d2' e2' (by omega) hTd ht hR2
        rw [nI_succ, fo1] at nxt
        exact AJ.run kX1_tryOne [23] 30 nxt
  exact AJ.run kX1_tryOne [23] 30 (loop 60 0 t ta db eb d2 e2 (by omega) hT ht hRb)
