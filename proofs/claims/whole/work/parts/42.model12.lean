/-! ===== the reference: what is asked of today; kept days; seen halts; the text ===== -/
theorem in_lt {k : Int32} {m : Nat} (hm : m < 1000) (h : inP k 0 (nI m - 1) = true) : ∃ p, p < m ∧ k = nI p := by
  have h := of_decide_eq_true h
  cases m with
  | zero =>
    exfalso
    obtain ⟨h1, h2⟩ := h
    have e : (nI 0 - 1 : Int32).toInt = -1 := rfl
    have e0 : (0 : Int32).toInt = 0 := rfl
    simp only [i32_le] at h1 h2
    omega
  | succ m =>
    rw [nI_pred] at h
    obtain ⟨p, hp, e⟩ := inP_nI (n := m) (by omega) (decide_eq_true h)
    exact ⟨p, by omega, e⟩
theorem lt_in {p m : Nat} (hm : m < 1000) (h : p < m) : inP (nI p) 0 (nI m - 1) = true := by
  obtain ⟨q, rfl⟩ : ∃ q, m = q + 1 := ⟨m - 1, by omega⟩
  rw [nI_pred]
  exact decide_eq_true ⟨nI_pos' (by omega), nI_le (by omega) (by omega)⟩
def moodP (s : xN) (a : Nat → xN) (k w : Int32) : Int32 := if inP k 0 (s 9 - 1) = true then (if w = 0 then a 10 (3 * k.toNatClampNeg) else if w = 1 then a 10 (3 * k.toNatClampNeg + 1) else if w = 2 then a 10 (3 * k.toNatClampNeg + 2) else if w = 3 then a 26 (41 + k.toNatClampNeg) else if w = 4 then a 26 (67 + k.toNatClampNeg) else -3) else -2
theorem c8_mood (L : xLn) (s : xN) (j : Int64) (a : Nat → xN) (m : Nat) (hok : okT s a m) (k w : Int32) : CT L mX8_mood 1 0 0 [.ref 0, .int k, .int w] (modW s j a) (fun r Y => r = some (.int (moodP s a k w)) ∧ Y = modW s j a) := by
  refine CT.of rfl (Nat.le_of_ble_eq_true rfl) (Nat.le_of_ble_eq_true rfl) ?_
  refine AJ.run kX8_mood [] 60 ?_
  refine AJ.callZ kX8_mood (c8_in L k 0 (s 9 - 1)) bX8_in rfl (by decide +kernel) [] rfl rfl rfl rfl rfl ?_
  rintro r rfl
  refine AJ.run kX8_mood [17] 60 ⟨fun h => ?_, fun h => ⟨by rw [bI_eq0] at h; rw [moodP, if_neg (by rw [h]; simp)], rfl⟩⟩
  rw [bI_ne0] at h
  have h1 := h
  rw [hok.1] at h1
  obtain ⟨p, hp, rfl⟩ := in_lt (by have := hok.2.1; omega) h1
  have hm := hok.2.1
  have cl : (nI p).toNatClampNeg = p := nI_clamp (by omega)
  rw [moodP, if_pos h, cl]
  refine AJ.run kX8_mood [] 60 ⟨fun e => ⟨3 * p, ?_, by omega, ?_, rfl⟩, fun n0 => ⟨fun e => ⟨3 * p + 1, ?_, by omega, ?_, rfl⟩, fun n1 => ⟨fun e => ⟨3 * p + 2, ?_, by omega, ?_, rfl⟩, fun n2 => ⟨fun e => ⟨41 + p, nI_add 41 p, by omega, ?_, rfl⟩, fun n3 => ⟨fun e => ⟨67 + p, nI_add 67 p, by omega, ?_, rfl⟩, fun n4 => ⟨?_, rfl⟩⟩⟩⟩⟩⟩
  · subst e; simp only [fa_lit, nI_add, pk_mul]; rfl
  · subst e; rfl
  · subst e; simp only [fa_lit, nI_add, pk_mul]
  · subst e; rfl
  · subst e; simp only [fa_lit, nI_add, pk_mul]
  · subst e; rfl
  · subst e; rfl
  · subst e; rfl
  · rw [if_neg n0, if_neg n1, if_neg n2, if_neg n3, if_neg n4]
def personP (s : xN) (a : Nat → xN) (k w : Int32) : Int32 := if isPersonP s k = true then (if w = 0 then plP (a 26) k.toNatClampNeg else if w = 1 then a 26 (17 + k.toNatClampNeg) else if w = 2 then a 26 (25 + k.toNatClampNeg) else if w = 3 then a 26 (33 + k.toNatClampNeg) else if w = 4 then a 8 (2 * k.toNatClampNeg + 1) else -3) else -2
theorem c8_person (L : xLn) (s : xN) (j : Int64) (a : Nat → xN) (hN : abO (a 26)) (k w : Int32) : CT L mX8_person 2 0 0 [.ref 0, .int k, .int w] (modW s j a) (fun r Y => r = some (.int (personP s a k w)) ∧ Y = modW s j a) := by
  refine CT.of rfl (Nat.le_of_ble_eq_true rfl) (Nat.le_of_ble_eq_true rfl) ?_
  refine AJ.run kX8_person [] 60 ?_
  refine AJ.callF kX8_person (c8_isPerson L s j a k) bX8_isPerson rfl (by decide +kernel) [] rfl rfl rfl rfl rfl rfl rfl rfl ?_
  rintro r Y ⟨rfl, rfl⟩
  refine ⟨rfl, rfl, AJ.run kX8_person [11] 60 ⟨fun h => ?_, fun h => ⟨by rw [bI_eq0] at h; rw [personP, if_neg (by rw [h]; simp)], rfl⟩⟩⟩
  rw [bI_ne0] at h
  have hk : ∃ p, p ≤ 7 ∧ k = nI p := by
    have h2 := h
    simp only [isPersonP, Bool.and_eq_true] at h2
    exact inP_nI (n := 7) (by omega) h2.1
  obtain ⟨p, hp, rfl⟩ := hk
  have cl : (nI p).toNatClampNeg = p := nI_clamp (by omega)
  rw [personP, if_pos h, cl]
  refine AJ.run kX8_person [] 60 ⟨fun e => ?_, fun n0 => ⟨fun e => ⟨17 + p, nI_add 17 p, by omega, ?_, rfl⟩, fun n1 => ⟨fun e => ⟨25 + p, nI_add 25 p, by omega, ?_, rfl⟩, fun n2 => ⟨fun e => ⟨33 + p, nI_add 33 p, by omega, ?_, rfl⟩, fun n3 => ⟨fun e => ⟨2 * p + 1, ?_, by omega, ?_, rfl⟩, fun n4 => ⟨?_, rfl⟩⟩⟩⟩⟩⟩
  · refine AJ.callF kX8_person (c8_placeNow L s j a (a 26) p (by omega) hN) bX8_placeNow rfl (by decide +kernel) [] rfl rfl rfl rfl rfl rfl rfl rfl ?_
    rintro r Y ⟨rfl, rfl⟩
    exact ⟨rfl, rfl, AJ.run kX8_person [] 60 ⟨by subst e; rfl, rfl⟩⟩
  · subst e; rfl
  · subst e; rfl
  · subst e; rfl
  · simp only [fa_lit, nI_add, pk_mul]
  · subst e; rfl
  · rw [if_neg n0, if_neg n1, if_neg n2, if_neg n3, if_neg n4]
def abrL (fo : Int32) (N : xN) (k : Int32) : Nat → Int32
  | 0 => 0
  | q + 1 => abrL fo N k q ||| (if hasP fo (nI q) = true ∧ N (17 + q) = k then 1 <<< (nI q &&& 31) else 0)
def tramP (s : xN) (a : Nat → xN) (k w : Int32) : Int32 := if (inP k 0 1 && hasP (s 5) k) = true then (if w = 0 then a 26 (1 + k.toNatClampNeg) else if w = 1 then a 26 (3 + k.toNatClampNeg) else if w = 2 then abrL (s 7) (a 26) k 8 else if w = 3 then a 26 (7 + k.toNatClampNeg) else -3) else -2
theorem c8_tram_set (L : xLn) (Q : Option Value → List xE → Prop) (s : xN) (j : Int64) (a : Nat → xN) (n0 : Nat) (k w : Int32) (G : Nat → Int32) (hG : ∀ q, q < 8 → G (q + 1) = G q ||| (if hasP (s 7) (nI q) = true ∧ a 26 (17 + q) = k then 1 <<< (nI q &&& 31) else 0))
    (nxt : AJ L mX8_tram 2 0 0 Q n0 (0, 0) 66 [some (.ref 0), some (.int k), some (.int w), some (.int (G 8)), some (.int (nI 8))] [] (modW s j a)) :
    ∀ (n q : Nat), q + n = 8 → AJ L mX8_tram 2 0 0 Q n0 (0, 0) 16 [some (.ref 0), some (.int k), some (.int w), some (.int (G q)), some (.int (nI q))] [] (modW s j a) := by
  intro n
  induction n with
  | zero =>
    intro q hq
    obtain rfl : q = 8 := by omega
    exact AJ.run kX8_tram [16, 66] 60 ⟨fun _ => nxt, fun hz => absurd (by decide) hz⟩
  | succ n ih =>
    intro q hq
    have h2 := ih (q + 1) (by omega)
    rw [nI_succ, hG q (by omega)] at h2
    refine AJ.run kX8_tram [16] 60 ⟨fun hz => absurd hz (nI_ge (b := 8) (by omega) (by omega)), fun _ => ?_⟩
    refine AJ.callZ kX8_tram (c8_has L (s 7) (nI q)) bX8_has rfl (by decide +kernel) [.int (G q)] rfl rfl rfl rfl rfl ?_
    rintro r rfl
    refine AJ.run kX8_tram [16] 60 ⟨fun h3 => ?_, fun h3 => ⟨17 + q, nI_add 17 q, by omega, fun h4 => ?_, fun h4 => ?_⟩⟩
    · rw [bI_eq0] at h3
      rw [if_neg (by rw [h3]; simp)] at h2
      exact h2
    · have h4 : ¬ a 26 (17 + q) = k := h4
      rw [if_neg (fun z => h4 z.2)] at h2
      exact h2
    · have h4 : a 26 (17 + q) = k := h4
      rw [bI_ne0] at h3
      rw [if_pos ⟨h3, h4⟩] at h2
      exact h2
theorem c8_tram (L : xLn) (s : xN) (j : Int64) (a : Nat → xN) (k w : Int32) : CT L mX8_tram 2 0 0 [.ref 0, .int k, .int w] (modW s j a) (fun r Y => r = some (.int (tramP s a k w)) ∧ Y = modW s j a) := by
  refine CT.of rfl (Nat.le_of_ble_eq_true rfl) (Nat.le_of_ble_eq_true rfl) ?_
  refine AJ.run kX8_tram [] 60 ?_
  refine AJ.callF kX8_tram (c8_isTram L s j a k) bX8_isTram rfl (by decide +kernel) [] rfl rfl rfl rfl rfl rfl rfl rfl ?_
  rintro r Y ⟨rfl, rfl⟩
  refine ⟨rfl, rfl, AJ.run kX8_tram [11] 60 ⟨fun h => ?_, fun h => ⟨by rw [bI_eq0] at h; rw [tramP, if_neg (by rw [h]; simp)], rfl⟩⟩⟩
  rw [bI_ne0] at h
  have h2 := h
  simp only [Bool.and_eq_true] at h2
  obtain ⟨p, hp, rfl⟩ := inP_nI (n := 1) (by omega) h2.1
  have cl : (nI p).toNatClampNeg = p := nI_clamp (by omega)
  rw [tramP, if_pos h, cl]
  obtain ⟨G, hGe⟩ : ∃ G : Nat → Int32, G = abrL (s 7) (a 26) (nI p) := ⟨_, rfl⟩
  have hG0 : G 0 = 0 := by rw [hGe]; rfl
  have hG : ∀ q, q < 8 → G (q + 1) = G q ||| (if hasP (s 7) (nI q) = true ∧ a 26 (17 + q) = nI p then 1 <<< (nI q &&& 31) else 0) := fun q _ => by rw [hGe]; rfl
  rw [← hGe]
  clear hGe
  have := c8_tram_set L (fun r Y => r = some (.int (if w = 0 then a 26 (1 + p) else if w = 1 then a 26 (3 + p) else if w = 2 then G 8 else if w = 3 then a 26 (7 + p) else -3)) ∧ Y = modW s j a) s j a (modW s j a).length (nI p) w G hG ?_ 8 0 rfl
  · rw [hG0] at this
    exact AJ.run kX8_tram [16] 60 this
  refine AJ.run kX8_tram [] 60 ⟨fun e => ⟨1 + p, nI_add 1 p, by omega, ?_, rfl⟩, fun n0 => ⟨fun e => ⟨3 + p, nI_add 3 p, by omega, ?_, rfl⟩, fun n1 => ⟨fun e => ⟨?_, rfl⟩, fun n2 => ⟨fun e => ⟨7 + p, nI_add 7 p, by omega, ?_, rfl⟩, fun n3 => ⟨?_, rfl⟩⟩⟩⟩⟩
  · subst e; rfl
  · subst e; rfl
  · subst e; rfl
  · subst e; rfl
  · rw [if_neg n0, if_neg n1, if_neg n2, if_neg n3]
def haltQ (a : Nat → xN) (i w : Int32) : Int32 := if ¬ i < 0 ∧ inP w 0 4 = true then (if i < a 26 7 + a 26 8 then (if w < 4 then a 26 (93 + 4 * i.toNatClampNeg + w.toNatClampNeg) else a 10 (3 * (a 26 (93 + 4 * i.toNatClampNeg + 3)).toNatClampNeg)) else -1) else -3
theorem c8_halt (L : xLn) (s : xN) (j : Int64) (a : Nat → xN) (h : Nat) (hh : a 26 7 + a 26 8 = nI h) (h120 : h ≤ 120) (hr : ∀ i, i < h → ∃ c, c < 26 ∧ a 26 (93 + 4 * i + 3) = nI c) (i w : Int32) : CT L mX8_halt 1 0 0 [.ref 0, .int i, .int w] (modW s j a) (fun r Y => r = some (.int (haltQ a i w)) ∧ Y = modW s j a) := by
  refine CT.of rfl (Nat.le_of_ble_eq_true rfl) (Nat.le_of_ble_eq_true rfl) ?_
  refine AJ.run kX8_halt [16] 60 ⟨fun h1 => ⟨by rw [haltQ, if_neg (fun z => z.1 h1)], rfl⟩, fun h1 => ?_⟩
  refine AJ.callZ kX8_halt (c8_in L w 0 4) bX8_in rfl (by decide +kernel) [] rfl rfl rfl rfl rfl ?_
  rintro r rfl
  refine AJ.run kX8_halt [16] 60 ⟨fun h2 => ?_, fun h2 => ⟨by rw [bI_eq0] at h2; rw [haltQ, if_neg (fun z => by rw [h2] at z; simp at z)], rfl⟩⟩
  rw [bI_ne0] at h2
  rw [haltQ, if_pos ⟨h1, h2⟩]
  obtain ⟨q, hq, rfl⟩ := inP_nI (n := 4) (by omega) h2
  refine AJ.run kX8_halt [] 60 ?_
  refine AJ.callF kX8_halt (c8_haltMany L s j a) bX8_haltMany rfl (by decide +kernel) [.int i] rfl rfl rfl rfl rfl rfl rfl rfl ?_
  rintro r Y ⟨rfl, rfl⟩
  refine ⟨rfl, rfl, AJ.run kX8_halt [26] 60 ⟨fun h3 => ?_, fun h3 => ⟨by rw [if_neg h3], rfl⟩⟩⟩
  rw [if_pos h3]
  obtain ⟨p, hp, rfl⟩ := nI_of h1
  have h3 : nI p < a 26 7 + a 26 8 := h3
  rw [hh] at h3
  have hph : p < h := (nI_ltI (by omega) (by omega)).mp h3
  rw [nI_clamp (by omega), nI_clamp (by omega)]
  obtain ⟨c, hc, ec⟩ := hr p hph
  refine AJ.run kX8_halt [] 60 ⟨fun h4 => ⟨93 + 4 * p + 3, by simp only [fa_lit, nI_add, pk_mul], by omega, 3 * c, ?_, by omega, ?_, rfl⟩, fun h4 => ⟨93 + 4 * p + q, by simp only [fa_lit, nI_add, pk_mul], by have h5 : ¬ nI 4 ≤ nI q := h4; rw [nI_leI (by omega) (by omega)] at h5; omega, ?_, rfl⟩⟩
  · show 3 * a 26 (93 + 4 * p + 3) = nI (3 * c)
    rw [ec]; simp only [fa_lit, pk_mul]
  · have h4 : (4 : Int32) ≤ nI q := h4
    rw [if_neg (by
      intro z
      simp only [i32_lt, i32_le] at h4 z
      omega), ec, nI_clamp (by omega)]
  · have h4 : ¬ (4 : Int32) ≤ nI q := h4
    rw [if_pos (by
      simp only [i32_lt, i32_le] at h4 ⊢
      omega)]

