/-! ===== moods feigned: what is best ===== -/
abbrev bT : Type := Nat × Int32 × Int32 × Int32
def btN (v q y z : Nat) (T : bT) : bT := if v < T.1 then (v, nI q, if 0 < q then nI y else -1, if 1 < q then nI z else -1) else T
def bR (b : xN) (T : bT) : Prop := T.1 ≤ 60 ∧ b 0 = nI T.1 ∧ b 1 = T.2.1 ∧ b 2 = T.2.2.1 ∧ b 3 = T.2.2.2 ∧ (T.1 = 60 → T.2 = (-1, -1, -1))
theorem btN_le (v q y z : Nat) (T : bT) : (btN v q y z T).1 ≤ T.1 ∧ (btN v q y z T).1 ≤ v ∨ ¬ v < T.1 ∧ btN v q y z T = T := by
  unfold btN
  by_cases h : v < T.1
  · rw [if_pos h]; left; exact ⟨Nat.le_of_lt h, Nat.le_refl _⟩
  · rw [if_neg h]; right; exact ⟨h, rfl⟩
theorem btN_1 (v q y z : Nat) (T : bT) : (btN v q y z T).1 ≤ T.1 ∧ (btN v q y z T).1 ≤ v := by
  unfold btN
  by_cases h : v < T.1
  · rw [if_pos h]; exact ⟨Nat.le_of_lt h, Nat.le_refl _⟩
  · rw [if_neg h]; omega
theorem bst_N {b : xN} {T : bT} {v q y z : Nat} (h : bR b T) (hv : v ≤ 60) : bR (bstP (nI v) q y z b) (btN v q y z T) := by
  obtain ⟨h60, h0, h1, h2, h3, h4⟩ := h
  unfold bstP btN
  rw [h0]
  have e : (nI v < nI T.1) ↔ v < T.1 := nI_ltI (by omega) (by omega)
  by_cases c : v < T.1
  · rw [if_pos (e.mpr c), if_pos c]
    exact ⟨by dsimp only; omega, rfl, rfl, rfl, rfl, fun z => by dsimp only at z; omega⟩
  · rw [if_neg (fun z => c (e.mp z)), if_neg c]
    exact ⟨h60, h0, h1, h2, h3, h4⟩
def fo1 (V1 : Nat → Nat) (T : bT) : Nat → bT
  | 0 => T
  | i + 1 => btN (V1 i) 1 i 0 (fo1 V1 T i)
def fo2i (V2 : Nat → Nat → Nat) (y : Nat) (T : bT) : Nat → bT
  | 0 => T
  | i + 1 => btN (V2 y (y + 1 + i)) 2 y (y + 1 + i) (fo2i V2 y T i)
def fo2 (V2 : Nat → Nat → Nat) (T : bT) : Nat → bT
  | 0 => T
  | y + 1 => fo2i V2 y (fo2 V2 T y) (59 - y)
theorem fo1_R {V : Nat → Nat → Nat → Int32} {V1 : Nat → Nat} {b : xN} {T : bT} (h : bR b T) (hV : ∀ i, i < 60 → V 1 i 0 = nI (V1 i) ∧ V1 i ≤ 60) : ∀ i, i ≤ 60 → bR (fe1 V b i) (fo1 V1 T i)
  | 0, _ => h
  | i + 1, hi => by
    rw [fe1, fo1, (hV i (by omega)).1]
    exact bst_N (fo1_R h hV i (by omega)) (hV i (by omega)).2
theorem fo2i_R {V : Nat → Nat → Nat → Int32} {V2 : Nat → Nat → Nat} {b : xN} {T : bT} {y : Nat} (h : bR b T) (hV : ∀ z, y < z → z < 60 → V 2 y z = nI (V2 y z) ∧ V2 y z ≤ 60) : ∀ i, y + 1 + i ≤ 60 → bR (fe2i V y b i) (fo2i V2 y T i)
  | 0, _ => h
  | i + 1, hi => by
    have e := hV (y + 1 + i) (by omega) (by omega)
    rw [fe2i, fo2i, e.1]
    exact bst_N (fo2i_R h hV i (by omega)) e.2
theorem fo2_R {V : Nat → Nat → Nat → Int32} {V2 : Nat → Nat → Nat} {b : xN} {T : bT} (h : bR b T) (hV : ∀ y z, y < z → z < 60 → V 2 y z = nI (V2 y z) ∧ V2 y z ≤ 60) : ∀ y, y ≤ 60 → bR (fe2 V b y) (fo2 V2 T y)
  | 0, _ => h
  | y + 1, hy => by
    rw [fe2, fo2]
    exact fo2i_R (fo2_R h hV y (by omega)) (hV y) (59 - y) (by omega)
theorem fo1_le {V1 : Nat → Nat} {T : bT} : ∀ i, (fo1 V1 T i).1 ≤ T.1 ∧ ∀ j, j < i → (fo1 V1 T i).1 ≤ V1 j
  | 0 => ⟨Nat.le_refl _, fun j hj => by omega⟩
  | i + 1 => by
    have ih := fo1_le (V1 := V1) (T := T) i
    have h := btN_1 (V1 i) 1 i 0 (fo1 V1 T i)
    rw [fo1]
    refine ⟨by omega, fun j hj => ?_⟩
    by_cases e : j = i
    · subst e; exact h.2
    · have := ih.2 j (by omega); omega
theorem fo1_stop {V1 : Nat → Nat} {T : bT} {i : Nat} (h : ∀ j, i ≤ j → j < 60 → ¬ V1 j < (fo1 V1 T i).1) : ∀ n, i + n ≤ 60 → fo1 V1 T (i + n) = fo1 V1 T i
  | 0, _ => rfl
  | n + 1, hn => by
    have ih := fo1_stop h n (by omega)
    rw [← Nat.add_assoc, fo1, ih]
    exact if_neg (h (i + n) (by omega) (by omega))
theorem fo2i_le {V2 : Nat → Nat → Nat} {y : Nat} {T : bT} : ∀ i, (fo2i V2 y T i).1 ≤ T.1
  | 0 => Nat.le_refl _
  | i + 1 => by
    have ih := fo2i_le (V2 := V2) (y := y) (T := T) i
    have h := btN_1 (V2 y (y + 1 + i)) 2 y (y + 1 + i) (fo2i V2 y T i)
    rw [fo2i]
    omega
theorem fo2_le {V2 : Nat → Nat → Nat} {T : bT} : ∀ y, (fo2 V2 T y).1 ≤ T.1
  | 0 => Nat.le_refl _
  | y + 1 => by
    have ih := fo2_le (V2 := V2) (T := T) y
    have h := fo2i_le (V2 := V2) (y := y) (T := fo2 V2 T y) (59 - y)
    rw [fo2]
    omega
theorem fo2i_stop {V2 : Nat → Nat → Nat} {y : Nat} {T : bT} {i : Nat} (h : ∀ z, y + 1 + i ≤ z → z < 60 → ¬ V2 y z < (fo2i V2 y T i).1) : ∀ n, y + 1 + i + n ≤ 60 → fo2i V2 y T (i + n) = fo2i V2 y T i
  | 0, _ => rfl
  | n + 1, hn => by
    have ih := fo2i_stop h n (by omega)
    rw [← Nat.add_assoc, fo2i, ih]
    exact if_neg (h (y + 1 + (i + n)) (by omega) (by omega))
theorem fo2_stop {V2 : Nat → Nat → Nat} {T : bT} {y : Nat} (h : ∀ y' z, y ≤ y' → y' < z → z < 60 → ¬ V2 y' z < (fo2 V2 T y).1) : ∀ n, y + n ≤ 60 → fo2 V2 T (y + n) = fo2 V2 T y
  | 0, _ => rfl
  | n + 1, hn => by
    have ih := fo2_stop h n (by omega)
    rw [← Nat.add_assoc, fo2, ih]
    have := fo2i_stop (V2 := V2) (y := y + n) (T := fo2 V2 T y) (i := 0) (fun z h1 h2 => h (y + n) z (by omega) (by omega) h2) (59 - (y + n)) (by omega)
    rw [Nat.zero_add] at this
    exact this
/-- how the days with feigned moods hang together -/
def fV (V0 : Nat) (V1 : Nat → Nat) (V2 : Nat → Nat → Nat) : Prop := (∀ y, y < 60 → V1 y < y → V0 = V1 y) ∧ ∀ y z, y < z → z < 60 → (V2 y z < z → V1 y = V2 y z) ∧ (V1 y < z → V2 y z = V1 y)
theorem fV_one {V0 : Nat} {V1 : Nat → Nat} {V2 : Nat → Nat → Nat} (h : fV V0 V1 V2) {T : bT} (hT : T.1 ≤ V0) {i : Nat} (hi : (fo1 V1 T i).1 ≤ i) (h60 : i ≤ 60) : fo1 V1 T 60 = fo1 V1 T i := by
  have le := (fo1_le (V1 := V1) (T := T) i).1
  have := fo1_stop (V1 := V1) (T := T) (i := i) (fun j h1 h2 z => by
    have := h.1 j h2 (by omega)
    omega) (60 - i) (by omega)
  rw [show i + (60 - i) = 60 by omega] at this
  exact this
theorem fV_in {V0 : Nat} {V1 : Nat → Nat} {V2 : Nat → Nat → Nat} (h : fV V0 V1 V2) {T : bT} (hT : ∀ y, y < 60 → T.1 ≤ V1 y) {y i : Nat} (hy : y < 60) (hi : (fo2i V2 y T i).1 ≤ y + 1 + i ∨ V1 y < y + 1 + i) (h60 : y + 1 + i ≤ 60) : fo2i V2 y T (59 - y) = fo2i V2 y T i := by
  have le := fo2i_le (V2 := V2) (y := y) (T := T) i
  have t1 := hT y hy
  have := fo2i_stop (V2 := V2) (y := y) (T := T) (i := i) (fun z h1 h2 hz => by
    obtain ⟨c1, c2⟩ := h.2 y z (by omega) h2
    rcases hi with hi | hi
    · have := c1 (by omega); omega
    · have := c2 (by omega); omega) (59 - y - i) (by omega)
  rw [show i + (59 - y - i) = 59 - y by omega] at this
  exact this
theorem fV_two {V0 : Nat} {V1 : Nat → Nat} {V2 : Nat → Nat → Nat} (h : fV V0 V1 V2) {T : bT} (hT : ∀ y, y < 60 → T.1 ≤ V1 y) {y : Nat} (hi : (fo2 V2 T y).1 ≤ y) (h60 : y ≤ 60) : fo2 V2 T 60 = fo2 V2 T y := by
  have le := fo2_le (V2 := V2) (T := T) y
  have := fo2_stop (V2 := V2) (T := T) (y := y) (fun y' z h1 h2 h3 hz => by
    have := (h.2 y' z h2 h3).1 (by omega)
    have := hT y' (by omega)
    omega) (60 - y) (by omega)
  rw [show y + (60 - y) = 60 by omega] at this
  exact this
/-! ===== the days with feigned moods ===== -/
theorem WD_add {l m sp p k y : Nat} {s : xN} {a : Nat → xN} (h : WD l m sp s a) (hm : m + 1 ≤ 26) (hp : p < 8) (hf : hasP (s 7) (nI p) = true) (hk : k < 3) (hy : y < 60) : WD l (m + 1) sp s (addP a m (nI p) (nI k) (nI y)) := by
  obtain ⟨g1, g2, g3, g4, g5, g6, g7, g8, g9, g10⟩ := h
  refine ⟨g1, hm, g3, g4, g5, g6, g7, g8, g9, fun i hi => ?_⟩
  show ∃ p' kd t, p' < 8 ∧ hasP (s 7) (nI p') = true ∧ kd < 3 ∧ t < 60 ∧ upd (upd (upd (a 10) (3 * m) (nI p)) (3 * m + 1) (nI k)) (3 * m + 2) (nI y) (3 * i) = nI p' ∧ upd (upd (upd (a 10) (3 * m) (nI p)) (3 * m + 1) (nI k)) (3 * m + 2) (nI y) (3 * i + 1) = nI kd ∧ upd (upd (upd (a 10) (3 * m) (nI p)) (3 * m + 1) (nI k)) (3 * m + 2) (nI y) (3 * i + 2) = nI t
  by_cases e : i = m
  · subst e
    refine ⟨p, k, y, hp, hf, hk, hy, ?_, ?_, ?_⟩
    · rw [pk_un (by omega), pk_un (by omega), pk_us]
    · rw [pk_un (by omega), pk_us]
    · rw [pk_us]
  · rw [pk_un (by omega), pk_un (by omega), pk_un (by omega), pk_un (by omega), pk_un (by omega), pk_un (by omega), pk_un (by omega), pk_un (by omega), pk_un (by omega)]
    exact g10 i (by omega)
theorem moX_add (m : Nat) (a : Nat → xN) (w k : Int32) (y : Nat) : moX m a (addP a m w k (nI y)) ∧ addP a m w k (nI y) 10 (3 * m + 2) = nI y := by
  refine ⟨⟨rfl, rfl, fun i hi => ?_⟩, ?_⟩
  · show upd (upd (upd (a 10) (3 * m) w) (3 * m + 1) k) (3 * m + 2) (nI y) i = a 10 i
    rw [pk_un (by omega), pk_un (by omega), pk_un (by omega)]
  · show upd (upd (upd (a 10) (3 * m) w) (3 * m + 1) k) (3 * m + 2) (nI y) (3 * m + 2) = nI y
    rw [pk_us]
/-- the day's minutes, from its begin -/
def dyL (s : xN) (a : Nat → xN) (m n : Nat) : xN := goL s a m (beginP (a 6) (a 8) (fun _ => 0)) n
def homV (s : xN) (a : Nat → xN) (m p V : Nat) : Prop := V ≤ 60 ∧ lateP (dyL s a m 60) p = nI V ∧ ∀ n, n ≤ 60 → dyL s a m n (25 + p) = if V < n then nI V else -1
theorem hom_is {l m sp p : Nat} {s : xN} {a : Nat → xN} (hW : WD l m sp s a) (hp : p < 8) : ∃ V, homV s a m p V := hom_at hW (ID_begin hW _) hp (begin_9 (a 6) (a 8) (fun _ => 0) hp).2.2.1
theorem dyL_ext {l m sp p k y : Nat} {s : xN} {a : Nat → xN} (hW : WD l m sp s a) (hm : m + 1 ≤ 26) (hp : p < 8) (hf : hasP (s 7) (nI p) = true) (hk : k < 3) (hy : y < 60) {n : Nat} (hn : n ≤ y) : dyL s (addP a m (nI p) (nI k) (nI y)) (m + 1) n = dyL s a m n := by
  have hW' := WD_add hW hm hp hf hk hy
  obtain ⟨hX, hX2⟩ := moX_add m a (nI p) (nI k) y
  exact goL_ext hW hW' hX hX2 (by omega) (ID_begin hW _) (ID_begin hW' _) n hn
theorem hom_lt {s : xN} {a a' : Nat → xN} {m m' p V V' n : Nat} (h : homV s a m p V) (h' : homV s a' m' p V') (hn : n ≤ 60) (e : dyL s a' m' n = dyL s a m n) : (V < n ↔ V' < n) ∧ (V < n → V = V') := by
  have e1 := h.2.2 n hn
  have e2 := h'.2.2 n hn
  rw [e, e1] at e2
  have b1 := h.1
  have b2 := h'.1
  by_cases c1 : V < n
  · by_cases c2 : V' < n
    · rw [if_pos c1, if_pos c2, nI_eq (by omega) (by omega)] at e2
      exact ⟨⟨fun _ => c2, fun _ => c1⟩, fun _ => e2⟩
    · rw [if_pos c1, if_neg c2] at e2
      exact absurd e2 (nI_m1 (by omega))
  · by_cases c2 : V' < n
    · rw [if_neg c1, if_pos c2] at e2
      exact absurd e2.symm (nI_m1 (by omega))
    · exact ⟨⟨fun z => absurd z c1, fun z => absurd z c2⟩, fun z => absurd z c1⟩
def fA1 (a : Nat → xN) (m p k y : Nat) : Nat → xN := addP a m (nI p) (nI k) (nI y)
def fA2 (a : Nat → xN) (m p k y z : Nat) : Nat → xN := addP (fA1 a m p k y) (m + 1) (nI p) (nI k) (nI z)
theorem fe_pack {l m sp p k : Nat} {s : xN} {a : Nat → xN} (hW : WD l m sp s a) (hm : m ≤ 24) (hp : p < 8) (hf : hasP (s 7) (nI p) = true) (hk : k < 3) : ∃ (V0 : Nat) (V1 : Nat → Nat) (V2 : Nat → Nat → Nat), fV V0 V1 V2 ∧ homV s a m p V0 ∧ (∀ y, y < 60 → homV s (fA1 a m p k y) (m + 1) p (V1 y)) ∧ ∀ y z, y < z → z < 60 → homV s (fA2 a m p k y z) (m + 2) p (V2 y z) := by
  have W1 : ∀ y, y < 60 → WD l (m + 1) sp s (fA1 a m p k y) := fun y hy => WD_add hW (by omega) hp hf hk hy
  have W2 : ∀ y z, y < z → z < 60 → WD l (m + 2) sp s (fA2 a m p k y z) := fun y z hyz hz => WD_add (W1 y (by omega)) (by omega) hp hf hk hz
  obtain ⟨V0, h0⟩ := hom_is hW hp
  have e1 : ∀ y, ∃ V, y < 60 → homV s (fA1 a m p k y) (m + 1) p V := fun y => by
    by_cases hy : y < 60
    · obtain ⟨V, h⟩ := hom_is (W1 y hy) hp
      exact ⟨V, fun _ => h⟩
    · exact ⟨0, fun z => absurd z hy⟩
  have e2 : ∀ y z, ∃ V, y < z → z < 60 → homV s (fA2 a m p k y z) (m + 2) p V := fun y z => by
    by_cases hy : y < z ∧ z < 60
    · obtain ⟨V, h⟩ := hom_is (W2 y z hy.1 hy.2) hp
      exact ⟨V, fun _ _ => h⟩
    · exact ⟨0, fun z1 z2 => absurd ⟨z1, z2⟩ hy⟩
  obtain ⟨V1, h1⟩ : ∃ V1 : Nat → Nat, ∀ y, y < 60 → homV s (fA1 a m p k y) (m + 1) p (V1 y) := ⟨fun y => (e1 y).choose, fun y => (e1 y).choose_spec⟩
  obtain ⟨V2, h2⟩ : ∃ V2 : Nat → Nat → Nat, ∀ y z, y < z → z < 60 → homV s (fA2 a m p k y z) (m + 2) p (V2 y z) := ⟨fun y z => (e2 y z).choose, fun y z => (e2 y z).choose_spec⟩
  refine ⟨V0, V1, V2, ⟨fun y hy hlt => ?_, fun y z hyz hz => ?_⟩, h0, h1, h2⟩
  · have := hom_lt h0 (h1 y hy) (n := y) (by omega) (dyL_ext hW (by omega) hp hf hk hy (Nat.le_refl _))
    exact this.2 (this.1.mpr hlt)
  · have := hom_lt (h1 y (by omega)) (h2 y z hyz hz) (n := z) (by omega) (dyL_ext (W1 y (by omega)) (by omega) hp hf hk hz (Nat.le_refl _))
    exact ⟨fun hlt => this.2 (this.1.mpr hlt), fun hlt => (this.2 hlt).symm⟩
