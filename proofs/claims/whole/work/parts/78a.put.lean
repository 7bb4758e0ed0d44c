/-! ===== the world behind a call, told fast ===== -/
def xfind (i : Nat) : List Nat → List xE → Option xE
  | a :: r, c :: Y => bif Nat.beq a i then some c else xfind i r Y
  | _, _ => none
def xputF (f : Nat → Nat) (σ : List Nat) (Y : List xE) : Nat → List xE → List xE
  | _, [] => []
  | i, c :: r => (match xfind i σ Y with
    | some c' => xrE f c'
    | none => c) :: xputF f σ Y (i + 1) r
theorem xfind_in : ∀ {σ : List Nat} {Y : List xE} {i : Nat}, i ∈ σ → va_nd σ = true → σ.length ≤ Y.length → ∃ (j : Nat) (c : xE), σ[j]? = some i ∧ Y[j]? = some c ∧ xfind i σ Y = some c
  | [], _, _, h, _, _ => by cases h
  | a :: r, [], _, _, _, h => by simp at h
  | a :: r, c :: Y, i, h, hn, hl => by
    simp only [va_nd, Bool.and_eq_true, decide_eq_true_eq] at hn
    rw [xfind]
    cases e : Nat.beq a i with
    | true =>
      obtain rfl := Nat.eq_of_beq_eq_true e
      exact ⟨0, c, rfl, rfl, rfl⟩
    | false =>
      have hne : ¬ a = i := Nat.ne_of_beq_eq_false e
      have h2 : i ∈ r := by
        rcases List.mem_cons.mp h with z | z
        · exact absurd z.symm hne
        · exact z
      obtain ⟨j, c', h3, h4, h5⟩ := xfind_in h2 hn.2 (by simpa using hl)
      exact ⟨j + 1, c', by simpa using h3, by simpa using h4, h5⟩
theorem xfind_out : ∀ {σ : List Nat} {Y : List xE} {i : Nat}, i ∉ σ → xfind i σ Y = none
  | [], _, _, _ => by unfold xfind; rfl
  | a :: r, [], _, _ => by unfold xfind; rfl
  | a :: r, c :: Y, i, h => by
    rw [xfind]
    cases e : Nat.beq a i with
    | true =>
      obtain rfl := Nat.eq_of_beq_eq_true e
      exact absurd List.mem_cons_self h
    | false => exact xfind_out (fun z => h (List.mem_cons_of_mem _ z))
theorem xputF_at (f : Nat → Nat) (σ : List Nat) (Y : List xE) : ∀ (X : List xE) (b k : Nat), (xputF f σ Y b X)[k]? = (X[k]?).map (fun c => match xfind (b + k) σ Y with
    | some c' => xrE f c'
    | none => c)
  | [], b, k => by simp [xputF]
  | c :: r, b, 0 => by simp [xputF]
  | c :: r, b, k + 1 => by
    rw [xputF, List.getElem?_cons_succ, List.getElem?_cons_succ, xputF_at f σ Y r (b + 1) k, show b + 1 + k = b + (k + 1) by omega]
theorem xput_fast {σ : List Nat} {X Y : List xE} (hnd : va_nd σ = true) (hlt : ∀ i ∈ σ, i < X.length) (hl : σ.length ≤ Y.length) : xput σ X Y = xputF (xsg σ X.length) σ Y 0 X ++ (Y.drop σ.length).map (xrE (xsg σ X.length)) := by
  unfold xput
  congr 1
  apply List.ext_getElem?
  intro k
  rw [xputF_at, Nat.zero_add]
  by_cases hk : k ∈ σ
  · obtain ⟨j, c, h1, h2, h3⟩ := xfind_in hk hnd hl
    rw [xputs_in _ σ X Y hnd hlt hl j k c h1 h2, h3, List.getElem?_eq_getElem (hlt k hk)]
    rfl
  · rw [xputs_out _ _ _ _ _ hk, xfind_out hk]
    cases X[k]? <;> rfl
theorem xlt_of {σ : List Nat} {X Xc : List xE} (hX : σ.map (fun i => X[i]?) = Xc.map (fun c => some (xrE (xsg σ X.length) c))) : ∀ i ∈ σ, i < X.length := by
  intro i hi
  obtain ⟨j, hj⟩ := List.getElem?_of_mem hi
  have h1 := congrArg (fun l : List (Option xE) => l[j]?) hX
  simp only [List.getElem?_map, hj, Option.map_some] at h1
  cases hc : Xc[j]? with
  | none => rw [hc] at h1; cases h1
  | some c =>
    rw [hc] at h1
    have h2 : X[i]? = some (xrE (xsg σ X.length) c) := by simpa using h1
    exact (List.getElem?_eq_some_iff.mp h2).1
/-- a call of an instance's method over a part; the world behind it is named -/
theorem AJ.callX {L : xLn} {M : xM} {d mc ms : Nat} {Q : Option Value → List xE → Prop} {n0 : Nat} {z : Nat × Nat} {pc : Nat} {ls : List (Option Value)} {st : List Value} {X : List xE} (hM : xMk M = true) {M' : xM} {d' mc' ms' q0 n : Nat} {as : List Value} {Xc : List xE} {Qc : Option Value → List xE → Prop}
    (hC : CT L M' d' mc' ms' (.ref q0 :: as) Xc Qc) (hcv : xcB M' 0 n = true) {idx nx tg : Nat} {v : Int32} {w : Int64} {a b t : Nat} {sw : List (Int32 × Nat)} (ho : xat M pc = some (.invokevirtual idx, nx, tg, v, w, a, b, t, sw)) (hlk : xmt t (.methodLink (xown M) idx M'.1) = true)
    (σ : List Nat) (rest : List Value) (hst : st = (as.map (xv (xsg σ X.length))).reverse ++ .ref (xsg σ X.length q0) :: rest) (hn : as.length = n) (hX : σ.map (fun i => X[i]?) = Xc.map (fun c => some (xrE (xsg σ X.length) c))) {ci : Nat} {fs : List Value} (hq : Xc[q0]? = some (.inr (.inr (ci, fs)))) {r : vw_C} (hci : vwCl[ci]? = some r) (hr1 : r.1 = M'.1.cls)
    (hnd : va_nd σ = true) (hwf : xwf X ls rest = true) (hd : Nat.blt d' d = true) (hmm : (Nat.ble (z.1 + mc') mc && Nat.ble (z.2 + ms') ms) = true)
    (kk : ∀ (r : Option Value) (Y : List xE), Qc r Y → ∃ X', xputF (xsg σ X.length) σ Y 0 X ++ (Y.drop σ.length).map (xrE (xsg σ X.length)) = X' ∧ (Nat.ble σ.length Y.length && Nat.ble (X.length + Y.length) xB) = true ∧ AJ L M d mc ms Q n0 (z.1 + mc', z.2 + ms') nx ls (r.toList ++ rest) X') : AJ L M d mc ms Q n0 z pc ls st X := by
  refine AJ.callV hM hC hcv ho hlk σ rest hst hn hX hq hci hr1 hnd hwf hd hmm ?_
  intro r Y hr
  obtain ⟨X', h1, h2, h3⟩ := kk r Y hr
  simp only [Bool.and_eq_true, Nat.ble_eq] at h2
  rw [xput_fast hnd (xlt_of hX) h2.1, h1]
  exact ⟨Nat.ble_eq.mpr h2.2, h3⟩
