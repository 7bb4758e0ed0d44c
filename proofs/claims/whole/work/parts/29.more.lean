/-! ===== contracts, weakened ===== -/
theorem CT.mono {L : xLn} {M : xM} {d mc ms : Nat} {av : List Value} {X : List xE} {Q Q' : Option Value → List xE → Prop} (h : CT L M d mc ms av X Q) (hq : ∀ r Y, Q r Y → Q' r Y) : CT L M d mc ms av X Q' := by
  refine ⟨h.1, fun I ad sz => ?_⟩
  have hM := h.2 I ad sz
  intro p e ha hc hk s m args below hf happ hpre hcalls
  obtain ⟨k, o, h1, h2, h3, ⟨⟨r, X', ad', q1, q2, q3, q4, q5, q6, q7, q8⟩, hF⟩, hL⟩ := hM p e ha hc hk s m args below hf happ hpre hcalls
  exact ⟨k, o, h1, h2, h3, ⟨⟨r, X', ad', q1, q2, q3, q4, q5, q6, hq r X' q7, q8⟩, hF⟩, hL⟩
