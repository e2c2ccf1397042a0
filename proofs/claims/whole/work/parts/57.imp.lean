/-! a contract with a weaker end -/
theorem Rn.imp {G : gG} {M : gM} {av : List gV} {N : Option Nat} {h : gH} {mc ms : Nat} {Q Q' : Option gV → Option Nat → gH → Prop} {X : String → gH → Prop} (hR : Rn G M av N h mc ms Q X) (hq : ∀ v N' h', Q v N' h' → Q' v N' h') : Rn G M av N h mc ms Q' X := by
  intro htr p e a1 a2 a3 s m args below hf happ hP hK
  obtain ⟨n, o, h1, h2, h3, h4⟩ := hR htr p e a1 a2 a3 s m args below hf happ hP hK
  refine ⟨n, o, h1, h2, h3, ?_⟩
  rcases h4 with ⟨⟨⟨v, N', h', e1, e2, e3⟩, e4⟩, e5⟩ | h4
  · exact Or.inl ⟨⟨⟨v, N', h', e1, hq _ _ _ e2, e3⟩, e4⟩, e5⟩
  · exact Or.inr h4
