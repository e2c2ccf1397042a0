/-! the class holds these files, with blocks F taken that are no file's yet; what is mapped is left out -/
def fOk (A : cA) (t : Nat) (S : mS) : Prop := mSh S t (aM A) ∧ mRn S ∧ mAb A t S ∧ aRu A t = mn S ∧ aBl A t = sm (mK S) (md S) ∧ aLb A t = if md S = 0 then 0 else (mK S 0 : Int)
def bOk (A : cA) (b : Nat) (f o : Prop) : Prop := (aTk A b = 1 ∧ ((f ∧ ¬ o) ∨ (¬ f ∧ o))) ∨ (aTk A b = 0 ∧ aEn A b = 0 ∧ ¬ f ∧ ¬ o)
def CX (A : cA) (SS : Nat → mS) (F : Nat → Prop) : Prop := aOk A ∧ (∀ t, t < 4 → fOk A t (SS t)) ∧ (∀ b t l p t' l' p', mOwn SS b t l p → mOwn SS b t' l' p' → t = t' ∧ l = l' ∧ p = p') ∧ (∀ b, 1 ≤ b → b < 256 → bOk A b (F b) (∃ t l p, mOwn SS b t l p)) ∧ (∀ b, F b → 1 ≤ b ∧ b < 256) ∧ aTk A 0 = 0 ∧ aLe A = cnF (aTk A) 255
/-- what is mapped -/
def MX (A : cA) (SS : Nat → mS) : Prop := ∀ t, t < 4 → aMa A t = smI (ml (SS t)) (mn (SS t)) ∧ aMw A t = smI (fun i => mw (SS t) i * ml (SS t) i) (mn (SS t))
theorem cl_cx {A : cA} {SS : Nat → mS} : Cl A SS ↔ CX A SS (fun _ => False) ∧ MX A SS := by
  constructor
  · intro ⟨h1, h2, h3, h4, h5, h6⟩
    refine ⟨⟨h1, fun t ht => ?_, h3, fun b b1 b2 => ?_, fun b h => h.elim, h5, h6⟩, fun t ht => ?_⟩
    · obtain ⟨a1, a2, a3, a4, a5, a6, a7, a8⟩ := h2 t ht
      refine ⟨a1, a2, a3, a4, a5, a8.trans ?_⟩
      split <;> rfl
    · rcases h4 b b1 b2 with ⟨a1, a2⟩ | ⟨a1, a2, a3⟩
      · exact Or.inl ⟨a1, Or.inr ⟨fun z => z, a2⟩⟩
      · exact Or.inr ⟨a1, a2, fun z => z, fun ⟨t, l, p, z⟩ => a3 t l p z⟩
    · obtain ⟨a1, a2, a3, a4, a5, a6, a7, a8⟩ := h2 t ht
      exact ⟨a6, a7⟩
  · intro ⟨⟨h1, h2, h3, h4, h5, h6, h7⟩, h8⟩
    refine ⟨h1, fun t ht => ?_, h3, fun b b1 b2 => ?_, h6, h7⟩
    · obtain ⟨a1, a2, a3, a4, a5, a6⟩ := h2 t ht
      obtain ⟨c1, c2⟩ := h8 t ht
      refine ⟨a1, a2, a3, a4, a5, c1, c2, a6.trans ?_⟩
      split <;> rfl
    · rcases h4 b b1 b2 with ⟨a1, ⟨a2, _⟩ | ⟨_, a3⟩⟩ | ⟨a1, a2, _, a3⟩
      · exact a2.elim
      · exact Or.inl ⟨a1, a3⟩
      · exact Or.inr ⟨a1, a2, fun t l p z => a3 ⟨t, l, p, z⟩⟩
/-- a node of another file -/
def Oth (SS : Nat → mS) (t x : Nat) : Prop := (∃ t', t' ≠ t ∧ t' < 4 ∧ x = 256 + t') ∨ ∃ t' l p, t' ≠ t ∧ mOwn SS x t' l p
def Own (S : mS) (x : Nat) : Prop := ∃ l p, l < md S ∧ p < mK S l ∧ mb S l p = x
section
variable {A B : cA} {SS : Nat → mS} {F F' : Nat → Prop} {t : Nat} {S' : mS}
theorem CX.rng (hc : CX A SS F) {b t l p : Nat} (h : mOwn SS b t l p) : 1 ≤ b ∧ b ≤ 255 := by
  obtain ⟨h1, h2, h3, h4⟩ := h
  have := ((hc.2.1 t h1).1).2.2.2.2.1 l h2 p h3
  rw [h4] at this
  omega
theorem CX.inj (hc : CX A SS F) (ht : t < 4) : mInj (SS t) := by
  intro l p l' p' hl hp hl' hp' e
  have hs := (hc.2.1 t ht).1
  by_cases h1 : l < md (SS t)
  · by_cases h2 : l' < md (SS t)
    · exact (hc.2.2.1 _ t l p t l' p' ⟨ht, h1, hp, rfl⟩ ⟨ht, h2, hp', e.symm⟩).2
    · have h3 : l' = md (SS t) := by omega
      subst h3
      have h4 := hs.2.1
      rw [show p' = 0 by omega, hs.2.2.1] at e
      have := (hs.2.2.2.2.1 l h1 p hp).2.2.2
      omega
  · have h3 : l = md (SS t) := by omega
    subst h3
    have h4 := hs.2.1
    by_cases h2 : l' < md (SS t)
    · rw [show p = 0 by omega, hs.2.2.1] at e
      have := (hs.2.2.2.2.1 l' h2 p' hp').2.2.2
      omega
    · have h5 : l' = md (SS t) := by omega
      subst h5
      exact ⟨rfl, by omega⟩
theorem CX.own (hc : CX A SS F) (ht : t < 4) {x : Nat} (h : Own (SS t) x) : ¬ Oth SS t x := by
  obtain ⟨l, p, h1, h2, h3⟩ := h
  have ho : mOwn SS x t l p := ⟨ht, h1, h2, h3⟩
  rintro (⟨t', z1, z2, z3⟩ | ⟨t', l', p', z1, z2⟩)
  · have := hc.rng ho
    omega
  · exact z1 (hc.2.2.1 _ _ _ _ _ _ _ ho z2).1.symm
theorem CX.fre (hc : CX A SS F) {x : Nat} (h : F x) : ¬ Oth SS t x ∧ ∀ t l p, ¬ mOwn SS x t l p := by
  have h1 := hc.2.2.2.2.1 x h
  have h2 : ∀ t l p, ¬ mOwn SS x t l p := by
    intro t' l p z
    rcases hc.2.2.2.1 x h1.1 h1.2 with ⟨_, ⟨_, a3⟩ | ⟨a2, _⟩⟩ | ⟨_, _, a3, _⟩
    · exact a3 ⟨t', l, p, z⟩
    · exact a2 h
    · exact a3 h
  refine ⟨?_, h2⟩
  rintro (⟨t', z1, z2, z3⟩ | ⟨t', l', p', z1, z2⟩)
  · omega
  · exact h2 _ _ _ z2
theorem CX.root (hc : CX A SS F) : ¬ Oth SS t (256 + t) := by
  rintro (⟨t', z1, z2, z3⟩ | ⟨t', l', p', z1, z2⟩)
  · omega
  · have := hc.rng z2
    omega
theorem CX.ownF (hc : CX A SS F) (ht : t < 4) {x : Nat} (h1 : 1 ≤ x) (h2 : x < 256) (h : ¬ Oth SS t x) : bOk A x (F x) (Own (SS t) x) := by
  have e : (∃ t l p, mOwn SS x t l p) ↔ Own (SS t) x := by
    constructor
    · rintro ⟨t', l, p, z⟩
      by_cases ht' : t' = t
      · subst ht'
        exact ⟨l, p, z.2⟩
      · exact absurd (Or.inr ⟨t', l, p, ht', z⟩) h
    · rintro ⟨l, p, z⟩
      exact ⟨t, l, p, ht, z⟩
  have := hc.2.2.2.1 x h1 h2
  unfold bOk at this ⊢
  rw [e] at this
  exact this
/-- a change of one file -/
theorem CX.step (hc : CX A SS F) (ht : t < 4) (ok : aOk B) (hM : aM B = aM A) (hf : fOk B t S') (hj : mInj S') (hn : ∀ t', t' ≠ t → aRu B t' = aRu A t' ∧ aBl B t' = aBl A t' ∧ aLb B t' = aLb A t') (hx : ∀ x, Oth SS t x → aDp B x = aDp A x ∧ aEn B x = aEn A x ∧ aWf B x = aWf A x ∧ aTk B x = aTk A x) (hw : ∀ x, Own S' x → ¬ Oth SS t x) (hb : ∀ b, 1 ≤ b → b < 256 → ¬ Oth SS t b → bOk B b (F' b) (Own S' b)) (hF : ∀ b, F' b → 1 ≤ b ∧ b < 256) (hF2 : ∀ b, F' b → ¬ Oth SS t b) (h0 : aTk B 0 = 0) (hl : aLe B = cnF (aTk B) 255) : CX B (gF SS t S') F' := by
  have own : ∀ b t' l p, mOwn (gF SS t S') b t' l p → (t' = t ∧ l < md S' ∧ p < mK S' l ∧ mb S' l p = b) ∨ (t' ≠ t ∧ mOwn SS b t' l p) := by
    intro b t' l p ⟨z1, z2, z3, z4⟩
    by_cases e : t' = t
    · subst e
      rw [gF_s] at z2 z3 z4
      exact Or.inl ⟨rfl, z2, z3, z4⟩
    · rw [gF_n e] at z2 z3 z4
      exact Or.inr ⟨e, z1, z2, z3, z4⟩
  have ownT : ∀ b l p, l < md S' → p < mK S' l → mb S' l p = b → mOwn (gF SS t S') b t l p := by
    intro b l p z2 z3 z4
    refine ⟨ht, ?_, ?_, ?_⟩ <;> rw [gF_s] <;> assumption
  have ownO : ∀ b t' l p, t' ≠ t → mOwn SS b t' l p → mOwn (gF SS t S') b t' l p := by
    intro b t' l p e ⟨z1, z2, z3, z4⟩
    refine ⟨z1, ?_, ?_, ?_⟩ <;> rw [gF_n e] <;> assumption
  refine ⟨ok, fun t' ht' => ?_, fun b t1 l1 p1 t2 l2 p2 o1 o2 => ?_, fun b b1 b2 => ?_, hF, h0, hl⟩
  · by_cases e : t' = t
    · subst e
      rw [gF_s]
      exact hf
    · rw [gF_n e]
      obtain ⟨a1, a2, a3, a4, a5, a6⟩ := hc.2.1 t' ht'
      obtain ⟨n1, n2, n3⟩ := hn t' e
      refine ⟨by rw [hM]; exact a1, a2, fun l hl p hp => ?_, by rw [n1]; exact a4, by rw [n2]; exact a5, by rw [n3]; exact a6⟩
      have ho : Oth SS t (mb (SS t') l p) := by
        by_cases hl2 : l < md (SS t')
        · exact Or.inr ⟨t', l, p, e, ht', hl2, hp, rfl⟩
        · have hl3 : l = md (SS t') := by omega
          subst hl3
          have h4 := a1.2.1
          rw [show p = 0 by omega, a1.2.2.1]
          exact Or.inl ⟨t', e, ht', rfl⟩
      obtain ⟨x1, x2, x3, -⟩ := hx _ ho
      rw [x1, x2, x3]
      exact a3 l hl p hp
  · rcases own _ _ _ _ o1 with ⟨e1, c1, c2, c3⟩ | ⟨e1, c1⟩ <;> rcases own _ _ _ _ o2 with ⟨e2, d1, d2, d3⟩ | ⟨e2, d1⟩
    · have := hj l1 p1 l2 p2 (by omega) c2 (by omega) d2 (by rw [c3, d3])
      exact ⟨by omega, this.1, this.2⟩
    · exact absurd (Or.inr ⟨t2, l2, p2, e2, d1⟩) (hw b ⟨l1, p1, c1, c2, c3⟩)
    · exact absurd (Or.inr ⟨t1, l1, p1, e1, c1⟩) (hw b ⟨l2, p2, d1, d2, d3⟩)
    · exact hc.2.2.1 _ _ _ _ _ _ _ c1 d1
  · by_cases ho : Oth SS t b
    · obtain ⟨x1, x2, x3, x4⟩ := hx b ho
      rcases ho with ⟨t', z1, z2, z3⟩ | ⟨t', l', p', z1, z2⟩
      · omega
      · have tk : aTk A b = 1 := by
          rcases hc.2.2.2.1 b b1 b2 with ⟨g1, _⟩ | ⟨_, _, _, g3⟩
          · exact g1
          · exact absurd ⟨t', l', p', z2⟩ g3
        exact Or.inl ⟨by rw [x4]; exact tk, Or.inr ⟨fun z => hF2 b z (Or.inr ⟨t', l', p', z1, z2⟩), ⟨t', l', p', ownO _ _ _ _ z1 z2⟩⟩⟩
    · have e : (∃ t' l p, mOwn (gF SS t S') b t' l p) ↔ Own S' b := by
        constructor
        · rintro ⟨t', l, p, z⟩
          rcases own _ _ _ _ z with ⟨_, c1, c2, c3⟩ | ⟨e1, c1⟩
          · exact ⟨l, p, c1, c2, c3⟩
          · exact absurd (Or.inr ⟨t', l, p, e1, c1⟩) ho
        · rintro ⟨l, p, z1, z2, z3⟩
          exact ⟨t, l, p, ownT _ _ _ z1 z2 z3⟩
      have := hb b b1 b2 ho
      unfold bOk at this ⊢
      rw [e]
      exact this
/-- a block is taken -/
theorem CX.take (hc : CX A SS F) {k b : Nat} (hb : leastFree A b) : CX (tk1 A t k b) SS (fun x => F x ∨ x = b) ∧ ¬ F b ∧ ∀ t l p, ¬ mOwn SS b t l p := by
  obtain ⟨h1, h2, h3⟩ := hb
  have hb2 := hc.2.2.2.1 b h1.1 h1.2
  have fb : ¬ F b ∧ ∀ t l p, ¬ mOwn SS b t l p := by
    rcases hb2 with ⟨g1, _⟩ | ⟨_, _, g2, g3⟩
    · omega
    · exact ⟨g2, fun t l p z => g3 ⟨t, l, p, z⟩⟩
  have eD : aDp (tk1 A t k b) = aDp A := gF_same _ _
  have eE : aEn (tk1 A t k b) = aEn A := gF_same _ _
  have eT : aTk (tk1 A t k b) = gF (aTk A) b 1 := rfl
  refine ⟨⟨?_, fun t' ht' => ?_, hc.2.2.1, fun x x1 x2 => ?_, fun x hx => ?_, ?_, ?_⟩, fb⟩
  · obtain ⟨a1, a2, a3⟩ := hc.1
    refine ⟨a1, a2, fun i hi => ?_⟩
    rw [eD, eE]
    exact a3 i hi
  · obtain ⟨a1, a2, a3, a4, a5, a6⟩ := hc.2.1 t' ht'
    refine ⟨a1, a2, fun l hl p hp => ?_, a4, a5, a6⟩
    rw [eD, eE]
    exact a3 l hl p hp
  · unfold bOk
    rw [eE, eT]
    by_cases e : x = b
    · subst e
      rw [gF_s]
      exact Or.inl ⟨rfl, Or.inl ⟨Or.inr rfl, fun ⟨t, l, p, z⟩ => fb.2 t l p z⟩⟩
    · rw [gF_n e]
      have hx := hc.2.2.2.1 x x1 x2
      unfold bOk at hx
      have ef : (F x ∨ x = b) ↔ F x := ⟨fun z => z.elim id (fun q => absurd q e), Or.inl⟩
      simp only [ef]
      exact hx
  · rcases hx with z | z
    · exact hc.2.2.2.2.1 x z
    · omega
  · rw [eT, gF_n (by omega)]
    exact hc.2.2.2.2.2.1
  · show aLe A - 1 = cnF (gF (aTk A) b 1) 255
    have key : ∀ n, b ≤ n → cnF (gF (aTk A) b 1) n = cnF (aTk A) n - 1 := by
      have lo : ∀ n, n < b → cnF (gF (aTk A) b 1) n = cnF (aTk A) n := by
        intro n
        induction n with
        | zero => intro _; rfl
        | succ n ih =>
          intro hn
          show cnF _ n + (if gF (aTk A) b 1 (n + 1) = 0 then 1 else 0) = cnF _ n + _
          rw [ih (by omega), gF_n (by omega)]
      intro n
      induction n with
      | zero => intro h9; omega
      | succ n ih =>
        intro hn
        show cnF _ n + (if gF (aTk A) b 1 (n + 1) = 0 then 1 else 0) = cnF (aTk A) n + (if aTk A (n + 1) = 0 then 1 else 0) - 1
        by_cases e : n + 1 = b
        · rw [lo n (by omega), e, gF_s, h2, if_neg (by decide), if_pos rfl]
          omega
        · rw [ih (by omega), gF_n e]
          omega
    rw [key 255 (by omega), hc.2.2.2.2.2.2]
end
