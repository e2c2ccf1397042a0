/-! settle as a call, on the model -/
section
variable {G : gG} {h0 : gH} {A : cA} {SS : Nat → mS} {F : Nat → Prop} {S : mS} {t n : Nat}
theorem st_ex (S : mS) (t : Nat) : ∃ n, (∀ k, k < n → StC (stM S t k)) ∧ ¬ StC (stM S t n) := by
  have key : ∀ d, (∃ n, (∀ k, k < n → StC (stM S t k)) ∧ ¬ StC (stM S t n)) ∨ ∀ k, k < d → StC (stM S t k) := by
    intro d
    induction d with
    | zero => exact Or.inr (fun k hk => absurd hk (Nat.not_lt_zero _))
    | succ d ih =>
      rcases ih with z | z
      · exact Or.inl z
      · by_cases e : StC (stM S t d)
        · refine Or.inr (fun k hk => ?_)
          by_cases e2 : k = d
          · rw [e2]
            exact e
          · exact z k (by omega)
        · exact Or.inl ⟨d, z, e⟩
  rcases key (md S + 1) with z | z
  · exact z
  · have := (z (md S) (by omega)).1
    rw [stM_d] at this
    omega
theorem sti_is (hc : CX A SS F) (ht : t < 4) (hS : SS t = S) (h1 : 0 < md S) (h2 : mc S (md S) 0 = 1) : stI A t = mb S (md S - 1) 0 ∧ stI A t < 256 ∧ aEn A (stI A t) = mc S (md S - 1) 0 := by
  subst hS
  obtain ⟨hs, hr, ha, -⟩ := hc.2.1 t ht
  have hA := ab_nd.mp ha
  obtain ⟨d, hd⟩ : ∃ d, md (SS t) = d + 1 := ⟨md (SS t) - 1, by omega⟩
  have hd1 : md (SS t) - 1 = d := by omega
  have hk := hs.Kpos 1 (by omega)
  rw [hd1] at hk ⊢
  have n0 := hA (md (SS t)) (Nat.le_refl _) 0 (by have := hs.2.1; omega)
  rw [hs.2.2.1, h2] at n0
  have n1 := hA d (by omega) 0 (by omega)
  have b5 := hs.2.2.2.2.1 d (by omega) 0 (by omega)
  have eI : stI A t = mb (SS t) d 0 := by
    unfold stI
    rw [n0.2.1, gWd_in (by omega)]
    have g := n0.2.2 0 (by omega) 1 (by omega)
    have g : aWf A (256 + t) 1 = it (SS t) (md (SS t)) (sm (mc (SS t) (md (SS t))) 0 + 0) 1 := g
    show (aWf A (256 + t) 1).toNat = _
    rw [g, hd]
    show ((mb (SS t) d 0 : Nat) : Int).toNat = _
    omega
  exact ⟨eI, by rw [eI]; omega, by rw [eI]; exact n1.2.1⟩
theorem s_settle (hc : CX A SS F) (ht : t < 4) (hS : SS t = S) (h1 : ∀ k, k < n → StC (stM S t k)) (h2 : ¬ StC (stM S t n)) :
    Rd G m_Tree_settle [vR (517 + 6 * t)] none (hpx A h0) none none (hpx (stS A t n) h0) ∧ CX (stS A t n) (gF SS t (stM S t n)) F := by
  obtain ⟨a1, a2⟩ := hc.settle ht hS n h1
  refine ⟨?_, a1⟩
  have hs := (hc.2.1 t ht).1
  have ha := (hc.2.1 t ht).2.2.1
  rw [hS] at hs ha
  have hs' := (a1.2.1 t ht).1
  have ha' := (a1.2.1 t ht).2.2.1
  rw [gF_s] at hs' ha'
  have hn : n ≤ md S := by
    by_cases e : n = 0
    · omega
    · have := (h1 (n - 1) (by omega)).1
      rw [stM_d] at this
      omega
  have h5 := hs.1
  have dp : aDp A (256 + t) = md S := by
    have := (ha (md S) (Nat.le_refl _) 0 (by have := hs.2.1; omega)).1
    rw [hs.2.2.1] at this
    exact this
  refine c_settle (d := md S) (c := n) hc.1 ht dp h5 hn a2 ?_
  by_cases e : n = md S
  · exact Or.inl e
  · have d9 := stM_d (S := S) (t := t) n
    have en : aEn (stS A t n) (256 + t) = mc (stM S t n) (md (stM S t n)) 0 := by
      have := (ha' (md (stM S t n)) (Nat.le_refl _) 0 (by have := hs'.2.1; omega)).2.1
      rw [hs'.2.2.1] at this
      exact this
    by_cases e2 : mc (stM S t n) (md (stM S t n)) 0 = 1
    · obtain ⟨i1, i2, i3⟩ := sti_is a1 ht (gF_s _ _ _) (by omega) e2
      refine Or.inr (Or.inr ⟨by rw [en, e2]; rfl, i2, ?_⟩)
      rw [i3]
      have : ¬ mc (stM S t n) (md (stM S t n) - 1) 0 ≤ 4 := fun z => h2 ⟨by omega, e2, z⟩
      omega
    · exact Or.inr (Or.inl (by rw [en]; omega))
end
