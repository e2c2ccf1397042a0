/-! find as a call on the model, and what it found -/
abbrev lsS (S : mS) (b : Int) : Int := lsR (ms S) b (mn S)
def fA (A : cA) (t : Nat) (S : mS) (b : Int) : cA := fnd A t (pW S (lsS S b)) (pP S (lsS S b)) (md S + 1) (md S)
section
variable {G : gG} {N : Option Nat} {h0 : gH} {A : cA} {SS : Nat → mS} {F : Nat → Prop} {S : mS} {t : Nat} {b : Int}
theorem s_find (hc : CX A SS F) (ht : t < 4) (hS : SS t = S) (rb : (-2147483648 ≤ b ∧ b ≤ 2147483647)) : Rd G m_Tree_find [vR (517 + 6 * t), vI b] N (hpx A h0) none N (hpx (fA A t S b) h0) ∧ CX (fA A t S b) SS F ∧ WyTo (fA A t S b) t S (lsS S b) ∧ aMa (fA A t S b) = aMa A ∧ aMw (fA A t S b) = aMw A ∧ aM (fA A t S b) = aM A ∧ aTk (fA A t S b) = aTk A ∧ aLe (fA A t S b) = aLe A := by
  subst hS
  obtain ⟨h1, h2, h3, -⟩ := hc.2.1 t ht
  obtain ⟨g1, g2, g3⟩ := lsR_spec h2 b
  exact ⟨c_find hc.1 ht rb (path_of ht h1 h2 h3 g1 g2 g3), hc, wy_fnd, rfl, rfl, rfl, rfl, rfl⟩
theorem fA_rd (hc : CX A SS F) (ht : t < 4) (hS : SS t = S) : (0 ≤ lsS S b ∧ lsS S b < mn S ∧ rF (fA A t S b) t (md S) = ms S (lsS S b).toNat ∧ rL (fA A t S b) t (md S) = ml S (lsS S b).toNat ∧ rV (fA A t S b) t (md S) = mv S (lsS S b).toNat ∧ rW (fA A t S b) t (md S) = mw S (lsS S b).toNat) ∨ (lsS S b = -1 ∧ rF (fA A t S b) t (md S) = 0 ∧ rL (fA A t S b) t (md S) = 0 ∧ rV (fA A t S b) t (md S) = 0 ∧ rW (fA A t S b) t (md S) = 0) := by
  subst hS
  obtain ⟨h1, h2, h3, -⟩ := hc.2.1 t ht
  obtain ⟨g1, g2, g3⟩ := lsR_spec h2 b
  have w : aWy (fA A t (SS t) b) t (md (SS t)) = pW (SS t) (lsS (SS t) b) (md (SS t)) := fnd_wy (Nat.le_refl _)
  have p : aPl (fA A t (SS t) b) t (md (SS t)) = pP (SS t) (lsS (SS t) b) (md (SS t)) := fnd_pl (Nat.le_refl _)
  have e1 : rF (fA A t (SS t) b) t (md (SS t)) = eF A (pW (SS t) (lsS (SS t) b) (md (SS t))) (pP (SS t) (lsS (SS t) b) (md (SS t))) := by
    unfold rF
    rw [w, p]
    rfl
  have e2 : rL (fA A t (SS t) b) t (md (SS t)) = eL A (pW (SS t) (lsS (SS t) b) (md (SS t))) (pP (SS t) (lsS (SS t) b) (md (SS t))) := by
    unfold rL
    rw [w, p]
    rfl
  have e3 : rV (fA A t (SS t) b) t (md (SS t)) = eV A (pW (SS t) (lsS (SS t) b) (md (SS t))) (pP (SS t) (lsS (SS t) b) (md (SS t))) := by
    unfold rV
    rw [w, p]
    rfl
  have e4 : rW (fA A t (SS t) b) t (md (SS t)) = eW A (pW (SS t) (lsS (SS t) b) (md (SS t))) (pP (SS t) (lsS (SS t) b) (md (SS t))) := by
    unfold rW
    rw [w, p]
    rfl
  rw [e1, e2, e3, e4]
  by_cases h : 0 ≤ lsS (SS t) b
  · obtain ⟨a1, a2, a3, a4⟩ := run_at (i := lsS (SS t) b) ht h1 h2 h3 ⟨h, g1.2⟩
    exact Or.inl ⟨h, g1.2, a1, a2, a3, a4⟩
  · have hm : lsS (SS t) b = -1 := by
      have := g1.1
      show lsR (ms (SS t)) b (mn (SS t)) = -1
      have h : ¬ 0 ≤ lsR (ms (SS t)) b (mn (SS t)) := h
      omega
    rw [hm]
    obtain ⟨a1, a2, a3, a4⟩ := run_no (A := A) (S := SS t)
    exact Or.inr ⟨rfl, a1, a2, a3, a4⟩
end
