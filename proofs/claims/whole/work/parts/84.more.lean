/-! removeRun leaves what is mapped; each run can go; the calls of settle -/
section
variable {A : cA} {SS : Nat → mS} {F : Nat → Prop} {S : mS} {t l m q c : Nat}
theorem rms_mm : ∀ m, aMa (rmS A t l m) = aMa A ∧ aMw (rmS A t l m) = aMw A ∧ aM (rmS A t l m) = aM A := by
  intro m
  induction m with
  | zero => exact ⟨rfl, rfl, rfl⟩
  | succ m ih =>
    refine ⟨?_, ?_, ih.2.2⟩
    · show gF (aMa (rmS A t l m)) t (aMa (rmS A t l m) t) = _
      rw [gF_same, ih.1]
    · show gF (aMw (rmS A t l m)) t (aMw (rmS A t l m) t) = _
      rw [gF_same, ih.2.1]
theorem rme_mm {D : cA} {k : Nat} : aMa (rmE D t k) = aMa D ∧ aMw (rmE D t k) = aMw D ∧ aM (rmE D t k) = aM D := by
  obtain ⟨r1, r2, r3, r4, r5, r6, r7, r8, r9, r10, r11, r12, r13, r14⟩ := rf_ru (t := t) k (rmD D t)
  have e : aMa (rmD D t) = aMa D ∧ aMw (rmD D t) = aMw D ∧ aM (rmD D t) = aM D := by
    unfold rmD
    split <;> exact ⟨rfl, rfl, rfl⟩
  refine ⟨?_, ?_, r14.trans e.2.2⟩
  · show gF (aMa (rfA (rmD D t) t k)) t (aMa D t) = _
    rw [r3, e.1, gF_same]
  · show gF (aMw (rfA (rmD D t) t k)) t (aMw D t) = _
    rw [r4, e.2.1, gF_same]
theorem rm_ex (hs : mSh S t m) (hq : q < mn S) : (∃ c, RmC S q c) ∨ EmC S q := by
  have key : ∀ d, d ≤ md S + 1 → (∃ c, RmC S q c) ∨ ∀ y, y < d → mc S y (mQ S q (y + 1)) = 1 := by
    intro d
    induction d with
    | zero => intro _; exact Or.inr (fun y hy => absurd hy (Nat.not_lt_zero _))
    | succ d ih =>
      intro hd
      rcases ih (by omega) with z | z
      · exact Or.inl z
      · have p := hs.pos (by omega) (show d ≤ md S by omega) (mQ_in hs hq (show d ≤ md S by omega)).1
        by_cases e : mc S d (mQ S q (d + 1)) = 1
        · refine Or.inr (fun y hy => ?_)
          by_cases e2 : y = d
          · rw [e2]
            exact e
          · exact z y (by omega)
        · exact Or.inl ⟨d, hq, by omega, z, by omega⟩
  rcases key (md S + 1) (Nat.le_refl _) with z | z
  · exact Or.inl z
  · exact Or.inr ⟨hq, fun y hy => z y (by omega)⟩
/-- n steps of settle -/
def stM (S : mS) (t : Nat) : Nat → mS
  | 0 => S
  | n + 1 => sSt (stM S t n) t
theorem stM_d : ∀ n, md (stM S t n) = md S - n := by
  intro n
  induction n with
  | zero => rfl
  | succ n ih =>
    show md (stM S t n) - 1 = _
    rw [ih]
    omega
theorem CX.settle (hc : CX A SS F) (ht : t < 4) (hS : SS t = S) : ∀ n, (∀ k, k < n → StC (stM S t k)) → CX (stS A t n) (gF SS t (stM S t n)) F ∧ (∀ k, k < n → StOk (stS A t k) t) := by
  intro n
  induction n with
  | zero =>
    intro _
    refine ⟨?_, fun k hk => absurd hk (Nat.not_lt_zero _)⟩
    show CX A (gF SS t S) F
    rw [← hS, gF_same]
    exact hc
  | succ n ih =>
    intro h
    obtain ⟨a1, a2⟩ := ih (fun k hk => h k (by omega))
    obtain ⟨b1, b2⟩ := a1.settle1 ht (gF_s _ _ _) (h n (by omega))
    rw [gF_uu] at b2
    refine ⟨b2, fun k hk => ?_⟩
    by_cases e : k = n
    · rw [e]
      exact b1
    · exact a2 k (by omega)
theorem st_mm : ∀ n, aMa (stS A t n) = aMa A ∧ aMw (stS A t n) = aMw A ∧ aM (stS A t n) = aM A := by
  intro n
  induction n with
  | zero => exact ⟨rfl, rfl, rfl⟩
  | succ n ih =>
    refine ⟨?_, ?_, ih.2.2⟩
    · show gF (aMa (stS A t n)) t (aMa (stS A t n) t) = _
      rw [gF_same, ih.1]
    · show gF (aMw (stS A t n)) t (aMw (stS A t n) t) = _
      rw [gF_same, ih.2.1]
end
