/-! what holds of four files together, whatever the class does with them -/
def oF (K : Nat → Nat → Nat) (l g : Nat) : Nat := sm (fun g => K g l) g
def KS (SS : Nat → mS) (g l : Nat) : Nat := if l < md (SS g) then mK (SS g) l else 0
/-- where a file's runs begin -/
def bg (SS : Nat → mS) (g : Nat) : Nat := sm (fun g => mn (SS g)) g
theorem pig : ∀ (m n : Nat) (f : Nat → Nat), (∀ i, i < n → f i < m) → (∀ i j, i < n → j < n → f i = f j → i = j) → n ≤ m := by
  intro m
  induction m with
  | zero =>
    intro n f h1 h2
    by_cases e : n = 0
    · omega
    · have := h1 0 (by omega)
      omega
  | succ m ih =>
    intro n f h1 h2
    by_cases h : ∃ i, i < n ∧ f i = m
    · obtain ⟨i0, a1, a2⟩ := h
      have := ih (n - 1) (fun i => if i < i0 then f i else f (i + 1)) (fun i hi => by
        show (if i < i0 then f i else f (i + 1)) < m
        by_cases e : i < i0
        · rw [if_pos e]
          have b1 := h1 i (by omega)
          have b2 : f i ≠ m := fun z => by
            have := h2 i i0 (by omega) a1 (by rw [z, a2])
            omega
          omega
        · rw [if_neg e]
          have b1 := h1 (i + 1) (by omega)
          have b2 : f (i + 1) ≠ m := fun z => by
            have := h2 (i + 1) i0 (by omega) a1 (by rw [z, a2])
            omega
          omega) (fun i j hi hj e => by
        have e : (if i < i0 then f i else f (i + 1)) = (if j < i0 then f j else f (j + 1)) := e
        by_cases e1 : i < i0 <;> by_cases e2 : j < i0
        · rw [if_pos e1, if_pos e2] at e
          exact h2 i j (by omega) (by omega) e
        · rw [if_pos e1, if_neg e2] at e
          have := h2 i (j + 1) (by omega) (by omega) e
          omega
        · rw [if_neg e1, if_pos e2] at e
          have := h2 (i + 1) j (by omega) (by omega) e
          omega
        · rw [if_neg e1, if_neg e2] at e
          have := h2 (i + 1) (j + 1) (by omega) (by omega) e
          omega)
      omega
    · have := ih n f (fun i hi => by
        have b1 := h1 i hi
        have b2 : f i ≠ m := fun z => h ⟨i, hi, z⟩
        omega) h2
      omega
section
variable {A : cA} {SS : Nat → mS} {F : Nat → Prop} {l : Nat}
theorem bd_of (hc : CX A SS F) (l : Nat) : oF (KS SS) l 4 ≤ 255 := by
  have sp : ∀ j, j < oF (KS SS) l 4 → lc (fun g => KS SS g l) j 4 < 4 ∧ oF (KS SS) l (lc (fun g => KS SS g l) j 4) ≤ j ∧ j < oF (KS SS) l (lc (fun g => KS SS g l) j 4) + KS SS (lc (fun g => KS SS g l) j 4) l := fun j hj => lc_spec (f := fun g => KS SS g l) (q := j) 4 hj
  have own : ∀ j, j < oF (KS SS) l 4 → mOwn SS (mb (SS (lc (fun g => KS SS g l) j 4)) l (j - oF (KS SS) l (lc (fun g => KS SS g l) j 4))) (lc (fun g => KS SS g l) j 4) l (j - oF (KS SS) l (lc (fun g => KS SS g l) j 4)) := by
    intro j hj
    obtain ⟨a1, a2, a3⟩ := sp j hj
    generalize lc (fun g => KS SS g l) j 4 = g at a1 a2 a3
    have hK : KS SS g l = if l < md (SS g) then mK (SS g) l else 0 := rfl
    by_cases e : l < md (SS g)
    · rw [if_pos e] at hK
      exact ⟨a1, e, by omega, rfl⟩
    · rw [if_neg e] at hK
      omega
  refine pig 255 _ (fun j => mb (SS (lc (fun g => KS SS g l) j 4)) l (j - oF (KS SS) l (lc (fun g => KS SS g l) j 4)) - 1) (fun j hj => ?_) (fun i j hi hj e => ?_)
  · have := hc.rng (own j hj)
    show mb (SS (lc (fun g => KS SS g l) j 4)) l (j - oF (KS SS) l (lc (fun g => KS SS g l) j 4)) - 1 < 255
    omega
  · have e : mb (SS (lc (fun g => KS SS g l) i 4)) l (i - oF (KS SS) l (lc (fun g => KS SS g l) i 4)) - 1 = mb (SS (lc (fun g => KS SS g l) j 4)) l (j - oF (KS SS) l (lc (fun g => KS SS g l) j 4)) - 1 := e
    have o1 := own i hi
    have o2 := own j hj
    have r1 := hc.rng o1
    have r2 := hc.rng o2
    have s1 := sp i hi
    have s2 := sp j hj
    rw [show mb (SS (lc (fun g => KS SS g l) i 4)) l (i - oF (KS SS) l (lc (fun g => KS SS g l) i 4)) = mb (SS (lc (fun g => KS SS g l) j 4)) l (j - oF (KS SS) l (lc (fun g => KS SS g l) j 4)) by omega] at o1
    obtain ⟨u1, u2, u3⟩ := hc.2.2.1 _ _ _ _ _ _ _ o1 o2
    rw [u1] at u3 s1
    omega
/-- all runs have room -/
theorem bg_of (hc : CX A SS F) : bg SS 4 ≤ 21500 := by
  have h1 := bd_of hc 0
  have hm := hc.1.2.1
  have per : ∀ g, g < 4 → mn (SS g) ≤ 84 * KS SS g 0 + 4 := by
    intro g hg
    have hs := (hc.2.1 g hg).1
    have h4 := hs.2.2.2.1 0 (Nat.zero_le _)
    have h5 : mI (SS g) 0 = mn (SS g) := rfl
    by_cases e : 0 < md (SS g)
    · have hK : KS SS g 0 = mK (SS g) 0 := if_pos e
      have key : ∀ n, n ≤ mK (SS g) 0 → sm (mc (SS g) 0) n ≤ 84 * n := by
        intro n
        induction n with
        | zero => intro _; exact Nat.le_refl _
        | succ n ih =>
          intro hn
          have a1 := ih (by omega)
          have a2 := (hs.2.2.2.2.1 0 e n (by omega)).2.1
          show sm (mc (SS g) 0) n + mc (SS g) 0 n ≤ 84 * (n + 1)
          omega
      have := key _ (Nat.le_refl _)
      omega
    · have e0 : md (SS g) = 0 := by omega
      have a1 := hs.2.1
      have a2 := hs.2.2.2.2.2.1
      rw [e0] at a1 a2
      rw [a1] at h4
      have a3 : sm (mc (SS g) 0) 1 = 0 + mc (SS g) 0 0 := rfl
      omega
  have e1 : bg SS 4 = 0 + mn (SS 0) + mn (SS 1) + mn (SS 2) + mn (SS 3) := rfl
  have e2 : oF (KS SS) 0 4 = 0 + KS SS 0 0 + KS SS 1 0 + KS SS 2 0 + KS SS 3 0 := rfl
  have p0 := per 0 (by omega)
  have p1 := per 1 (by omega)
  have p2 := per 2 (by omega)
  have p3 := per 3 (by omega)
  omega
end
/-- the files are good -/
def Gd (SS : Nat → mS) (m : Nat) : Prop := (5 ≤ m ∧ m ≤ 84) ∧ (∀ t, t < 4 → mSh (SS t) t m ∧ mRn (SS t)) ∧ (∀ b t l p t' l' p', mOwn SS b t l p → mOwn SS b t' l' p' → t = t' ∧ l = l' ∧ p = p') ∧ (∀ l, oF (KS SS) l 4 ≤ 255) ∧ bg SS 4 ≤ 21500
theorem CX.gd {A : cA} {SS : Nat → mS} {F : Nat → Prop} {m : Nat} (hc : CX A SS F) (hm : aM A = m) : Gd SS m := by
  subst hm
  exact ⟨⟨hc.1.1, hc.1.2.1⟩, fun t ht => ⟨(hc.2.1 t ht).1, (hc.2.1 t ht).2.1⟩, hc.2.2.1, fun l => bd_of hc l, bg_of hc⟩
