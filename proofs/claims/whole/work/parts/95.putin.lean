/-! putIn -/
section
variable {G : gG} {N : Option Nat} {h0 : gH} {A : cA} {SS : Nat → mS} {F : Nat → Prop} {S : mS} {t k : Nat} {x n v w b a : Int}
theorem jnB_is (hc : CX A SS F) (ht : t < 4) (ho : rOk x n v w) (hf : Fr (SS t) k x n) : (jB (SS t) k x n v w → jnB (eF A (pW (SS t) (lsS (SS t) x) (md (SS t))) (pP (SS t) (lsS (SS t) x) (md (SS t)))) (eL A (pW (SS t) (lsS (SS t) x) (md (SS t))) (pP (SS t) (lsS (SS t) x) (md (SS t)))) (eV A (pW (SS t) (lsS (SS t) x) (md (SS t))) (pP (SS t) (lsS (SS t) x) (md (SS t)))) (eW A (pW (SS t) (lsS (SS t) x) (md (SS t))) (pP (SS t) (lsS (SS t) x) (md (SS t)))) x n v w = ml (SS t) (k - 1)) ∧ (¬ jB (SS t) k x n v w → jnB (eF A (pW (SS t) (lsS (SS t) x) (md (SS t))) (pP (SS t) (lsS (SS t) x) (md (SS t)))) (eL A (pW (SS t) (lsS (SS t) x) (md (SS t))) (pP (SS t) (lsS (SS t) x) (md (SS t)))) (eV A (pW (SS t) (lsS (SS t) x) (md (SS t))) (pP (SS t) (lsS (SS t) x) (md (SS t)))) (eW A (pW (SS t) (lsS (SS t) x) (md (SS t))) (pP (SS t) (lsS (SS t) x) (md (SS t)))) x n v w = 0) := by
  obtain ⟨o1, o2, o3, o4, o5, o6, o7⟩ := ho
  obtain ⟨hs, hr, ha, -⟩ := hc.2.1 t ht
  have lw : (if w = 1 then 32768 else 32767 : Int) = 32767 + w := by
    rcases o4 with rfl | rfl <;> rfl
  rw [hf.ls hr o2]
  by_cases hk : k = 0
  · subst hk
    rw [show ((0 : Nat) : Int) - 1 = -1 from rfl]
    obtain ⟨e1, e2, e3, e4⟩ := run_no (A := A) (S := SS t)
    rw [e1, e2, e3, e4]
    refine ⟨fun h => absurd h.1 (by omega), fun _ => ?_⟩
    unfold jnB
    rw [if_neg (fun q => absurd q.1.1.1 (by omega))]
  · obtain ⟨e1, e2, e3, e4⟩ := run_at (A := A) ht hs hr ha (i := (k : Int) - 1) ⟨by omega, by have := hf.1; omega⟩
    rw [e1, e2, e3, e4, show ((k : Int) - 1).toNat = k - 1 by omega]
    have h9 := (hr.1 (k - 1) (by have := hf.1; omega)).2.1
    unfold jnB
    rw [lw]
    refine ⟨fun h => ?_, fun h => ?_⟩
    · obtain ⟨j1, j2, j3, j4, j5⟩ := h
      rw [if_pos ⟨⟨⟨by omega, j2⟩, j3⟩, j4, j5⟩]
    · rw [if_neg (fun q => h ⟨by omega, q.1.1.2, q.1.2, q.2.1, q.2.2⟩)]
theorem Fr.ls2 (hr : mRn S) (hf : Fr S k x n) (hn : 1 ≤ n) : (k < mn S ∧ ms S k = x + n ∧ lsS S (x + n) = (k : Int)) ∨ (¬ (k < mn S ∧ ms S k = x + n) ∧ lsS S (x + n) = (k : Int) - 1) := by
  have lo : ∀ p, p < k → ms S p < x + n := by
    intro p hp
    have a := hf.2.1 p hp
    have c := hf.1
    have := (hr.1 p (by omega)).2.1
    omega
  by_cases h : k < mn S ∧ ms S k = x + n
  · refine Or.inl ⟨h.1, h.2, ?_⟩
    have := ls_is (k := k + 1) (b := x + n) hr (by omega) (fun p hp => by
      by_cases e : p = k
      · rw [e]
        omega
      · have := lo p (by omega)
        omega) (fun h2 => by
      have := hr.lt (show k < k + 1 by omega) h2
      omega)
    omega
  · refine Or.inr ⟨h, ls_is (k := k) (b := x + n) hr hf.1 (fun p hp => by
      have := lo p hp
      omega) (fun h2 => ?_)⟩
    have h3 := hf.2.2 k (Nat.le_refl _) h2
    have h4 : ms S k ≠ x + n := fun z => h ⟨h2, z⟩
    omega
theorem jnA_is (hc : CX A SS F) (ht : t < 4) (ho : rOk x n v w) (hf : Fr (SS t) k x n) : (jA (SS t) k x n v w b → jnA (eF A (pW (SS t) (lsS (SS t) (x + n)) (md (SS t))) (pP (SS t) (lsS (SS t) (x + n)) (md (SS t)))) (eL A (pW (SS t) (lsS (SS t) (x + n)) (md (SS t))) (pP (SS t) (lsS (SS t) (x + n)) (md (SS t)))) (eV A (pW (SS t) (lsS (SS t) (x + n)) (md (SS t))) (pP (SS t) (lsS (SS t) (x + n)) (md (SS t)))) (eW A (pW (SS t) (lsS (SS t) (x + n)) (md (SS t))) (pP (SS t) (lsS (SS t) (x + n)) (md (SS t)))) x n v w b = ml (SS t) k) ∧ (¬ jA (SS t) k x n v w b → jnA (eF A (pW (SS t) (lsS (SS t) (x + n)) (md (SS t))) (pP (SS t) (lsS (SS t) (x + n)) (md (SS t)))) (eL A (pW (SS t) (lsS (SS t) (x + n)) (md (SS t))) (pP (SS t) (lsS (SS t) (x + n)) (md (SS t)))) (eV A (pW (SS t) (lsS (SS t) (x + n)) (md (SS t))) (pP (SS t) (lsS (SS t) (x + n)) (md (SS t)))) (eW A (pW (SS t) (lsS (SS t) (x + n)) (md (SS t))) (pP (SS t) (lsS (SS t) (x + n)) (md (SS t)))) x n v w b = 0) := by
  obtain ⟨o1, o2, o3, o4, o5, o6, o7⟩ := ho
  obtain ⟨hs, hr, ha, -⟩ := hc.2.1 t ht
  have lw : (if w = 1 then 32768 else 32767 : Int) = 32767 + w := by
    rcases o4 with rfl | rfl <;> rfl
  rcases hf.ls2 hr o2 with ⟨h1, h2, h3⟩ | ⟨h1, h3⟩
  · rw [h3]
    obtain ⟨e1, e2, e3, e4⟩ := run_at (A := A) ht hs hr ha (i := (k : Int)) ⟨by omega, by omega⟩
    rw [e1, e2, e3, e4, show ((k : Nat) : Int).toNat = k by omega]
    have h9 := (hr.1 k h1).2.1
    unfold jnA
    rw [lw]
    refine ⟨fun h => ?_, fun h => ?_⟩
    · obtain ⟨j1, j2, j3, j4, j5⟩ := h
      rw [if_pos ⟨⟨⟨by omega, j2⟩, j3⟩, j4, j5⟩]
    · rw [if_neg (fun q => h ⟨h1, q.1.1.2, q.1.2, q.2.1, q.2.2⟩)]
  · rw [h3]
    refine ⟨fun h => absurd ⟨h.1, h.2.1⟩ h1, fun _ => ?_⟩
    by_cases hk : k = 0
    · subst hk
      rw [show ((0 : Nat) : Int) - 1 = -1 from rfl]
      obtain ⟨e1, e2, e3, e4⟩ := run_no (A := A) (S := SS t)
      rw [e1, e2, e3, e4]
      unfold jnA
      rw [if_neg (fun q => absurd q.1.1.1 (by omega))]
    · have hk2 := hf.1
      obtain ⟨e1, e2, e3, e4⟩ := run_at (A := A) ht hs hr ha (i := (k : Int) - 1) ⟨by omega, by omega⟩
      rw [e1, e2, e3, e4, show ((k : Int) - 1).toNat = k - 1 by omega]
      have h9 := (hr.1 (k - 1) (by omega)).2.1
      have h8 := hf.2.1 (k - 1) (by omega)
      unfold jnA
      rw [if_neg (fun q => by
        have := q.1.1.2
        omega)]
set_option maxHeartbeats 2000000 in
theorem go_putIn {E : gK → State → Prop} (hc : CX A SS F) (ht : t < 4) (ho : rOk x n v w) (rb : 0 ≤ b ∧ b ≤ 65536)
    (hb : jnB (eF A (pW (SS t) (lsS (SS t) x) (md (SS t))) (pP (SS t) (lsS (SS t) x) (md (SS t)))) (eL A (pW (SS t) (lsS (SS t) x) (md (SS t))) (pP (SS t) (lsS (SS t) x) (md (SS t)))) (eV A (pW (SS t) (lsS (SS t) x) (md (SS t))) (pP (SS t) (lsS (SS t) x) (md (SS t)))) (eW A (pW (SS t) (lsS (SS t) x) (md (SS t))) (pP (SS t) (lsS (SS t) x) (md (SS t)))) x n v w = b)
    (ha : jnA (eF A (pW (SS t) (lsS (SS t) (x + n)) (md (SS t))) (pP (SS t) (lsS (SS t) (x + n)) (md (SS t)))) (eL A (pW (SS t) (lsS (SS t) (x + n)) (md (SS t))) (pP (SS t) (lsS (SS t) (x + n)) (md (SS t)))) (eV A (pW (SS t) (lsS (SS t) (x + n)) (md (SS t))) (pP (SS t) (lsS (SS t) (x + n)) (md (SS t)))) (eW A (pW (SS t) (lsS (SS t) (x + n)) (md (SS t))) (pP (SS t) (lsS (SS t) (x + n)) (md (SS t)))) x n v w b = a)
    (kk : Go G m_Tree_putIn E 31 [some (vR (517 + 6 * t)), some (vI x), some (vI n), some (vI v), some (vI w), some (vI b), some (vI a)] [] none (hpx (fA (fA (cmA A t n w) t (SS t) x) t (SS t) (x + n)) h0) 0 0) : Go G m_Tree_putIn E 0 [some (vR (517 + 6 * t)), some (vI x), some (vI n), some (vI v), some (vI w), none, none] [] N (hpx A h0) 0 0 := by
  have hM := ok_Tree_putIn
  obtain ⟨o1, o2, o3, o4, o5, o6, o7⟩ := ho
  have hc1 : CX (cmA A t n w) SS F := hc.cnt
  obtain ⟨h1, h2, h3, -⟩ := hc1.2.1 t ht
  obtain ⟨g1, g2, g3⟩ := lsR_spec h2 x
  obtain ⟨f1, f2, f3⟩ := lsR_spec h2 (x + n)
  have c2 := c_joinBefore (G := G) (N := none) (h0 := h0) (x := x) (n := n) (v := v) (w := w) hc1.1 ht (by omega) (by omega) (by omega) o4 (path_of ht h1 h2 h3 g1 g2 g3)
  have hc2 : CX (fA (cmA A t n w) t (SS t) x) SS F := hc1
  obtain ⟨i1, i2, i3, -⟩ := hc2.2.1 t ht
  have c3 := c_joinBehind (G := G) (N := none) (h0 := h0) (A := fA (cmA A t n w) t (SS t) x) (x := x) (n := n) (v := v) (w := w) (b := b) hc2.1 ht (by omega) (by omega) (by omega) o4 rb (path_of ht i1 i2 i3 f1 f2 f3)
  have hb : jnB (eF (cmA A t n w) (pW (SS t) (lsR (ms (SS t)) x (mn (SS t))) (md (SS t))) (pP (SS t) (lsR (ms (SS t)) x (mn (SS t))) (md (SS t)))) (eL (cmA A t n w) (pW (SS t) (lsR (ms (SS t)) x (mn (SS t))) (md (SS t))) (pP (SS t) (lsR (ms (SS t)) x (mn (SS t))) (md (SS t)))) (eV (cmA A t n w) (pW (SS t) (lsR (ms (SS t)) x (mn (SS t))) (md (SS t))) (pP (SS t) (lsR (ms (SS t)) x (mn (SS t))) (md (SS t)))) (eW (cmA A t n w) (pW (SS t) (lsR (ms (SS t)) x (mn (SS t))) (md (SS t))) (pP (SS t) (lsR (ms (SS t)) x (mn (SS t))) (md (SS t)))) x n v w = b := hb
  have ha : jnA (eF (fA (cmA A t n w) t (SS t) x) (pW (SS t) (lsR (ms (SS t)) (x + n) (mn (SS t))) (md (SS t))) (pP (SS t) (lsR (ms (SS t)) (x + n) (mn (SS t))) (md (SS t)))) (eL (fA (cmA A t n w) t (SS t) x) (pW (SS t) (lsR (ms (SS t)) (x + n) (mn (SS t))) (md (SS t))) (pP (SS t) (lsR (ms (SS t)) (x + n) (mn (SS t))) (md (SS t)))) (eV (fA (cmA A t n w) t (SS t) x) (pW (SS t) (lsR (ms (SS t)) (x + n) (mn (SS t))) (md (SS t))) (pP (SS t) (lsR (ms (SS t)) (x + n) (mn (SS t))) (md (SS t)))) (eW (fA (cmA A t n w) t (SS t) x) (pW (SS t) (lsR (ms (SS t)) (x + n) (mn (SS t))) (md (SS t))) (pP (SS t) (lsR (ms (SS t)) (x + n) (mn (SS t))) (md (SS t)))) x n v w b = a := ha
  rw [hb] at c2
  rw [ha] at c3
  refine go_drop ?_
  repeat (first | refine go_pure hM rfl ?_ | (refine go_get (fs := ?_) (v := ?_) hM rfl ?_ ?_ ?_; rotate_left 2; assumption; rfl) | refine go_ldc hM rfl ?_)
  refine go_cV hM rfl rfl rfl (hp_tr ht) rfl (c_countMapped ht o4) rfl ?_
  repeat (first | refine go_pure hM rfl ?_ | (refine go_get (fs := ?_) (v := ?_) hM rfl ?_ ?_ ?_; rotate_left 2; assumption; rfl) | refine go_ldc hM rfl ?_)
  refine go_cV hM rfl rfl rfl (hp_tr (A := cmA A t n w) ht) rfl c2 rfl ?_
  repeat (first | refine go_pure hM rfl ?_ | (refine go_get (fs := ?_) (v := ?_) hM rfl ?_ ?_ ?_; rotate_left 2; assumption; rfl) | refine go_ldc hM rfl ?_)
  refine go_cV hM rfl rfl rfl (hp_tr (A := fA (cmA A t n w) t (SS t) x) ht) rfl c3 rfl ?_
  refine go_pure hM rfl ?_
  exact kk
end
