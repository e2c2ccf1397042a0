/-! .. a run goes, a run changes -/
section
variable {R R' : rA} {SS : Nat → mS} {S' : mS} {t k q : Nat} {x n v w : Int}
theorem RR.del (hr : RR R SS) (ht : t < 4) (hk : k < mn (SS t)) (hn : mn S' + 1 = mn (SS t)) (hS : ∀ i, i < mn S' → ms S' i = delN (ms (SS t)) k i ∧ ml S' i = delN (ml (SS t)) k i ∧ mv S' i = delN (mv (SS t)) k i ∧ mw S' i = delN (mw (SS t)) k i) : RR (sR (sRu R (shG (zS R) (bg SS t + k + 1) (bg SS t + k) (bg SS 4 - (bg SS t + k + 1))) (shG (zL R) (bg SS t + k + 1) (bg SS t + k) (bg SS 4 - (bg SS t + k + 1))) (shG (zV R) (bg SS t + k + 1) (bg SS t + k) (bg SS 4 - (bg SS t + k + 1))) (shG (zW R) (bg SS t + k + 1) (bg SS t + k) (bg SS 4 - (bg SS t + k + 1)))) 0 (bgI (zB R) t 5 (-1))) (gF SS t S') := by
  obtain ⟨h1, h2, h3⟩ := hr
  have dn := bg_dn (SS := SS) (t := t) hn
  have bt := bg_le (SS := SS) ht
  refine ⟨by have := dn 4; rw [if_pos ht] at this; omega, fun g hg => ?_, fun g hg i hi => ?_⟩
  · have e0 : ∀ R9, zB (sR R9 0 (bgI (zB R) t 5 (-1))) = bgI (zB R) t 5 (-1) := fun R9 => sR_s
    have := dn g
    rw [e0]
    unfold bgI
    rw [h2 g hg]
    by_cases e : t < g
    · rw [if_pos e] at this
      rw [if_pos (by omega)]
      omega
    · rw [if_neg e] at this
      rw [if_neg (by omega)]
      omega
  · have gen : ∀ (f c : Nat → Int), (∀ i, i < mn (SS t) → f (bg SS t + i) = c i) → (g ≠ t → shG f (bg SS t + k + 1) (bg SS t + k) (bg SS 4 - (bg SS t + k + 1)) (bg (gF SS t S') g + i) = f (bg SS g + i)) ∧ (g = t → shG f (bg SS t + k + 1) (bg SS t + k) (bg SS 4 - (bg SS t + k + 1)) (bg (gF SS t S') g + i) = delN c k i) := by
      intro f c hf
      have bg9 := bg_le (SS := SS) hg
      have dg := dn g
      refine ⟨fun e => ?_, fun e => ?_⟩
      · rw [gF_n e] at hi
        unfold shG gCp
        by_cases e2 : t < g
        · have := bg_mono (SS := SS) (show t + 1 ≤ g by omega)
          have e3 : bg SS (t + 1) = bg SS t + mn (SS t) := rfl
          rw [if_pos e2] at dg
          rw [if_pos (by omega), show bg SS t + k + 1 + (bg (gF SS t S') g + i - (bg SS t + k)) = bg SS g + i by omega]
        · have := bg_mono (SS := SS) (show g + 1 ≤ t by omega)
          have e3 : bg SS (g + 1) = bg SS g + mn (SS g) := rfl
          rw [if_neg e2] at dg
          rw [if_neg (by omega), show bg (gF SS t S') g = bg SS g by omega]
      · subst e
        rw [gF_s] at hi
        rw [if_neg (by omega), Nat.add_zero] at dg
        unfold shG gCp
        by_cases h9 : i < k
        · rw [if_neg (by omega), del_lo h9, dg, hf i (by omega)]
        · rw [if_pos (by omega), del_hi (by omega), dg, show bg SS g + k + 1 + (bg SS g + i - (bg SS g + k)) = bg SS g + (i + 1) by omega, hf (i + 1) (by omega)]
    have q1 : ∀ R9 b, zS (sR R9 0 b) = zS R9 := fun R9 b => sR_n (by omega)
    have q2 : ∀ R9 b, zL (sR R9 0 b) = zL R9 := fun R9 b => sR_n (by omega)
    have q3 : ∀ R9 b, zV (sR R9 0 b) = zV R9 := fun R9 b => sR_n (by omega)
    have q4 : ∀ R9 b, zW (sR R9 0 b) = zW R9 := fun R9 b => sR_n (by omega)
    rw [q1, q2, q3, q4, sRu_z1, sRu_z2, sRu_z3, sRu_z4]
    have f1 := gen (zS R) (ms (SS t)) (fun i hi => (h3 t ht i hi).1)
    have f2 := gen (zL R) (ml (SS t)) (fun i hi => (h3 t ht i hi).2.1)
    have f3 := gen (zV R) (mv (SS t)) (fun i hi => (h3 t ht i hi).2.2.1)
    have f4 := gen (zW R) (mw (SS t)) (fun i hi => (h3 t ht i hi).2.2.2)
    by_cases e : g = t
    · rw [f1.2 e, f2.2 e, f3.2 e, f4.2 e]
      subst e
      rw [gF_s] at hi ⊢
      obtain ⟨s1, s2, s3, s4⟩ := hS i hi
      exact ⟨s1.symm, s2.symm, s3.symm, s4.symm⟩
    · rw [f1.1 e, f2.1 e, f3.1 e, f4.1 e]
      rw [gF_n e] at hi ⊢
      exact h3 g hg i hi
theorem RR.set (hr : RR R SS) (ht : t < 4) (hq : q < mn (SS t)) (e0 : zB R' = zB R) (e1 : zS R' = gF (zS R) (bg SS t + q) x) (e2 : zL R' = gF (zL R) (bg SS t + q) n) (e3 : zV R' = gF (zV R) (bg SS t + q) v) (e4 : zW R' = gF (zW R) (bg SS t + q) w) : RR R' (gF SS t (sSet (SS t) q x n v w)) := by
  obtain ⟨h1, h2, h3⟩ := hr
  have eb := bg_eq (SS := SS) (t := t) (S' := sSet (SS t) q x n v w) rfl
  refine ⟨by rw [eb]; exact h1, fun g hg => by rw [e0, eb]; exact h2 g hg, fun g hg i hi => ?_⟩
  rw [e1, e2, e3, e4, eb]
  by_cases e : g = t
  · subst e
    rw [gF_s] at hi ⊢
    have hi : i < mn (SS g) := hi
    show _ = gF (ms (SS g)) q x i ∧ _ = gF (ml (SS g)) q n i ∧ _ = gF (mv (SS g)) q v i ∧ _ = gF (mw (SS g)) q w i
    by_cases e9 : i = q
    · rw [e9, gF_s, gF_s, gF_s, gF_s, gF_s, gF_s, gF_s, gF_s]
      exact ⟨rfl, rfl, rfl, rfl⟩
    · have ne : bg SS g + i ≠ bg SS g + q := by omega
      rw [gF_n ne, gF_n ne, gF_n ne, gF_n ne, gF_n e9, gF_n e9, gF_n e9, gF_n e9]
      exact h3 g hg i hi
  · rw [gF_n e] at hi ⊢
    have ne : bg SS g + i ≠ bg SS t + q := by
      rcases Nat.lt_or_gt_of_ne e with h9 | h9
      · have h8 := bg_mono (SS := SS) (show g + 1 ≤ t from h9)
        have h7 : bg SS (g + 1) = bg SS g + mn (SS g) := rfl
        omega
      · have h8 := bg_mono (SS := SS) (show t + 1 ≤ g from h9)
        have h7 : bg SS (t + 1) = bg SS t + mn (SS t) := rfl
        omega
    rw [gF_n ne, gF_n ne, gF_n ne, gF_n ne]
    exact h3 g hg i hi
theorem RR.congr (hr : RR R SS) (hn : mn S' = mn (SS t)) (ht : t < 4) (hS : ∀ i, i < mn (SS t) → ms S' i = ms (SS t) i ∧ ml S' i = ml (SS t) i ∧ mv S' i = mv (SS t) i ∧ mw S' i = mw (SS t) i) (e : ∀ j, j < 5 → R'.2.2 j = R.2.2 j) : RR R' (gF SS t S') := by
  obtain ⟨h1, h2, h3⟩ := hr
  have eb := bg_eq (SS := SS) (t := t) hn
  refine ⟨by rw [eb]; exact h1, fun g hg => by rw [eb, show zB R' = zB R from e 0 (by omega)]; exact h2 g hg, fun g hg i hi => ?_⟩
  rw [eb, show zS R' = zS R from e 1 (by omega), show zL R' = zL R from e 2 (by omega), show zV R' = zV R from e 3 (by omega), show zW R' = zW R from e 4 (by omega)]
  by_cases eg : g = t
  · subst eg
    rw [gF_s] at hi ⊢
    obtain ⟨s1, s2, s3, s4⟩ := hS i (by omega)
    rw [s1, s2, s3, s4]
    exact h3 g hg i (by omega)
  · rw [gF_n eg] at hi ⊢
    exact h3 g hg i hi
theorem RR.w01 (hr : RR R SS) (hn : ∀ t, t < 4 → mRn (SS t)) (i : Nat) (hi : i < bg SS 4) : zW R i = 0 ∨ zW R i = 1 := by
  obtain ⟨a1, a2, a3⟩ := lc_spec (f := fun g => mn (SS g)) (q := i) 4 hi
  generalize lc (fun g => mn (SS g)) i 4 = g at a1 a2 a3
  have a2 : bg SS g ≤ i := a2
  have a3 : i < bg SS g + mn (SS g) := a3
  have h1 := (hr.2.2 g a1 (i - bg SS g) (by omega)).2.2.2
  rw [show bg SS g + (i - bg SS g) = i by omega] at h1
  rw [h1]
  exact ((hn g a1).1 _ (by omega)).2.2.2.1
end
