/-! setRun and removeRun as calls, on the model -/
section
variable {G : gG} {N : Option Nat} {h0 : gH} {A : cA} {SS : Nat → mS} {F : Nat → Prop} {S : mS} {t q c : Nat} {x n v w : Int}
theorem CX.fnd (hc : CX A SS F) {W : Nat → Nat} {P : Nat → Int} {k : Nat} {y : Int} : CX (fnd A t W P k y) SS F := hc
theorem s_setRun (hc : CX A SS F) (ht : t < 4) (hS : SS t = S) (hq : q < mn S) (hx : 0 ≤ x ∧ x ≤ 65536) (hn : 0 ≤ n ∧ n ≤ 32768) (hv : 0 ≤ v ∧ v ≤ 16777216) (hww : w = 0 ∨ w = 1) (hr' : mRn (sSet S q x n v w)) :
    ∃ A', Rd G m_Tree_setRun [vR (517 + 6 * t), vI x, vI n, vI v, vI w] N (hpx (fnd A t (pW S q) (pP S q) (md S + 1) (md S)) h0) none N (hpx A' h0) ∧ CX A' (gF SS t (sSet S q x n v w)) F ∧ WyTo A' t (sSet S q x n v w) q ∧ aMa A' = aMa A ∧ aMw A' = aMw A ∧ aM A' = aM A ∧ aTk A' = aTk A ∧ aLe A' = aLe A := by
  have h2 := hc.set ht hS hq hx hn hv hww hr'
  subst hS
  obtain ⟨hs, hr, ha, u1, u2, u3⟩ := hc.2.1 t ht
  have hw : WyTo (fnd A t (pW (SS t) q) (pP (SS t) q) (md (SS t) + 1) (md (SS t))) t (SS t) q := wy_fnd
  have h5 := hs.1
  refine ⟨_, c_setRun (l := md (SS t)) hc.1 ht hw.1 (by omega) (fun k hk => ?_) (fun k hk => ?_) hx hn hv hww, h2, ?_, ?_⟩
  · rw [(hw.2 k hk).1]
    exact hs.bl ht (by omega) (pP_b hs (i := (q : Int)) (by omega) hk).1
  · rw [(hw.2 k hk).1, (hw.2 k hk).2, pPn hs hq hk, pW_n]
    obtain ⟨a1, a2, a3⟩ := mQ_in hs hq (show md (SS t) - k ≤ md (SS t) by omega)
    have := (ha (md (SS t) - k) (by omega) _ a1).2.1
    show 0 ≤ _ ∧ _ < aEn A (mb (SS t) (md (SS t) - k) (mQ (SS t) q (md (SS t) - k + 1)))
    rw [this]
    omega
  · have mq : ∀ y, mQ (sSet (SS t) q x n v w) q y = mQ (SS t) q y := fun y => mQ_congr y (fun k _ => ⟨rfl, rfl⟩)
    obtain ⟨r1, r2, r3, r4, r5, r6, r7, r8, r9, r10, r11, r12, r13, r14⟩ := rf_ru (t := t) (md (SS t)) (sWf (fnd A t (pW (SS t) q) (pP (SS t) q) (md (SS t) + 1) (md (SS t))) (aWy (fnd A t (pW (SS t) q) (pP (SS t) q) (md (SS t) + 1) (md (SS t))) t (md (SS t))) (gT3 (aWf (fnd A t (pW (SS t) q) (pP (SS t) q) (md (SS t) + 1) (md (SS t))) (aWy (fnd A t (pW (SS t) q) (pP (SS t) q) (md (SS t) + 1) (md (SS t))) t (md (SS t)))) (aPl (fnd A t (pW (SS t) q) (pP (SS t) q) (md (SS t) + 1) (md (SS t))) t (md (SS t)) * 3).toNat x (if w = 1 then n else n + 32768) v))
    refine ⟨?_, fun k hk => ⟨?_, ?_⟩⟩
    · unfold srA
      rw [r6]
      exact hw.1
    · have hk : k ≤ md (SS t) := hk
      unfold srA
      rw [r7]
      refine (hw.2 k hk).1.trans ?_
      rw [pW_n, pW_n, mq]
      rfl
    · have hk : k ≤ md (SS t) := hk
      unfold srA
      rw [r8]
      refine (hw.2 k hk).2.trans ?_
      unfold pP
      rw [show ((q : Nat) : Int).toNat = q by omega, mq, mq, mq]
      rfl
  · obtain ⟨r1, r2, r3, r4, r5, r6, r7, r8, r9, r10, r11, r12, r13, r14⟩ := rf_ru (t := t) (md (SS t)) (sWf (fnd A t (pW (SS t) q) (pP (SS t) q) (md (SS t) + 1) (md (SS t))) (aWy (fnd A t (pW (SS t) q) (pP (SS t) q) (md (SS t) + 1) (md (SS t))) t (md (SS t))) (gT3 (aWf (fnd A t (pW (SS t) q) (pP (SS t) q) (md (SS t) + 1) (md (SS t))) (aWy (fnd A t (pW (SS t) q) (pP (SS t) q) (md (SS t) + 1) (md (SS t))) t (md (SS t)))) (aPl (fnd A t (pW (SS t) q) (pP (SS t) q) (md (SS t) + 1) (md (SS t))) t (md (SS t)) * 3).toNat x (if w = 1 then n else n + 32768) v))
    unfold srA
    rw [r3, r4, r12, r13, r14]
    exact ⟨rfl, rfl, rfl, rfl, rfl⟩
theorem s_removeRun (hc : CX A SS F) (ht : t < 4) (hS : SS t = S) (hw : WyTo A t S (q : Int)) (h : RmC S q c) (hr' : mRn (sRm S q c)) :
    ∃ A', Rd G m_Tree_removeRun [vR (517 + 6 * t)] N (hpx A h0) none none (hpx A' h0) ∧ CX A' (gF SS t (sRm S q c)) F := by
  obtain ⟨a1, a2, a3, a4, a5⟩ := hc.rem ht hS hw h hr'
  subst hS
  have hs := (hc.2.1 t ht).1
  have h5 := hs.1
  refine ⟨_, c_removeRun (l := md (SS t)) (c := c) hc.1 ht hw.1 (by omega) (fun k hk => ?_) a1 h.2.1 a2 (Or.inr a3) a4, a5⟩
  rw [(hw.2 k hk).1]
  exact hs.bl ht (by omega) (pP_b hs (i := (q : Int)) (by have := h.1; omega) hk).1
theorem s_removeRunE (hc : CX A SS F) (ht : t < 4) (hS : SS t = S) (hw : WyTo A t S (q : Int)) (h : EmC S q) :
    ∃ A', Rd G m_Tree_removeRun [vR (517 + 6 * t)] N (hpx A h0) none none (hpx A' h0) ∧ CX A' (gF SS t (sE t)) F := by
  obtain ⟨a1, a2, a5⟩ := hc.remE (c := md S) ht hS hw h rfl
  subst hS
  have hs := (hc.2.1 t ht).1
  have h5 := hs.1
  refine ⟨_, c_removeRun (l := md (SS t)) (c := md (SS t)) hc.1 ht hw.1 (by omega) (fun k hk => ?_) a1 (Nat.le_refl _) a2 (Or.inl rfl) (fun k hk => absurd hk (by omega)), ?_⟩
  · rw [(hw.2 k hk).1]
    exact hs.bl ht (by omega) (pP_b hs (i := (q : Int)) (by have := h.1; omega) hk).1
  · rw [Nat.sub_self]
    exact a5
end
