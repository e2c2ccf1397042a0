/-! the three changes as calls, wherever the way leads -/
def RmEn (A : cA) (S : mS) (k : Nat) : Prop := (md S : Int) + 1 ≤ aLe A ∧ ¬ (5 ≤ md S ∧ ∀ y, y ≤ md S → mc S y (mQ S (k - 1) (y + 1)) = if y = md S then 4 else aM A)
section
variable {G : gG} {N : Option Nat} {h0 : gH} {A A' : cA} {SS : Nat → mS} {F : Nat → Prop} {S S' : mS} {t m q k c : Nat} {x n v w a : Int}
theorem s_Set (hc : CX A SS F) (ht : t < 4) (hS : SS t = S) (hw : WyTo A t S (q : Int)) (hq : q < mn S) (ho : rOk x n v w) (hr' : mRn (sSet S q x n v w)) :
    ∃ A', Rd G m_Tree_setRun [vR (517 + 6 * t), vI x, vI n, vI v, vI w] N (hpx A h0) none N (hpx A' h0) ∧ CX A' (gF SS t (sSet S q x n v w)) F ∧ WyTo A' t (sSet S q x n v w) q ∧ aMa A' = aMa A ∧ aMw A' = aMw A ∧ aM A' = aM A ∧ aTk A' = aTk A ∧ aLe A' = aLe A := by
  obtain ⟨o1, o2, o3, o4, o5, o6, o7⟩ := ho
  have := s_setRun (G := G) (N := N) (h0 := h0) (x := x) (n := n) (v := v) (w := w) hc ht hS hq (by omega) (by omega) (by omega) o4 hr'
  rw [wy_eq hw] at this
  exact this
theorem s_Rm (hc : CX A SS F) (ht : t < 4) (hw : WyTo A t (SS t) (q : Int)) (hq : q < mn (SS t)) :
    ∃ S' A', Rm (SS t) t q S' ∧ Rd G m_Tree_removeRun [vR (517 + 6 * t)] N (hpx A h0) none none (hpx A' h0) ∧ CX A' (gF SS t S') F ∧ aMa A' = aMa A ∧ aMw A' = aMw A ∧ aM A' = aM A := by
  have hs := (hc.2.1 t ht).1
  have h5 := hs.1
  have w260 : ∀ k, k ≤ md (SS t) → aWy A t k < 260 := by
    intro k hk
    rw [(hw.2 k hk).1]
    exact hs.bl ht (by omega) (pP_b hs (i := (q : Int)) (by omega) hk).1
  rcases rm_ex hs hq with ⟨c, h⟩ | h
  · obtain ⟨a1, a2, a3, a4, a5⟩ := hc.rem ht rfl hw h (srm_rn (hc.2.1 t ht).2.1)
    refine ⟨_, _, Or.inl ⟨c, h, rfl⟩, c_removeRun (l := md (SS t)) (c := c) hc.1 ht hw.1 (by omega) w260 a1 h.2.1 a2 (Or.inr a3) a4, a5, ?_⟩
    obtain ⟨r1, r2, r3⟩ := rme_mm (t := t) (D := rmS A t (md (SS t)) c) (k := md (SS t) - c)
    obtain ⟨u1, u2, u3⟩ := rms_mm (A := A) (t := t) (l := md (SS t)) c
    exact ⟨r1.trans u1, r2.trans u2, r3.trans u3⟩
  · obtain ⟨a1, a2, a5⟩ := hc.remE (c := md (SS t)) ht rfl hw h rfl
    refine ⟨_, _, Or.inr ⟨h, rfl⟩, c_removeRun (l := md (SS t)) (c := md (SS t)) hc.1 ht hw.1 (by omega) w260 a1 (Nat.le_refl _) a2 (Or.inl rfl) (fun k hk => absurd hk (by omega)), ?_, ?_⟩
    · rw [Nat.sub_self]
      exact a5
    · obtain ⟨r1, r2, r3⟩ := rme_mm (t := t) (D := rmS A t (md (SS t)) (md (SS t))) (k := md (SS t) - md (SS t))
      obtain ⟨u1, u2, u3⟩ := rms_mm (A := A) (t := t) (l := md (SS t)) (md (SS t))
      exact ⟨r1.trans u1, r2.trans u2, r3.trans u3⟩
theorem en_ex (hs : mSh S t m) (hk : k ≤ mn S) (hm : 4 ≤ m) : ∃ tt, tt ≤ md S + 1 ∧ (∀ y, y < tt → mc S y (mQ S (k - 1) (y + 1)) = if y = md S then 4 else m) ∧ (tt ≤ md S → mc S tt (mQ S (k - 1) (tt + 1)) < if tt = md S then 4 else m) := by
  have cap : ∀ y, y ≤ md S → mc S y (mQ S (k - 1) (y + 1)) ≤ if y = md S then 4 else m := by
    intro y hy
    have p1 := (pP_b hs (i := (k : Int) - 1) (by omega) (k := md S - y) (by omega)).1
    rw [show md S - (md S - y) = y by omega, show ((k : Int) - 1).toNat = k - 1 by omega] at p1
    by_cases e : y = md S
    · rw [if_pos e]
      have hb := hs.2.1
      rw [e] at p1 ⊢
      rw [show mQ S (k - 1) (md S + 1) = 0 by omega]
      exact hs.2.2.2.2.2.1
    · rw [if_neg e]
      exact (hs.2.2.2.2.1 y (by omega) _ p1).2.1
  have key : ∀ d, d ≤ md S + 1 → (∃ tt, tt ≤ md S + 1 ∧ (∀ y, y < tt → mc S y (mQ S (k - 1) (y + 1)) = if y = md S then 4 else m) ∧ (tt ≤ md S → mc S tt (mQ S (k - 1) (tt + 1)) < if tt = md S then 4 else m)) ∨ ∀ y, y < d → mc S y (mQ S (k - 1) (y + 1)) = if y = md S then 4 else m := by
    intro d
    induction d with
    | zero => intro _; exact Or.inr (fun y hy => absurd hy (Nat.not_lt_zero _))
    | succ d ih =>
      intro hd
      rcases ih (by omega) with z | z
      · exact Or.inl z
      · have p := cap d (by omega)
        by_cases e : mc S d (mQ S (k - 1) (d + 1)) = if d = md S then 4 else m
        · refine Or.inr (fun y hy => ?_)
          by_cases e2 : y = d
          · rw [e2]
            exact e
          · exact z y (by omega)
        · exact Or.inl ⟨d, by omega, z, fun _ => by omega⟩
  rcases key (md S + 1) (Nat.le_refl _) with z | z
  · exact z
  · exact ⟨md S + 1, Nat.le_refl _, z, fun h => absurd h (by omega)⟩
theorem s_En (hc : CX A SS (fun _ => False)) (ht : t < 4) (hw : WyTo A t (SS t) ((k : Int) - 1)) (hk : k ≤ mn (SS t)) (hroom : RmEn A (SS t) k) (ho : rOk x n v w) (hr' : mRn (sIn (SS t) k 0 x n v w)) :
    ∃ tt S' A', EnT SS t (aM A) k tt x n v w S' ∧ Rd G m_Tree_insertRun [vR (517 + 6 * t), vI x, vI n, vI v, vI w] N (hpx A h0) none none (hpx A' h0) ∧ CX A' (gF SS t S') (fun _ => False) ∧ aMa A' = aMa A ∧ aMw A' = aMw A ∧ aM A' = aM A ∧ aLe A' = aLe A - tt := by
  obtain ⟨o1, o2, o3, o4, o5, o6, o7⟩ := ho
  have hs := (hc.2.1 t ht).1
  have hm5 := hc.1.1
  obtain ⟨tt, h1, h2, h3⟩ := en_ex hs hk (by omega)
  have ek : ((k : Int) - 1).toNat = k - 1 := by omega
  have hle : (tt : Int) ≤ aLe A := by
    have := hroom.1
    omega
  obtain ⟨A', r1, r2, r3, r4, r5, r6⟩ := s_insertRun (G := G) (N := N) (h0 := h0) (j := k) (tt := tt) hc ht rfl hw (by omega) (by omega) h1 (by rw [ek]; exact h2) (by rw [ek]; exact h3) (fun e => by
    by_cases h9 : md (SS t) < 5
    · exact h9
    · exact absurd ⟨by omega, fun y hy => h2 y (by omega)⟩ hroom.2) hle (by omega) (by omega) (by omega) o4 hr'
  rw [ek] at r2
  have htn := r2.tn
  rw [r6] at htn
  have hle2 := hle
  rw [hc.2.2.2.2.2.2] at hle2
  have hd5 : tt = md (SS t) + 1 → md (SS t) < 5 := fun e => by
    by_cases h9 : md (SS t) < 5
    · exact h9
    · exact absurd ⟨by omega, fun y hy => h2 y (by omega)⟩ hroom.2
  refine ⟨tt, _, A', ⟨aTk A, hc.tn, h1, h2, h3, rfl, htn, hle2, hd5, r2.gd r5⟩, r1, r2, r3, r4, r5, ?_⟩
  obtain ⟨z1, z2, ⟨-, -, z3⟩, -⟩ := hc.takes (t := t) (l := md (SS t)) (c := tt) hle h1 tt (Nat.le_refl _)
  rw [r2.2.2.2.2.2.2, r6, ← z2, ← z1.2.2.2.2.2.2, z3]
/-- what is mapped, after a change of one file -/
theorem mx_step (hm : MX A SS) (e1 : aMa A' = gF (aMa A) t (aMa A t + a)) (e2 : aMw A' = gF (aMw A) t (if w = 1 then aMw A t + a else aMw A t)) (hw : w = 0 ∨ w = 1) (s1 : smI (ml S') (mn S') = smI (ml (SS t)) (mn (SS t)) + a) (s2 : smI (fun i => mw S' i * ml S' i) (mn S') = smI (fun i => mw (SS t) i * ml (SS t) i) (mn (SS t)) + w * a) : MX A' (gF SS t S') := by
  intro t' ht'
  obtain ⟨m1, m2⟩ := hm t' ht'
  rw [e1, e2]
  by_cases e : t' = t
  · subst e
    rw [gF_s, gF_s, gF_s, s1, s2, m1, m2]
    refine ⟨rfl, ?_⟩
    rcases hw with rfl | rfl
    · rw [if_neg (by omega)]
      omega
    · rw [if_pos rfl]
      omega
  · rw [gF_n e, gF_n e, gF_n e]
    exact ⟨m1, m2⟩
theorem set_sum (hq : q < mn S) : smI (ml (sSet S q x n v w)) (mn (sSet S q x n v w)) = smI (ml S) (mn S) - ml S q + n ∧ smI (fun i => mw (sSet S q x n v w) i * ml (sSet S q x n v w) i) (mn (sSet S q x n v w)) = smI (fun i => mw S i * ml S i) (mn S) - mw S q * ml S q + w * n := by
  refine ⟨smI_gF hq, ?_⟩
  show smI (fun i => gF (mw S) q w i * gF (ml S) q n i) (mn S) = _
  rw [mul_gF, smI_gF hq]
theorem rm_sum (hs : mSh S t m) (h : Rm S t q S') : smI (ml S') (mn S') = smI (ml S) (mn S) - ml S q ∧ smI (fun i => mw S' i * ml S' i) (mn S') = smI (fun i => mw S i * ml S i) (mn S) - mw S q * ml S q := by
  obtain ⟨h1, h2, h3⟩ := h.runs hs
  rw [← h2]
  refine ⟨?_, ?_⟩
  · rw [smI_congr (g := delN (ml S) q) (fun i hi => (h3 i hi).2.1), smI_del (by omega)]
  · rw [smI_congr (g := fun i => delN (mw S) q i * delN (ml S) q i) (fun i hi => by rw [(h3 i hi).2.1, (h3 i hi).2.2.2]), mul_del, smI_del (by omega)]
theorem en_sum {tt : Nat} (hk : k ≤ mn (SS t)) (h : EnT SS t m k tt x n v w S') : smI (ml S') (mn S') = smI (ml (SS t)) (mn (SS t)) + n ∧ smI (fun i => mw S' i * ml S' i) (mn S') = smI (fun i => mw (SS t) i * ml (SS t) i) (mn (SS t)) + w * n := by
  obtain ⟨T, -, -, -, -, rfl, -⟩ := h
  obtain ⟨a1, a2, a3, a4, a5⟩ := enS_run (S := SS t) (t := t) (m := m) (tt := tt) (x := x) (n := n) (v := v) (w := w) (nb := nbT T) (i := k - 1) (j := k)
  rw [a1, a3, a5]
  refine ⟨smI_ins hk, ?_⟩
  rw [mul_ins, smI_ins hk]
end
