/-! putIn, all four ways -/
section
variable {G : gG} {N : Option Nat} {h0 : gH} {A : cA} {SS : Nat → mS} {t k : Nat} {x n v w : Int}
set_option maxHeartbeats 4000000 in
theorem s_putIn (hc : CX A SS (fun _ => False)) (hm : MX A SS) (ht : t < 4) (ho : rOk x n v w) (hf : Fr (SS t) k x n) (hroom : RmEn A (SS t) k) :
    ∃ S' A', PutR SS t (aM A) k x n v w S' ∧ Rd G m_Tree_putIn [vR (517 + 6 * t), vI x, vI n, vI v, vI w] N (hpx A h0) none none (hpx A' h0) ∧ CX A' (gF SS t S') (fun _ => False) ∧ MX A' (gF SS t S') ∧ aM A' = aM A := by
  have hM := ok_Tree_putIn
  have ho' := ho
  obtain ⟨o1, o2, o3, o4, o5, o6, o7⟩ := ho'
  obtain ⟨hs, hr, ha, -⟩ := hc.2.1 t ht
  have hkn := hf.1
  have hc1 : CX (cmA A t n w) SS (fun _ => False) := hc.cnt
  obtain ⟨-, hc2, hw2, -⟩ := s_find (G := G) (N := none) (h0 := h0) (b := x) hc1 ht rfl (by omega)
  obtain ⟨-, hc3, hw3, -⟩ := s_find (G := G) (N := none) (h0 := h0) (b := x + n) hc2 ht rfl (by omega)
  have m1 : aMa (fA (fA (cmA A t n w) t (SS t) x) t (SS t) (x + n)) = gF (aMa A) t (aMa A t + n) := rfl
  have m2 : aMw (fA (fA (cmA A t n w) t (SS t) x) t (SS t) (x + n)) = gF (aMw A) t (if w = 1 then aMw A t + n else aMw A t) := rfl
  have m3 : aM (fA (fA (cmA A t n w) t (SS t) x) t (SS t) (x + n)) = aM A := rfl
  have m4 : aLe (fA (fA (cmA A t n w) t (SS t) x) t (SS t) (x + n)) = aLe A := rfl
  generalize hA3 : fA (fA (cmA A t n w) t (SS t) x) t (SS t) (x + n) = A3 at hc3 hw3 m1 m2 m3 m4
  have jb := jnB_is hc ht ho hf
  have ek : ((k : Int) - 1).toNat = k - 1 := by omega
  have lsx := hf.ls hr o2
  by_cases hB : jB (SS t) k x n v w
  · obtain ⟨b1, b2, b3, b4, b5⟩ := hB
    have hB : jB (SS t) k x n v w := ⟨b1, b2, b3, b4, b5⟩
    have ek2 : (k : Int) - 1 = ((k - 1 : Nat) : Int) := by omega
    obtain ⟨c1, c2, c3, c4, c5, c6, c7⟩ := hr.1 (k - 1) (by omega)
    have ja := jnA_is (b := ml (SS t) (k - 1)) hc ht ho hf
    by_cases hA : jA (SS t) k x n v w (ml (SS t) (k - 1))
    · obtain ⟨a1, a2, a3, a4, a5⟩ := hA
      have hA : jA (SS t) k x n v w (ml (SS t) (k - 1)) := ⟨a1, a2, a3, a4, a5⟩
      obtain ⟨e1, e2, e3, e4, e5, e6, e7⟩ := hr.1 k a1
      have l2 : lsS (SS t) (x + n) = (k : Int) := by
        rcases hf.ls2 hr o2 with ⟨_, _, h⟩ | ⟨h, _⟩
        · exact h
        · exact absurd ⟨a1, a2⟩ h
      rw [l2] at hw3
      obtain ⟨S1, A4, q1, q2, q3, q4, q5, q6⟩ := s_Rm (G := G) (N := none) (h0 := h0) hc3 ht hw3 a1
      obtain ⟨-, n1, rr⟩ := q1.runs hs
      have hr1 : mRn S1 := by
        have := (q3.2.1 t ht).2.1
        rw [gF_s] at this
        exact this
      have l1 : lsS S1 x = (k : Int) - 1 := ls_is hr1 (by omega) (fun p hp => by
        rw [(rr p (by omega)).1, del_lo (by omega)]
        have h8 := hf.2.1 p hp
        have h9 := (hr.1 p (by omega)).2.1
        omega) (fun h => by
        rw [(rr k h).1, del_hi (Nat.le_refl _)]
        have := hf.2.2 (k + 1) (by omega) (by omega)
        omega)
      obtain ⟨w1, w2, w3, w4, w5, w6, -⟩ := s_find (G := G) (N := none) (h0 := h0) (b := x) q3 ht (gF_s _ _ _) (by omega)
      have rd := fA_rd (b := x) q3 ht (gF_s _ _ _)
      rw [l1] at w3
      obtain ⟨t1, t2, t3, t4⟩ := w3.tr w2 ht (gF_s _ _ _) (by omega)
      rw [l1, ek] at rd
      rw [ek2] at w3
      obtain ⟨r1, r2, r3, r4⟩ := rr (k - 1) (by omega)
      rw [del_lo (by omega)] at r1 r2 r3 r4
      have rok : rOk (ms (SS t) (k - 1)) (ml (SS t) (k - 1) + n + ml (SS t) k) (mv (SS t) (k - 1)) w := ⟨by omega, by omega, by omega, o4, by omega, by omega, by omega⟩
      have hrn : mRn (sSet S1 (k - 1) (ms (SS t) (k - 1)) (ml (SS t) (k - 1) + n + ml (SS t) k) (mv (SS t) (k - 1)) w) := sset_rn hr1 rok (fun i hi => by
        rw [(rr i (by omega)).1, (rr i (by omega)).2.1, del_lo (by omega), del_lo (by omega)]
        exact hr.mono (by omega) (by omega)) (fun h => by
        rw [show k - 1 + 1 = k by omega] at h ⊢
        rw [(rr k h).1, del_hi (Nat.le_refl _)]
        have := hr.2 k (by omega)
        omega)
      obtain ⟨A6, z1, z2, z3, z4, z5, z6, -⟩ := s_Set (G := G) (N := none) (h0 := h0) w2 ht (gF_s _ _ _) w3 (by omega) rok hrn
      rw [gF_uu] at z2
      have d1 : rF (fA A4 t S1 x) t (md S1) = ms (SS t) (k - 1) := by
        rcases rd with ⟨_, _, d, _⟩ | ⟨h, _⟩
        · rw [d, r1]
        · omega
      have d3 : rV (fA A4 t S1 x) t (md S1) = mv (SS t) (k - 1) := by
        rcases rd with ⟨_, _, _, _, d, _⟩ | ⟨h, _⟩
        · rw [d, r3]
        · omega
      refine ⟨_, A6, Or.inl ⟨hB, hA, S1, q1, q3.gd (q6.trans m3), rfl⟩, ?_, z2, ?_, z6.trans (w6.trans (q6.trans m3))⟩
      · refine Rn.of rfl rfl rfl ?_
        refine go_putIn hc ht ho (b := ml (SS t) (k - 1)) (a := ml (SS t) k) (by omega) (jb.1 hB) (ja.1 hA) ?_
        rw [hA3]
        repeat (first | refine go_pure hM rfl ?_ | (refine go_get (fs := ?_) (v := ?_) hM rfl ?_ ?_ ?_; rotate_left 2; assumption; rfl) | refine go_ldc hM rfl ?_)
        refine go_if_ne hM rfl (by omega) (fun _ => ?_) (fun h => by omega)
        repeat (first | refine go_pure hM rfl ?_ | (refine go_get (fs := ?_) (v := ?_) hM rfl ?_ ?_ ?_; rotate_left 2; assumption; rfl) | refine go_ldc hM rfl ?_)
        refine go_if_le hM rfl (by omega) (fun h => by omega) (fun _ => ?_)
        repeat (first | refine go_pure hM rfl ?_ | (refine go_get (fs := ?_) (v := ?_) hM rfl ?_ ?_ ?_; rotate_left 2; assumption; rfl) | refine go_ldc hM rfl ?_)
        refine go_cV hM rfl rfl rfl (hp_tr ht) rfl q2 rfl ?_
        repeat (first | refine go_pure hM rfl ?_ | (refine go_get (fs := ?_) (v := ?_) hM rfl ?_ ?_ ?_; rotate_left 2; assumption; rfl) | refine go_ldc hM rfl ?_)
        refine go_cV hM rfl rfl rfl (hp_tr ht) rfl w1 rfl ?_
        repeat (first | refine go_pure hM rfl ?_ | (refine go_get (fs := ?_) (v := ?_) hM rfl ?_ ?_ ?_; rotate_left 2; assumption; rfl) | refine go_ldc hM rfl ?_)
        refine go_if_le hM rfl (by omega) (fun h => by omega) (fun _ => ?_)
        repeat (first | refine go_pure hM rfl ?_ | (refine go_get (fs := ?_) (v := ?_) hM rfl ?_ ?_ ?_; rotate_left 2; assumption; rfl) | refine go_ldc hM rfl ?_)
        refine go_cV hM rfl rfl rfl (hp_tr ht) rfl (c_runFirst w2.1 ht t1 t2 t3 t4) rfl ?_
        rw [d1]
        repeat (first | refine go_pure hM rfl ?_ | (refine go_get (fs := ?_) (v := ?_) hM rfl ?_ ?_ ?_; rotate_left 2; assumption; rfl) | refine go_ldc hM rfl ?_)
        refine go_cV hM rfl rfl rfl (hp_tr ht) rfl (c_runVolume w2.1 ht t1 t2 t3 t4) rfl ?_
        rw [d3]
        repeat (first | refine go_pure hM rfl ?_ | (refine go_get (fs := ?_) (v := ?_) hM rfl ?_ ?_ ?_; rotate_left 2; assumption; rfl) | refine go_ldc hM rfl ?_)
        refine go_cV hM rfl rfl rfl (hp_tr ht) rfl z1 rfl ?_
        repeat (first | refine go_pure hM rfl ?_ | (refine go_get (fs := ?_) (v := ?_) hM rfl ?_ ?_ ?_; rotate_left 2; assumption; rfl) | refine go_ldc hM rfl ?_)
        exact go_vret hM rfl rfl ⟨rfl, rfl, rfl⟩
      · obtain ⟨u1, u2⟩ := set_sum (S := S1) (q := k - 1) (x := ms (SS t) (k - 1)) (n := ml (SS t) (k - 1) + n + ml (SS t) k) (v := mv (SS t) (k - 1)) (w := w) (by omega)
        obtain ⟨u3, u4⟩ := rm_sum hs q1
        refine mx_step hm (z4.trans (w4.trans (q4.trans m1))) (z5.trans (w5.trans (q5.trans m2))) o4 ?_ ?_
        · rw [u1, u3, r2]
          omega
        · rw [u2, u4, r2, r4, b4, a4, Int.mul_add, Int.mul_add]
          omega
    · have rok : rOk (ms (SS t) (k - 1)) (ml (SS t) (k - 1) + n) (mv (SS t) (k - 1)) w := ⟨by omega, by omega, by omega, o4, by omega, by omega, by omega⟩
      obtain ⟨w1, w2, w3, w4, w5, w6, -⟩ := s_find (G := G) (N := none) (h0 := h0) (b := x) hc3 ht rfl (by omega)
      have rd := fA_rd (b := x) hc3 ht rfl
      rw [lsx] at w3
      obtain ⟨t1, t2, t3, t4⟩ := w3.tr w2 ht rfl (by omega)
      rw [lsx, ek] at rd
      rw [ek2] at w3
      have hrn : mRn (sSet (SS t) (k - 1) (ms (SS t) (k - 1)) (ml (SS t) (k - 1) + n) (mv (SS t) (k - 1)) w) := sset_rn hr rok (fun i hi => hr.mono (by omega) (by omega)) (fun h => by
        rw [show k - 1 + 1 = k by omega] at h ⊢
        have := hf.2.2 k (Nat.le_refl _) h
        omega)
      obtain ⟨A6, z1, z2, z3, z4, z5, z6, -⟩ := s_Set (G := G) (N := none) (h0 := h0) w2 ht rfl w3 (by omega) rok hrn
      have d1 : rF (fA A3 t (SS t) x) t (md (SS t)) = ms (SS t) (k - 1) := by
        rcases rd with ⟨_, _, d, _⟩ | ⟨h, _⟩
        · exact d
        · omega
      have d3 : rV (fA A3 t (SS t) x) t (md (SS t)) = mv (SS t) (k - 1) := by
        rcases rd with ⟨_, _, _, _, d, _⟩ | ⟨h, _⟩
        · exact d
        · omega
      refine ⟨_, A6, Or.inr (Or.inl ⟨hB, hA, rfl⟩), ?_, z2, ?_, z6.trans (w6.trans m3)⟩
      · refine Rn.of rfl rfl rfl ?_
        refine go_putIn hc ht ho (b := ml (SS t) (k - 1)) (a := 0) (by omega) (jb.1 hB) (ja.2 hA) ?_
        rw [hA3]
        repeat (first | refine go_pure hM rfl ?_ | (refine go_get (fs := ?_) (v := ?_) hM rfl ?_ ?_ ?_; rotate_left 2; assumption; rfl) | refine go_ldc hM rfl ?_)
        refine go_if_ne hM rfl (by omega) (fun _ => ?_) (fun h => by omega)
        repeat (first | refine go_pure hM rfl ?_ | (refine go_get (fs := ?_) (v := ?_) hM rfl ?_ ?_ ?_; rotate_left 2; assumption; rfl) | refine go_ldc hM rfl ?_)
        refine go_if_le hM rfl (by omega) (fun _ => ?_) (fun h => by omega)
        repeat (first | refine go_pure hM rfl ?_ | (refine go_get (fs := ?_) (v := ?_) hM rfl ?_ ?_ ?_; rotate_left 2; assumption; rfl) | refine go_ldc hM rfl ?_)
        refine go_cV hM rfl rfl rfl (hp_tr ht) rfl w1 rfl ?_
        repeat (first | refine go_pure hM rfl ?_ | (refine go_get (fs := ?_) (v := ?_) hM rfl ?_ ?_ ?_; rotate_left 2; assumption; rfl) | refine go_ldc hM rfl ?_)
        refine go_if_le hM rfl (by omega) (fun h => by omega) (fun _ => ?_)
        repeat (first | refine go_pure hM rfl ?_ | (refine go_get (fs := ?_) (v := ?_) hM rfl ?_ ?_ ?_; rotate_left 2; assumption; rfl) | refine go_ldc hM rfl ?_)
        refine go_cV hM rfl rfl rfl (hp_tr ht) rfl (c_runFirst w2.1 ht t1 t2 t3 t4) rfl ?_
        rw [d1]
        repeat (first | refine go_pure hM rfl ?_ | (refine go_get (fs := ?_) (v := ?_) hM rfl ?_ ?_ ?_; rotate_left 2; assumption; rfl) | refine go_ldc hM rfl ?_)
        refine go_cV hM rfl rfl rfl (hp_tr ht) rfl (c_runVolume w2.1 ht t1 t2 t3 t4) rfl ?_
        rw [d3]
        repeat (first | refine go_pure hM rfl ?_ | (refine go_get (fs := ?_) (v := ?_) hM rfl ?_ ?_ ?_; rotate_left 2; assumption; rfl) | refine go_ldc hM rfl ?_)
        rw [Int.add_zero]
        refine go_cV hM rfl rfl rfl (hp_tr ht) rfl z1 rfl ?_
        repeat (first | refine go_pure hM rfl ?_ | (refine go_get (fs := ?_) (v := ?_) hM rfl ?_ ?_ ?_; rotate_left 2; assumption; rfl) | refine go_ldc hM rfl ?_)
        exact go_vret hM rfl rfl ⟨rfl, rfl, rfl⟩
      · obtain ⟨u1, u2⟩ := set_sum (S := SS t) (q := k - 1) (x := ms (SS t) (k - 1)) (n := ml (SS t) (k - 1) + n) (v := mv (SS t) (k - 1)) (w := w) (by omega)
        refine mx_step hm (z4.trans (w4.trans m1)) (z5.trans (w5.trans m2)) o4 ?_ ?_
        · rw [u1]
          omega
        · rw [u2, b4, Int.mul_add]
          omega
  · have ja := jnA_is (b := 0) hc ht ho hf
    by_cases hA : jA (SS t) k x n v w 0
    · obtain ⟨a1, a2, a3, a4, a5⟩ := hA
      have hA : jA (SS t) k x n v w 0 := ⟨a1, a2, a3, a4, a5⟩
      obtain ⟨e1, e2, e3, e4, e5, e6, e7⟩ := hr.1 k a1
      have l2 : lsS (SS t) (x + n) = (k : Int) := by
        rcases hf.ls2 hr o2 with ⟨_, _, h⟩ | ⟨h, _⟩
        · exact h
        · exact absurd ⟨a1, a2⟩ h
      rw [l2] at hw3
      have rok : rOk x (n + ml (SS t) k) v w := ⟨by omega, by omega, by omega, o4, by omega, by omega, by omega⟩
      have hrn : mRn (sSet (SS t) k x (n + ml (SS t) k) v w) := sset_rn hr rok (fun i hi => hf.2.1 i (by omega)) (fun h => by
        have := hr.2 k h
        omega)
      obtain ⟨A6, z1, z2, z3, z4, z5, z6, -⟩ := s_Set (G := G) (N := none) (h0 := h0) hc3 ht rfl hw3 a1 rok hrn
      refine ⟨_, A6, Or.inr (Or.inr (Or.inl ⟨hB, hA, rfl⟩)), ?_, z2, ?_, z6.trans m3⟩
      · refine Rn.of rfl rfl rfl ?_
        refine go_putIn hc ht ho (b := 0) (a := ml (SS t) k) (by omega) (jb.2 hB) (ja.1 hA) ?_
        rw [hA3]
        repeat (first | refine go_pure hM rfl ?_ | (refine go_get (fs := ?_) (v := ?_) hM rfl ?_ ?_ ?_; rotate_left 2; assumption; rfl) | refine go_ldc hM rfl ?_)
        refine go_if_ne hM rfl (by omega) (fun h => absurd rfl h) (fun _ => ?_)
        repeat (first | refine go_pure hM rfl ?_ | (refine go_get (fs := ?_) (v := ?_) hM rfl ?_ ?_ ?_; rotate_left 2; assumption; rfl) | refine go_ldc hM rfl ?_)
        refine go_if_le hM rfl (by omega) (fun h => by omega) (fun _ => ?_)
        repeat (first | refine go_pure hM rfl ?_ | (refine go_get (fs := ?_) (v := ?_) hM rfl ?_ ?_ ?_; rotate_left 2; assumption; rfl) | refine go_ldc hM rfl ?_)
        refine go_cV hM rfl rfl rfl (hp_tr ht) rfl z1 rfl ?_
        repeat (first | refine go_pure hM rfl ?_ | (refine go_get (fs := ?_) (v := ?_) hM rfl ?_ ?_ ?_; rotate_left 2; assumption; rfl) | refine go_ldc hM rfl ?_)
        exact go_vret hM rfl rfl ⟨rfl, rfl, rfl⟩
      · obtain ⟨u1, u2⟩ := set_sum (S := SS t) (q := k) (x := x) (n := n + ml (SS t) k) (v := v) (w := w) a1
        refine mx_step hm (z4.trans m1) (z5.trans m2) o4 ?_ ?_
        · rw [u1]
          omega
        · rw [u2, a4, Int.mul_add]
          omega
    · obtain ⟨w1, w2, w3, w4, w5, w6, w7, w8⟩ := s_find (G := G) (N := none) (h0 := h0) (b := x) hc3 ht rfl (by omega)
      rw [lsx] at w3
      have hroom2 : RmEn (fA A3 t (SS t) x) (SS t) k := by
        unfold RmEn
        rw [w6, w8, m3, m4]
        exact hroom
      obtain ⟨tt, S', A6, z0, z1, z2, z4, z5, z6, -⟩ := s_En (G := G) (N := none) (h0 := h0) w2 ht w3 hkn hroom2 ho (sin_rn hr hkn ho (fun i hi => hf.2.1 i (by omega)) (fun h => hf.2.2 k (Nat.le_refl _) h))
      rw [w6, m3] at z0
      refine ⟨S', A6, Or.inr (Or.inr (Or.inr ⟨hB, hA, tt, z0⟩)), ?_, z2, ?_, z6.trans (w6.trans m3)⟩
      · refine Rn.of rfl rfl rfl ?_
        refine go_putIn hc ht ho (b := 0) (a := 0) (by omega) (jb.2 hB) (ja.2 hA) ?_
        rw [hA3]
        repeat (first | refine go_pure hM rfl ?_ | (refine go_get (fs := ?_) (v := ?_) hM rfl ?_ ?_ ?_; rotate_left 2; assumption; rfl) | refine go_ldc hM rfl ?_)
        refine go_if_ne hM rfl (by omega) (fun h => absurd rfl h) (fun _ => ?_)
        repeat (first | refine go_pure hM rfl ?_ | (refine go_get (fs := ?_) (v := ?_) hM rfl ?_ ?_ ?_; rotate_left 2; assumption; rfl) | refine go_ldc hM rfl ?_)
        refine go_if_le hM rfl (by omega) (fun _ => ?_) (fun h => by omega)
        repeat (first | refine go_pure hM rfl ?_ | (refine go_get (fs := ?_) (v := ?_) hM rfl ?_ ?_ ?_; rotate_left 2; assumption; rfl) | refine go_ldc hM rfl ?_)
        refine go_if_le hM rfl (by omega) (fun _ => ?_) (fun h => by omega)
        repeat (first | refine go_pure hM rfl ?_ | (refine go_get (fs := ?_) (v := ?_) hM rfl ?_ ?_ ?_; rotate_left 2; assumption; rfl) | refine go_ldc hM rfl ?_)
        refine go_cV hM rfl rfl rfl (hp_tr ht) rfl w1 rfl ?_
        repeat (first | refine go_pure hM rfl ?_ | (refine go_get (fs := ?_) (v := ?_) hM rfl ?_ ?_ ?_; rotate_left 2; assumption; rfl) | refine go_ldc hM rfl ?_)
        refine go_if_le hM rfl (by omega) (fun _ => ?_) (fun h => by omega)
        repeat (first | refine go_pure hM rfl ?_ | (refine go_get (fs := ?_) (v := ?_) hM rfl ?_ ?_ ?_; rotate_left 2; assumption; rfl) | refine go_ldc hM rfl ?_)
        refine go_cV hM rfl rfl rfl (hp_tr ht) rfl z1 rfl ?_
        repeat (first | refine go_pure hM rfl ?_ | (refine go_get (fs := ?_) (v := ?_) hM rfl ?_ ?_ ?_; rotate_left 2; assumption; rfl) | refine go_ldc hM rfl ?_)
        exact go_vret hM rfl rfl ⟨rfl, rfl, rfl⟩
      · obtain ⟨u1, u2⟩ := en_sum hkn z0
        exact mx_step hm (z4.trans (w4.trans m1)) (z5.trans (w5.trans m2)) o4 u1 u2
end
