/-! takeOutAll: its steps -/
section
variable {G : gG} {h0 : gH} {A A2 : cA} {SS : Nat → mS} {F : Nat → Prop} {t m q k : Nat} {x e o a u n : Int} {y : Option gV} {E : gK → State → Prop}
theorem go_toEnd (hu : 0 ≤ u ∧ u ≤ 65536) (ra : 0 ≤ a ∧ a ≤ 65536) (re : 0 ≤ e ∧ e ≤ 65536) (h : e ≤ a) : Go G m_Tree_takeOutAll (gFin G (gEq (some (vI o)) none (hpx A h0)) gNo) 8 [some (vR (517 + 6 * t)), some (vI x), some (vI e), some (vI o), some (vI a), some (vI u), y] [] none (hpx A h0) 0 0 := by
  have hM := ok_Tree_takeOutAll
  have fin : Go G m_Tree_takeOutAll (gFin G (gEq (some (vI o)) none (hpx A h0)) gNo) 84 [some (vR (517 + 6 * t)), some (vI x), some (vI e), some (vI o), some (vI a), some (vI u), y] [] none (hpx A h0) 0 0 := by
    repeat (first | refine go_pure hM rfl ?_ | (refine go_get (fs := ?_) (v := ?_) hM rfl ?_ ?_ ?_; rotate_left 2; assumption; rfl) | refine go_ldc hM rfl ?_)
    exact go_iret hM rfl rfl ⟨rfl, rfl, rfl⟩
  repeat (first | refine go_pure hM rfl ?_ | (refine go_get (fs := ?_) (v := ?_) hM rfl ?_ ?_ ?_; rotate_left 2; assumption; rfl) | refine go_ldc hM rfl ?_)
  refine go_icmp_ge hM rfl (by omega) (by omega) (fun _ => fin) (fun _ => ?_)
  repeat (first | refine go_pure hM rfl ?_ | (refine go_get (fs := ?_) (v := ?_) hM rfl ?_ ?_ ?_; rotate_left 2; assumption; rfl) | refine go_ldc hM rfl ?_)
  exact go_icmp_ge hM rfl (by omega) (by omega) (fun _ => fin) (fun h9 => absurd h (by omega))
set_option maxHeartbeats 2000000 in
theorem go_toGap (hc : CX A SS F) (ht : t < 4) (hu : 0 ≤ u ∧ u < 65536) (ra : 0 ≤ a ∧ a ≤ 65536) (re : 0 ≤ e ∧ e ≤ 65536) (h : a < e) (hf : Fr (SS t) k a 1) (kk : Go G m_Tree_takeOutAll E 8 [some (vR (517 + 6 * t)), some (vI x), some (vI e), some (vI o), some (vI (if k < mn (SS t) then ms (SS t) k else 65536)), some (vI (u + 1)), y] [] none (hpx (fA A t (SS t) a) h0) 0 0) : Go G m_Tree_takeOutAll E 8 [some (vR (517 + 6 * t)), some (vI x), some (vI e), some (vI o), some (vI a), some (vI u), y] [] none (hpx A h0) 0 0 := by
  have hM := ok_Tree_takeOutAll
  obtain ⟨hs, hr, ha, -⟩ := hc.2.1 t ht
  have lsx := hf.ls hr (Int.le_refl _)
  have hk := hf.1
  obtain ⟨w1, w2, w3, -⟩ := s_find (G := G) (N := none) (h0 := h0) (b := a) hc ht rfl (by omega)
  have rd := fA_rd (b := a) hc ht rfl
  obtain ⟨t1, t2, t3, t4⟩ := w3.tr w2 ht rfl (by rw [lsx]; omega)
  have re9 : rF (fA A t (SS t) a) t (md (SS t)) + rL (fA A t (SS t) a) t (md (SS t)) ≤ a ∧ 0 ≤ rF (fA A t (SS t) a) t (md (SS t)) + rL (fA A t (SS t) a) t (md (SS t)) := by
    rw [lsx] at rd
    rcases rd with ⟨d0, d9, d1, d2, -⟩ | ⟨d0, d1, d2, -⟩
    · rw [d1, d2, show ((k : Int) - 1).toNat = k - 1 by omega]
      have h8 := hf.2.1 (k - 1) (by omega)
      have h9 := hr.1 (k - 1) (by omega)
      omega
    · rw [d1, d2]
      omega
  have nf9 := nf_at (A := A) (t := t) (S := SS t) hs ha (i := lsS (SS t) a) (by rw [lsx]; omega)
  have nf9 : nf (fA A t (SS t) a) t (md (SS t) + 1) = if k < mn (SS t) then ms (SS t) k else 65536 := by
    refine nf9.trans ?_
    rw [lsx]
    by_cases h9 : k < mn (SS t)
    · rw [if_pos (by omega), if_pos h9, show ((k : Int) - 1 + 1).toNat = k by omega]
    · rw [if_neg (by omega), if_neg h9]
  have wp : ∀ j, j ≤ md (SS t) → aWy (fA A t (SS t) a) t j < 260 ∧ (-1000 ≤ aPl (fA A t (SS t) a) t j ∧ aPl (fA A t (SS t) a) t j ≤ 1000) := by
    intro j hj
    obtain ⟨p1, p2, p3, -⟩ := pP_b hs (i := lsS (SS t) a) (by rw [lsx]; omega) hj
    rw [(w3.2 j hj).1, (w3.2 j hj).2]
    refine ⟨hs.bl ht (by omega) p1, by omega, ?_⟩
    have hm := hc.1.2.1
    have cap : mc (SS t) (md (SS t) - j) (mQ (SS t) (lsS (SS t) a).toNat (md (SS t) - j + 1)) ≤ 84 := by
      by_cases h9 : md (SS t) - j < md (SS t)
      · have := (hs.2.2.2.2.1 _ h9 _ p1).2.1
        omega
      · have e : md (SS t) - j = md (SS t) := by omega
        rw [e] at p1 ⊢
        have hb := hs.2.1
        rw [show mQ (SS t) (lsS (SS t) a).toNat (md (SS t) + 1) = 0 by omega]
        have := hs.2.2.2.2.2.1
        omega
    omega
  repeat (first | refine go_pure hM rfl ?_ | (refine go_get (fs := ?_) (v := ?_) hM rfl ?_ ?_ ?_; rotate_left 2; assumption; rfl) | refine go_ldc hM rfl ?_)
  refine go_icmp_ge hM rfl (by omega) (by omega) (fun h9 => absurd h9 (by omega)) (fun _ => ?_)
  repeat (first | refine go_pure hM rfl ?_ | (refine go_get (fs := ?_) (v := ?_) hM rfl ?_ ?_ ?_; rotate_left 2; assumption; rfl) | refine go_ldc hM rfl ?_)
  refine go_icmp_ge hM rfl (by omega) (by omega) (fun h9 => absurd h9 (by omega)) (fun _ => ?_)
  repeat (first | refine go_pure hM rfl ?_ | (refine go_get (fs := ?_) (v := ?_) hM rfl ?_ ?_ ?_; rotate_left 2; assumption; rfl) | refine go_ldc hM rfl ?_)
  refine go_cV hM rfl rfl rfl (hp_tr ht) rfl w1 rfl ?_
  repeat (first | refine go_pure hM rfl ?_ | (refine go_get (fs := ?_) (v := ?_) hM rfl ?_ ?_ ?_; rotate_left 2; assumption; rfl) | refine go_ldc hM rfl ?_)
  refine go_cV hM rfl rfl rfl (hp_tr ht) rfl (c_runEnd w2.1 ht t1 t2 t3 t4) rfl ?_
  repeat (first | refine go_pure hM rfl ?_ | (refine go_get (fs := ?_) (v := ?_) hM rfl ?_ ?_ ?_; rotate_left 2; assumption; rfl) | refine go_ldc hM rfl ?_)
  refine go_icmp_gt hM rfl (by omega) (by omega) (fun h9 => absurd h9 (by omega)) (fun _ => ?_)
  repeat (first | refine go_pure hM rfl ?_ | (refine go_get (fs := ?_) (v := ?_) hM rfl ?_ ?_ ?_; rotate_left 2; assumption; rfl) | refine go_ldc hM rfl ?_)
  refine go_cV hM rfl rfl rfl (hp_tr ht) rfl (c_nextFirst w2.1 ht t1 t2 wp) rfl ?_
  rw [nf9]
  repeat (first | exact kk | refine go_pure hM rfl ?_ | (refine go_get (fs := ?_) (v := ?_) hM rfl ?_ ?_ ?_; rotate_left 2; assumption; rfl) | refine go_ldc hM rfl ?_)
set_option maxHeartbeats 2000000 in
theorem go_toOut (hc : CX A SS F) (ht : t < 4) (hu : 0 ≤ u ∧ u < 65536) (ra : 0 ≤ a ∧ a ≤ 65536) (re : 0 ≤ e ∧ e ≤ 65536) (h : a < e) (hq : q < mn (SS t)) (h1 : ms (SS t) q ≤ a) (h2 : a < ms (SS t) q + ml (SS t) q) (hn : n = (if e ≤ ms (SS t) q + ml (SS t) q then e else ms (SS t) q + ml (SS t) q) - a) (hl : lsS (SS t) a = (q : Int)) (hR : Rd G m_Tree_takeOutOfRun [vR (517 + 6 * t), vI a, vI n] none (hpx (fA A t (SS t) a) h0) none none (hpx A2 h0)) (kk : Go G m_Tree_takeOutAll E 8 [some (vR (517 + 6 * t)), some (vI x), some (vI e), some (vI (o + n)), some (vI (a + n)), some (vI (u + 1)), some (vI n)] [] none (hpx A2 h0) 0 0) : Go G m_Tree_takeOutAll E 8 [some (vR (517 + 6 * t)), some (vI x), some (vI e), some (vI o), some (vI a), some (vI u), y] [] none (hpx A h0) 0 0 := by
  have hM := ok_Tree_takeOutAll
  obtain ⟨hs, hr, ha, -⟩ := hc.2.1 t ht
  obtain ⟨c1, c2, c3, -⟩ := hr.1 q hq
  obtain ⟨w1, w2, w3, -⟩ := s_find (G := G) (N := none) (h0 := h0) (b := a) hc ht rfl (by omega)
  rw [hl] at w3
  obtain ⟨t1, t2, t3, t4⟩ := w3.tr w2 ht rfl (by omega)
  obtain ⟨d1, d2, -⟩ := wy_rd w2 ht rfl w3 hq
  repeat (first | refine go_pure hM rfl ?_ | (refine go_get (fs := ?_) (v := ?_) hM rfl ?_ ?_ ?_; rotate_left 2; assumption; rfl) | refine go_ldc hM rfl ?_)
  refine go_icmp_ge hM rfl (by omega) (by omega) (fun h9 => absurd h9 (by omega)) (fun _ => ?_)
  repeat (first | refine go_pure hM rfl ?_ | (refine go_get (fs := ?_) (v := ?_) hM rfl ?_ ?_ ?_; rotate_left 2; assumption; rfl) | refine go_ldc hM rfl ?_)
  refine go_icmp_ge hM rfl (by omega) (by omega) (fun h9 => absurd h9 (by omega)) (fun _ => ?_)
  repeat (first | refine go_pure hM rfl ?_ | (refine go_get (fs := ?_) (v := ?_) hM rfl ?_ ?_ ?_; rotate_left 2; assumption; rfl) | refine go_ldc hM rfl ?_)
  refine go_cV hM rfl rfl rfl (hp_tr ht) rfl w1 rfl ?_
  repeat (first | refine go_pure hM rfl ?_ | (refine go_get (fs := ?_) (v := ?_) hM rfl ?_ ?_ ?_; rotate_left 2; assumption; rfl) | refine go_ldc hM rfl ?_)
  refine go_cV hM rfl rfl rfl (hp_tr ht) rfl (c_runEnd w2.1 ht t1 t2 t3 t4) rfl ?_
  rw [d1, d2]
  repeat (first | refine go_pure hM rfl ?_ | (refine go_get (fs := ?_) (v := ?_) hM rfl ?_ ?_ ?_; rotate_left 2; assumption; rfl) | refine go_ldc hM rfl ?_)
  refine go_icmp_gt hM rfl (by omega) (by omega) (fun _ => ?_) (fun h9 => absurd h2 (by omega))
  repeat (first | refine go_pure hM rfl ?_ | (refine go_get (fs := ?_) (v := ?_) hM rfl ?_ ?_ ?_; rotate_left 2; assumption; rfl) | refine go_ldc hM rfl ?_)
  refine go_cV hM rfl rfl rfl (hp_tr ht) rfl (c_runEnd w2.1 ht t1 t2 t3 t4) rfl ?_
  rw [d1, d2]
  refine go_min hM rfl (by omega) (by omega) rfl ?_
  rw [show (if ms (SS t) q + ml (SS t) q < e then ms (SS t) q + ml (SS t) q else e) = n + a by rw [hn]; split <;> split <;> omega]
  repeat (first | refine go_pure hM rfl ?_ | (refine go_get (fs := ?_) (v := ?_) hM rfl ?_ ?_ ?_; rotate_left 2; assumption; rfl) | refine go_ldc hM rfl ?_)
  rw [show n + a - a = n by omega]
  refine go_cV hM rfl rfl rfl (hp_tr ht) rfl hR rfl ?_
  repeat (first | exact kk | refine go_pure hM rfl ?_ | (refine go_get (fs := ?_) (v := ?_) hM rfl ?_ ?_ ?_; rotate_left 2; assumption; rfl) | refine go_ldc hM rfl ?_)
end
