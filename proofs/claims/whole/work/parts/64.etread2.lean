/-! ExtentTree: look, written, reach, count, free, rootByte, nodeByte -/
abbrev xA : String := "java/lang/IllegalArgumentException"
abbrev xS : String := "java/lang/IllegalStateException"
abbrev xU : String := "java/lang/UnsupportedOperationException"
abbrev xI : String := "java/lang/IndexOutOfBoundsException"
/-- an answer; the files are as they were -/
abbrev qRd (SS : Nat → mS) (m : Nat) (h0 : gH) (ok : Prop) (v : gV) : Option gV → Option Nat → gH → Prop := fun v' N' h' => ok ∧ v' = some v ∧ N' = none ∧ ∃ A', Cl A' SS ∧ aM A' = m ∧ h' = hpx A' h0
abbrev okFB (f b : Int) : Prop := (0 ≤ f ∧ f < 4) ∧ 0 ≤ b ∧ b < 65536
section
variable {G : gG} {N : Option Nat} {A : cA} {h0 : gH} {SS : Nat → mS} {t : Nat} {b f : Int}
theorem s_isWritten (hc : Cl A SS) (ht : t < 4) (hb : 0 ≤ b ∧ b ≤ 65535) : Rn G m_Tree_isWritten [vR (517 + 6 * t), vI b] N (hpx A h0) 0 0 (fun v N' h' => v = some (vI (wrtS (SS t) b)) ∧ N' = N ∧ ∃ A', Cl A' SS ∧ aM A' = aM A ∧ h' = hpx A' h0) gNo := by
  have q := c_isWritten (G := G) (N := N) (h0 := h0) hc.1 ht (by omega) (hc.path ht b)
  refine Rn.imp q (fun v N' h' hq => ?_)
  obtain ⟨rfl, rfl, rfl⟩ := hq
  refine ⟨?_, rfl, _, Cl_fnd hc, rfl, rfl⟩
  rcases hc.run ht b with ⟨r1, r2, r3, r4, r5, r6⟩ | ⟨r1, r2, r3, r4, r5⟩
  · rw [r3, r4, r6]
    unfold wrtS
    congr 3
    exact propext ⟨fun q => ⟨⟨r1, q.1⟩, q.2⟩, fun q => ⟨q.1.2, q.2⟩⟩
  · rw [r5]
    unfold wrtS
    rw [if_neg (by omega), if_neg (by omega)]
theorem s_alikeFrom (hc : Cl A SS) (ht : t < 4) (hb : 0 ≤ b ∧ b ≤ 65535) : Rn G m_Tree_alikeFrom [vR (517 + 6 * t), vI b] N (hpx A h0) 0 0 (fun v N' h' => v = some (vI (rchS (SS t) b)) ∧ N' = N ∧ ∃ A', Cl A' SS ∧ aM A' = aM A ∧ h' = hpx A' h0) gNo := by
  have q := c_alikeFrom (G := G) (N := N) (h0 := h0) hc.1 ht (by omega) (hc.path ht b)
  refine Rn.imp q (fun v N' h' hq => ?_)
  obtain ⟨rfl, rfl, rfl⟩ := hq
  refine ⟨?_, rfl, _, Cl_fnd hc, rfl, rfl⟩
  obtain ⟨h1, h2, h3, -⟩ := hc.2.1 t ht
  obtain ⟨g1, g2, g3⟩ := lsR_spec h2 b
  rw [nf_at h1 h3 g1]
  unfold rchS
  rcases hc.run ht b with ⟨r1, r2, r3, r4, r5, r6⟩ | ⟨r1, r2, r3, r4, r5⟩
  · rw [r3, r4]
    by_cases h9 : b < ms (SS t) (lsR (ms (SS t)) b (mn (SS t))).toNat + ml (SS t) (lsR (ms (SS t)) b (mn (SS t))).toNat
    · rw [if_pos h9, if_pos ⟨r1, h9⟩]
    · rw [if_neg h9, if_neg (fun q : 0 ≤ lsR (ms (SS t)) b (mn (SS t)) ∧ _ => h9 q.2)]
  · rw [r2, r3, if_neg (by omega : ¬ b < 0 + 0), if_neg (fun q : 0 ≤ lsR (ms (SS t)) b (mn (SS t)) ∧ _ => absurd q.1 (by omega))]
set_option maxHeartbeats 1000000 in
theorem s_look (hc : Cl A SS) (rf : (-2147483648 ≤ f ∧ f ≤ 2147483647)) (rb : (-2147483648 ≤ b ∧ b ≤ 2147483647)) : Rn G m_ET_look [vR 1, vI f, vI b] none (hpx A h0) 1 6 (qRd SS (aM A) h0 (okFB f b) (vI (lookS (SS f.toNat) b))) (fun E h' => ¬ okFB f b ∧ E = xA ∧ h' = hpx A h0) := by
  refine Rn.of rfl rfl rfl ?_
  have hM := ok_ET_look
  have q1 := c_isFile (G := G) (N := none) (h := hpx A h0) rf
  have q2 := c_areFileBlocks (G := G) (N := none) (h := hpx A h0) (n := 1) rb (by omega)
  repeat (first | refine go_pure hM rfl ?_ | (refine go_get (fs := ?_) (v := ?_) hM rfl ?_ ?_ ?_; rotate_left 2; assumption; rfl) | refine go_ldc hM rfl ?_)
  by_cases hf : 0 ≤ f ∧ f < 4
  · rw [if_pos hf] at q1
    refine go_cS hM rfl rfl rfl q1 rfl ?_
    refine go_if_eq hM rfl (by omega) (fun hc5 => absurd hc5 (by omega)) (fun _ => ?_)
    repeat (first | refine go_pure hM rfl ?_ | (refine go_get (fs := ?_) (v := ?_) hM rfl ?_ ?_ ?_; rotate_left 2; assumption; rfl) | refine go_ldc hM rfl ?_)
    by_cases hb : 0 ≤ b ∧ b < 65536 ∧ (1 : Int) ≤ 1 ∧ b + 1 ≤ 65536
    · rw [if_pos hb] at q2
      refine go_cS hM rfl rfl rfl q2 rfl ?_
      refine go_if_ne hM rfl (by omega) (fun _ => ?_) (fun hc5 => absurd hc5 (by omega))
      obtain ⟨t, rfl⟩ : ∃ t : Nat, f = t := ⟨f.toNat, by omega⟩
      have ht : t < 4 := by omega
      have e0 : ((t : Nat) : Int).toNat = t := by omega
      have k1 := hp_et (A := A) (h0 := h0)
      repeat (first | refine go_pure hM rfl ?_ | (refine go_get (fs := ?_) (v := ?_) hM rfl ?_ ?_ ?_; rotate_left 2; assumption; rfl) | refine go_ldc hM rfl ?_)
      refine go_aaldS (r := 517 + 6 * t) hM rfl (hp_ts (A := A) (h0 := h0)) rfl (by omega) (by omega) (by omega) (by rw [e0]; exact if_pos ht) ?_
      repeat (first | refine go_pure hM rfl ?_ | (refine go_get (fs := ?_) (v := ?_) hM rfl ?_ ?_ ?_; rotate_left 2; assumption; rfl) | refine go_ldc hM rfl ?_)
      refine go_callV (mc := 0) (ms := 0) hM rfl rfl rfl (hp_tr ht) rfl (s_volumeOf hc ht (by omega)) rfl (fun v N' h' hq => ?_) (fun _ _ q => q.elim)
      obtain ⟨rfl, rfl, A', hA', hm9, rfl⟩ := hq
      exact go_iret hM rfl rfl ⟨⟨hf, hb.1, hb.2.1⟩, by rw [e0], rfl, A', hA', hm9, rfl⟩
    · rw [if_neg hb] at q2
      refine go_cS hM rfl rfl rfl q2 rfl ?_
      refine go_if_ne hM rfl (by omega) (fun hc5 => absurd rfl hc5) (fun _ => ?_)
      exact go_throw (c := 0) (s := 0) (b3 := 0) (b4 := 0) (y3 := 0) (e6 := 0) hM rfl rfl rfl rfl rfl thr_a rfl rfl rfl rfl ⟨fun q => hb ⟨q.2.1, q.2.2, by omega, by omega⟩, rfl, rfl⟩
  · rw [if_neg hf] at q1
    refine go_cS hM rfl rfl rfl q1 rfl ?_
    refine go_if_eq hM rfl (by omega) (fun _ => ?_) (fun hc5 => absurd rfl hc5)
    exact go_throw (c := 0) (s := 0) (b3 := 0) (b4 := 0) (y3 := 0) (e6 := 0) hM rfl rfl rfl rfl rfl thr_a rfl rfl rfl rfl ⟨fun q => hf q.1, rfl, rfl⟩
set_option maxHeartbeats 1000000 in
theorem s_written (hc : Cl A SS) (rf : (-2147483648 ≤ f ∧ f ≤ 2147483647)) (rb : (-2147483648 ≤ b ∧ b ≤ 2147483647)) : Rn G m_ET_written [vR 1, vI f, vI b] none (hpx A h0) 1 6 (qRd SS (aM A) h0 (okFB f b) (vI (wrtS (SS f.toNat) b))) (fun E h' => ¬ okFB f b ∧ E = xA ∧ h' = hpx A h0) := by
  refine Rn.of rfl rfl rfl ?_
  have hM := ok_ET_written
  have q1 := c_isFile (G := G) (N := none) (h := hpx A h0) rf
  have q2 := c_areFileBlocks (G := G) (N := none) (h := hpx A h0) (n := 1) rb (by omega)
  repeat (first | refine go_pure hM rfl ?_ | (refine go_get (fs := ?_) (v := ?_) hM rfl ?_ ?_ ?_; rotate_left 2; assumption; rfl) | refine go_ldc hM rfl ?_)
  by_cases hf : 0 ≤ f ∧ f < 4
  · rw [if_pos hf] at q1
    refine go_cS hM rfl rfl rfl q1 rfl ?_
    refine go_if_eq hM rfl (by omega) (fun hc5 => absurd hc5 (by omega)) (fun _ => ?_)
    repeat (first | refine go_pure hM rfl ?_ | (refine go_get (fs := ?_) (v := ?_) hM rfl ?_ ?_ ?_; rotate_left 2; assumption; rfl) | refine go_ldc hM rfl ?_)
    by_cases hb : 0 ≤ b ∧ b < 65536 ∧ (1 : Int) ≤ 1 ∧ b + 1 ≤ 65536
    · rw [if_pos hb] at q2
      refine go_cS hM rfl rfl rfl q2 rfl ?_
      refine go_if_ne hM rfl (by omega) (fun _ => ?_) (fun hc5 => absurd hc5 (by omega))
      obtain ⟨t, rfl⟩ : ∃ t : Nat, f = t := ⟨f.toNat, by omega⟩
      have ht : t < 4 := by omega
      have e0 : ((t : Nat) : Int).toNat = t := by omega
      have k1 := hp_et (A := A) (h0 := h0)
      repeat (first | refine go_pure hM rfl ?_ | (refine go_get (fs := ?_) (v := ?_) hM rfl ?_ ?_ ?_; rotate_left 2; assumption; rfl) | refine go_ldc hM rfl ?_)
      refine go_aaldS (r := 517 + 6 * t) hM rfl (hp_ts (A := A) (h0 := h0)) rfl (by omega) (by omega) (by omega) (by rw [e0]; exact if_pos ht) ?_
      repeat (first | refine go_pure hM rfl ?_ | (refine go_get (fs := ?_) (v := ?_) hM rfl ?_ ?_ ?_; rotate_left 2; assumption; rfl) | refine go_ldc hM rfl ?_)
      refine go_callV (mc := 0) (ms := 0) hM rfl rfl rfl (hp_tr ht) rfl (s_isWritten hc ht (by omega)) rfl (fun v N' h' hq => ?_) (fun _ _ q => q.elim)
      obtain ⟨rfl, rfl, A', hA', hm9, rfl⟩ := hq
      exact go_zret hM rfl rfl (by unfold wrtS; split <;> omega) ⟨⟨hf, hb.1, hb.2.1⟩, by rw [e0], rfl, A', hA', hm9, rfl⟩
    · rw [if_neg hb] at q2
      refine go_cS hM rfl rfl rfl q2 rfl ?_
      refine go_if_ne hM rfl (by omega) (fun hc5 => absurd rfl hc5) (fun _ => ?_)
      exact go_throw (c := 0) (s := 0) (b3 := 0) (b4 := 0) (y3 := 0) (e6 := 0) hM rfl rfl rfl rfl rfl thr_a rfl rfl rfl rfl ⟨fun q => hb ⟨q.2.1, q.2.2, by omega, by omega⟩, rfl, rfl⟩
  · rw [if_neg hf] at q1
    refine go_cS hM rfl rfl rfl q1 rfl ?_
    refine go_if_eq hM rfl (by omega) (fun _ => ?_) (fun hc5 => absurd rfl hc5)
    exact go_throw (c := 0) (s := 0) (b3 := 0) (b4 := 0) (y3 := 0) (e6 := 0) hM rfl rfl rfl rfl rfl thr_a rfl rfl rfl rfl ⟨fun q => hf q.1, rfl, rfl⟩
set_option maxHeartbeats 1000000 in
theorem s_reach (hc : Cl A SS) (rf : (-2147483648 ≤ f ∧ f ≤ 2147483647)) (rb : (-2147483648 ≤ b ∧ b ≤ 2147483647)) : Rn G m_ET_reach [vR 1, vI f, vI b] none (hpx A h0) 1 6 (qRd SS (aM A) h0 (okFB f b) (vI (rchS (SS f.toNat) b))) (fun E h' => ¬ okFB f b ∧ E = xA ∧ h' = hpx A h0) := by
  refine Rn.of rfl rfl rfl ?_
  have hM := ok_ET_reach
  have q1 := c_isFile (G := G) (N := none) (h := hpx A h0) rf
  have q2 := c_areFileBlocks (G := G) (N := none) (h := hpx A h0) (n := 1) rb (by omega)
  repeat (first | refine go_pure hM rfl ?_ | (refine go_get (fs := ?_) (v := ?_) hM rfl ?_ ?_ ?_; rotate_left 2; assumption; rfl) | refine go_ldc hM rfl ?_)
  by_cases hf : 0 ≤ f ∧ f < 4
  · rw [if_pos hf] at q1
    refine go_cS hM rfl rfl rfl q1 rfl ?_
    refine go_if_eq hM rfl (by omega) (fun hc5 => absurd hc5 (by omega)) (fun _ => ?_)
    repeat (first | refine go_pure hM rfl ?_ | (refine go_get (fs := ?_) (v := ?_) hM rfl ?_ ?_ ?_; rotate_left 2; assumption; rfl) | refine go_ldc hM rfl ?_)
    by_cases hb : 0 ≤ b ∧ b < 65536 ∧ (1 : Int) ≤ 1 ∧ b + 1 ≤ 65536
    · rw [if_pos hb] at q2
      refine go_cS hM rfl rfl rfl q2 rfl ?_
      refine go_if_ne hM rfl (by omega) (fun _ => ?_) (fun hc5 => absurd hc5 (by omega))
      obtain ⟨t, rfl⟩ : ∃ t : Nat, f = t := ⟨f.toNat, by omega⟩
      have ht : t < 4 := by omega
      have e0 : ((t : Nat) : Int).toNat = t := by omega
      have k1 := hp_et (A := A) (h0 := h0)
      repeat (first | refine go_pure hM rfl ?_ | (refine go_get (fs := ?_) (v := ?_) hM rfl ?_ ?_ ?_; rotate_left 2; assumption; rfl) | refine go_ldc hM rfl ?_)
      refine go_aaldS (r := 517 + 6 * t) hM rfl (hp_ts (A := A) (h0 := h0)) rfl (by omega) (by omega) (by omega) (by rw [e0]; exact if_pos ht) ?_
      repeat (first | refine go_pure hM rfl ?_ | (refine go_get (fs := ?_) (v := ?_) hM rfl ?_ ?_ ?_; rotate_left 2; assumption; rfl) | refine go_ldc hM rfl ?_)
      refine go_callV (mc := 0) (ms := 0) hM rfl rfl rfl (hp_tr ht) rfl (s_alikeFrom hc ht (by omega)) rfl (fun v N' h' hq => ?_) (fun _ _ q => q.elim)
      obtain ⟨rfl, rfl, A', hA', hm9, rfl⟩ := hq
      exact go_iret hM rfl rfl ⟨⟨hf, hb.1, hb.2.1⟩, by rw [e0], rfl, A', hA', hm9, rfl⟩
    · rw [if_neg hb] at q2
      refine go_cS hM rfl rfl rfl q2 rfl ?_
      refine go_if_ne hM rfl (by omega) (fun hc5 => absurd rfl hc5) (fun _ => ?_)
      exact go_throw (c := 0) (s := 0) (b3 := 0) (b4 := 0) (y3 := 0) (e6 := 0) hM rfl rfl rfl rfl rfl thr_a rfl rfl rfl rfl ⟨fun q => hb ⟨q.2.1, q.2.2, by omega, by omega⟩, rfl, rfl⟩
  · rw [if_neg hf] at q1
    refine go_cS hM rfl rfl rfl q1 rfl ?_
    refine go_if_eq hM rfl (by omega) (fun _ => ?_) (fun hc5 => absurd rfl hc5)
    exact go_throw (c := 0) (s := 0) (b3 := 0) (b4 := 0) (y3 := 0) (e6 := 0) hM rfl rfl rfl rfl rfl thr_a rfl rfl rfl rfl ⟨fun q => hf q.1, rfl, rfl⟩
/-- count's answers -/
def cntS (S : mS) (w : Int) : Int := if w = 0 then mn S else if w = 1 then md S else if w = 2 then sm (mK S) (md S) else if w = 3 then smI (ml S) (mn S) else if w = 4 then smI (fun i => mw S i * ml S i) (mn S) else if md S = 0 then 1 else mK S 0
theorem Cl.root (hc : Cl A SS) (ht : t < 4) : aDp A (256 + t) = md (SS t) ∧ aEn A (256 + t) = mc (SS t) (md (SS t)) 0 := by
  obtain ⟨h1, h2, h3, -⟩ := hc.2.1 t ht
  obtain ⟨a, b, -⟩ := h3 (md (SS t)) (Nat.le_refl _) 0 (by rw [h1.2.1]; omega)
  rw [h1.2.2.1] at a b
  exact ⟨a, b⟩
set_option maxHeartbeats 1000000 in
theorem s_count {w : Int} (hc : Cl A SS) (rf : (-2147483648 ≤ f ∧ f ≤ 2147483647)) (rw9 : (-2147483648 ≤ w ∧ w ≤ 2147483647)) : Rn G m_ET_count [vR 1, vI f, vI w] none (hpx A h0) 1 6 (qRd SS (aM A) h0 ((0 ≤ f ∧ f < 4) ∧ 0 ≤ w ∧ w ≤ 5) (vI (cntS (SS f.toNat) w))) (fun E h' => ¬ ((0 ≤ f ∧ f < 4) ∧ 0 ≤ w ∧ w ≤ 5) ∧ E = xA ∧ h' = hpx A h0) := by
  refine Rn.of rfl rfl rfl ?_
  have hM := ok_ET_count
  have q1 := c_isFile (G := G) (N := none) (h := hpx A h0) rf
  repeat (first | refine go_pure hM rfl ?_ | (refine go_get (fs := ?_) (v := ?_) hM rfl ?_ ?_ ?_; rotate_left 2; assumption; rfl) | refine go_ldc hM rfl ?_)
  by_cases hf : 0 ≤ f ∧ f < 4
  · rw [if_pos hf] at q1
    refine go_cS hM rfl rfl rfl q1 rfl ?_
    refine go_if_eq hM rfl (by omega) (fun hc5 => absurd hc5 (by omega)) (fun _ => ?_)
    repeat (first | refine go_pure hM rfl ?_ | (refine go_get (fs := ?_) (v := ?_) hM rfl ?_ ?_ ?_; rotate_left 2; assumption; rfl) | refine go_ldc hM rfl ?_)
    refine go_if_lt hM rfl rw9 (fun hc1 => ?_) (fun hc1 => ?_)
    · exact go_throw (c := 0) (s := 0) (b3 := 0) (b4 := 0) (y3 := 0) (e6 := 0) hM rfl rfl rfl rfl rfl thr_a rfl rfl rfl rfl ⟨by omega, rfl, rfl⟩
    repeat (first | refine go_pure hM rfl ?_ | (refine go_get (fs := ?_) (v := ?_) hM rfl ?_ ?_ ?_; rotate_left 2; assumption; rfl) | refine go_ldc hM rfl ?_)
    refine go_icmp_le hM rfl rw9 (by omega) (fun hc2 => ?_) (fun hc2 => ?_)
    · obtain ⟨t, rfl⟩ : ∃ t : Nat, f = t := ⟨f.toNat, by omega⟩
      have ht : t < 4 := by omega
      have e0 : ((t : Nat) : Int).toNat = t := by omega
      obtain ⟨d1, d2⟩ := hc.root ht
      obtain ⟨h1, h2, h3, h4, h5, h6, h7, h8⟩ := hc.2.1 t ht
      have k1 := hp_et (A := A) (h0 := h0)
      have k2 := hp_tr (A := A) (h0 := h0) ht
      have k3 := hp_nd (A := A) (h0 := h0) (i := 256 + t) (by omega)
      repeat (first | refine go_pure hM rfl ?_ | (refine go_get (fs := ?_) (v := ?_) hM rfl ?_ ?_ ?_; rotate_left 2; assumption; rfl) | refine go_ldc hM rfl ?_)
      refine go_aaldS (r := 517 + 6 * t) hM rfl (hp_ts (A := A) (h0 := h0)) rfl (by omega) (by omega) (by omega) (by rw [e0]; exact if_pos ht) ?_
      repeat (first | refine go_pure hM rfl ?_ | (refine go_get (fs := ?_) (v := ?_) hM rfl ?_ ?_ ?_; rotate_left 2; assumption; rfl) | refine go_ldc hM rfl ?_)
      have e9 : ∀ x : Int, x = cntS (SS ((t : Int)).toNat) w → qRd SS (aM A) h0 ((0 ≤ (t : Int) ∧ (t : Int) < 4) ∧ 0 ≤ w ∧ w ≤ 5) (vI (cntS (SS ((t : Int)).toNat) w)) (some (vI x)) none (hpx A h0) := fun x hx => ⟨⟨hf, by omega, hc2⟩, by rw [hx], rfl, A, hc, rfl, rfl⟩
      by_cases w0 : w = 0
      · subst w0
        refine go_tswIn (tgt := 68) hM rfl (by omega) (by omega) (by omega) rfl rfl ?_
        repeat (first | refine go_pure hM rfl ?_ | (refine go_get (fs := ?_) (v := ?_) hM rfl ?_ ?_ ?_; rotate_left 2; assumption; rfl) | refine go_ldc hM rfl ?_)
        exact go_iret hM rfl rfl (e9 _ (by rw [h4, e0]; rfl))
      by_cases w1 : w = 1
      · subst w1
        refine go_tswIn (tgt := 73) hM rfl (by omega) (by omega) (by omega) rfl rfl ?_
        repeat (first | refine go_pure hM rfl ?_ | (refine go_get (fs := ?_) (v := ?_) hM rfl ?_ ?_ ?_; rotate_left 2; assumption; rfl) | refine go_ldc hM rfl ?_)
        exact go_iret hM rfl rfl (e9 _ (by rw [d1, e0]; rfl))
      by_cases w2 : w = 2
      · subst w2
        refine go_tswIn (tgt := 81) hM rfl (by omega) (by omega) (by omega) rfl rfl ?_
        repeat (first | refine go_pure hM rfl ?_ | (refine go_get (fs := ?_) (v := ?_) hM rfl ?_ ?_ ?_; rotate_left 2; assumption; rfl) | refine go_ldc hM rfl ?_)
        exact go_iret hM rfl rfl (e9 _ (by rw [h5, e0]; rfl))
      by_cases w3 : w = 3
      · subst w3
        refine go_tswIn (tgt := 86) hM rfl (by omega) (by omega) (by omega) rfl rfl ?_
        repeat (first | refine go_pure hM rfl ?_ | (refine go_get (fs := ?_) (v := ?_) hM rfl ?_ ?_ ?_; rotate_left 2; assumption; rfl) | refine go_ldc hM rfl ?_)
        exact go_iret hM rfl rfl (e9 _ (by rw [h6, e0]; rfl))
      by_cases w4 : w = 4
      · subst w4
        refine go_tswIn (tgt := 91) hM rfl (by omega) (by omega) (by omega) rfl rfl ?_
        repeat (first | refine go_pure hM rfl ?_ | (refine go_get (fs := ?_) (v := ?_) hM rfl ?_ ?_ ?_; rotate_left 2; assumption; rfl) | refine go_ldc hM rfl ?_)
        exact go_iret hM rfl rfl (e9 _ (by rw [h7, e0]; rfl))
      · refine go_tswOut (tgt := 96) hM rfl (by omega) (by omega) rfl ?_
        repeat (first | refine go_pure hM rfl ?_ | (refine go_get (fs := ?_) (v := ?_) hM rfl ?_ ?_ ?_; rotate_left 2; assumption; rfl) | refine go_ldc hM rfl ?_)
        refine go_cV hM rfl rfl rfl k2 rfl (c_leaves hc.1 ht) rfl ?_
        refine go_iret hM rfl rfl (e9 _ ?_)
        rw [d1, h8, e0]
        unfold cntS
        rw [if_neg w0, if_neg w1, if_neg w2, if_neg w3, if_neg w4]
        by_cases h9 : md (SS t) = 0
        · rw [if_pos (by omega), if_pos h9]
        · rw [if_neg (by omega), if_neg h9, if_neg h9]
    · exact go_throw (c := 0) (s := 0) (b3 := 0) (b4 := 0) (y3 := 0) (e6 := 0) hM rfl rfl rfl rfl rfl thr_a rfl rfl rfl rfl ⟨by omega, rfl, rfl⟩
  · rw [if_neg hf] at q1
    refine go_cS hM rfl rfl rfl q1 rfl ?_
    refine go_if_eq hM rfl (by omega) (fun _ => ?_) (fun hc5 => absurd rfl hc5)
    exact go_throw (c := 0) (s := 0) (b3 := 0) (b4 := 0) (y3 := 0) (e6 := 0) hM rfl rfl rfl rfl rfl thr_a rfl rfl rfl rfl ⟨fun q => hf q.1, rfl, rfl⟩
theorem s_free (hc : Cl A SS) : Rd G m_ET_free [vR 1] N (hpx A h0) (some (vI (cnF (aTk A) 255))) N (hpx A h0) := by
  refine Rn.of rfl rfl rfl ?_
  have hM := ok_ET_free
  have k1 := hp_et (A := A) (h0 := h0)
  have k2 := hp_po (A := A) (h0 := h0)
  repeat (first | refine go_pure hM rfl ?_ | (refine go_get (fs := ?_) (v := ?_) hM rfl ?_ ?_ ?_; rotate_left 2; assumption; rfl) | refine go_ldc hM rfl ?_)
  exact go_iret hM rfl rfl ⟨by rw [hc.2.2.2.2.2], rfl, rfl⟩
end
