/-! ExtentTree.put, on the model -/
abbrev qOp (m : Nat) (h0 : gH) (P : Int → (Nat → mS) → Prop) : Option gV → Option Nat → gH → Prop := fun v N' h' => ∃ r SS' A', v = some (vI r) ∧ N' = none ∧ P r SS' ∧ Cl A' SS' ∧ aM A' = m ∧ h' = hpx A' h0
abbrev xOp (SS : Nat → mS) (m : Nat) (h0 : gH) (P : String → Prop) : String → gH → Prop := fun E h' => ∃ A', Cl A' SS ∧ aM A' = m ∧ h' = hpx A' h0 ∧ P E
def okPut (f x n v w : Int) : Prop := (0 ≤ f ∧ f < 4) ∧ (0 ≤ x ∧ x < 65536 ∧ 1 ≤ n ∧ x + n ≤ 65536) ∧ n ≤ 32767 + w ∧ (1 ≤ v ∧ v ≤ 16777216 ∧ v + n ≤ 16777217)
section
variable {G : gG} {h0 : gH} {A : cA} {SS : Nat → mS} {f x n v w : Int}
set_option maxHeartbeats 4000000 in
theorem s_put (hc : Cl A SS) (rf : (-2147483648 ≤ f ∧ f ≤ 2147483647)) (rx : (-2147483648 ≤ x ∧ x ≤ 2147483647)) (rn : (-2147483648 ≤ n ∧ n ≤ 2147483647)) (rv : (-2147483648 ≤ v ∧ v ≤ 2147483647)) (hw : w = 0 ∨ w = 1) : Rn G m_ET_put [vR 1, vI f, vI x, vI n, vI v, vI w] none (hpx A h0) 1 6 (qOp (aM A) h0 (fun r SS' => okPut f x n v w ∧ (∃ k, Fr (SS f.toNat) k x n) ∧ Ro SS f.toNat 1 1 5 ∧ PutO SS f.toNat (aM A) x n v w SS' ∧ r = mn (SS' f.toNat))) (xOp SS (aM A) h0 (fun E => (¬ okPut f x n v w ∧ E = xA) ∨ (okPut f x n v w ∧ ¬ (∃ k, Fr (SS f.toNat) k x n) ∧ E = xS) ∨ (okPut f x n v w ∧ (∃ k, Fr (SS f.toNat) k x n) ∧ ¬ Ro SS f.toNat 1 1 5 ∧ E = xU))) := by
  refine Rn.of rfl rfl rfl ?_
  have hM := ok_ET_put
  have q1 := c_isFile (G := G) (N := none) (h := hpx A h0) rf
  have q2 := c_areFileBlocks (G := G) (N := none) (h := hpx A h0) rx rn
  have q3 := c_longest (G := G) (N := none) (h := hpx A h0) hw
  have q4 := c_areVolumeBlocks (G := G) (N := none) (h := hpx A h0) rv rn
  have lw : (if w = 1 then 32768 else 32767 : Int) = 32767 + w := by
    rcases hw with rfl | rfl <;> rfl
  rw [lw] at q3
  obtain ⟨hcx, hmx⟩ := cl_cx.mp hc
  repeat (first | refine go_pure hM rfl ?_ | (refine go_get (fs := ?_) (v := ?_) hM rfl ?_ ?_ ?_; rotate_left 2; assumption; rfl) | refine go_ldc hM rfl ?_)
  by_cases hf : 0 ≤ f ∧ f < 4
  · rw [if_pos hf] at q1
    refine go_cS hM rfl rfl rfl q1 rfl ?_
    refine go_if_eq hM rfl (by omega) (fun hc5 => absurd hc5 (by omega)) (fun _ => ?_)
    repeat (first | refine go_pure hM rfl ?_ | (refine go_get (fs := ?_) (v := ?_) hM rfl ?_ ?_ ?_; rotate_left 2; assumption; rfl) | refine go_ldc hM rfl ?_)
    by_cases hb : 0 ≤ x ∧ x < 65536 ∧ 1 ≤ n ∧ x + n ≤ 65536
    · rw [if_pos hb] at q2
      refine go_cS hM rfl rfl rfl q2 rfl ?_
      refine go_if_eq hM rfl (by omega) (fun hc5 => absurd hc5 (by omega)) (fun _ => ?_)
      repeat (first | refine go_pure hM rfl ?_ | (refine go_get (fs := ?_) (v := ?_) hM rfl ?_ ?_ ?_; rotate_left 2; assumption; rfl) | refine go_ldc hM rfl ?_)
      refine go_cS hM rfl rfl rfl q3 rfl ?_
      refine go_icmp_gt hM rfl (by omega) (by omega) (fun hl => ?_) (fun hl => ?_)
      · exact go_throw (c := 0) (s := 0) (b3 := 0) (b4 := 0) (y3 := 0) (e6 := 0) hM rfl rfl rfl rfl rfl thr_a rfl rfl rfl rfl ⟨A, hc, rfl, rfl, Or.inl ⟨fun q => absurd q.2.2.1 (by omega), rfl⟩⟩
      repeat (first | refine go_pure hM rfl ?_ | (refine go_get (fs := ?_) (v := ?_) hM rfl ?_ ?_ ?_; rotate_left 2; assumption; rfl) | refine go_ldc hM rfl ?_)
      by_cases hv : 1 ≤ v ∧ v ≤ 16777216 ∧ v + n ≤ 16777217
      · rw [if_pos hv] at q4
        refine go_cS hM rfl rfl rfl q4 rfl ?_
        refine go_if_ne hM rfl (by omega) (fun _ => ?_) (fun hc5 => absurd hc5 (by omega))
        have hok : okPut f x n v w := ⟨hf, hb, by omega, hv⟩
        obtain ⟨t, rfl⟩ : ∃ t : Nat, f = t := ⟨f.toNat, by omega⟩
        have ht : t < 4 := by omega
        have e0 : ((t : Nat) : Int).toNat = t := by omega
        have k1 := hp_et (A := A) (h0 := h0)
        repeat (first | refine go_pure hM rfl ?_ | (refine go_get (fs := ?_) (v := ?_) hM rfl ?_ ?_ ?_; rotate_left 2; assumption; rfl) | refine go_ldc hM rfl ?_)
        refine go_aaldS (r := 517 + 6 * t) hM rfl (hp_ts (A := A) (h0 := h0)) rfl (by omega) (by omega) (by omega) (by rw [e0]; exact if_pos ht) ?_
        repeat (first | refine go_pure hM rfl ?_ | (refine go_get (fs := ?_) (v := ?_) hM rfl ?_ ?_ ?_; rotate_left 2; assumption; rfl) | refine go_ldc hM rfl ?_)
        have hc2 : CX (fA A t (SS t) (x + n - 1)) SS (fun _ => False) := hcx
        have hm2 : MX (fA A t (SS t) (x + n - 1)) SS := hmx
        have hl2 : Cl (fA A t (SS t) (x + n - 1)) SS := hc
        rcases s_hasAny (G := G) (N := none) (h0 := h0) (x := x) (n := n) hcx ht (by omega) (by omega) with ⟨hfr, r1⟩ | ⟨hfr, r1⟩
        · refine go_cV hM rfl rfl rfl (hp_tr ht) rfl r1 rfl ?_
          refine go_if_eq hM rfl (by omega) (fun _ => ?_) (fun h => absurd rfl h)
          repeat (first | refine go_pure hM rfl ?_ | (refine go_get (fs := ?_) (v := ?_) hM rfl ?_ ?_ ?_; rotate_left 2; assumption; rfl) | refine go_ldc hM rfl ?_)
          rcases s_roomForOne (G := G) (N := none) (h0 := h0) hc2 ht with ⟨hro, r2⟩ | ⟨hro, r2⟩
          · refine go_cV hM rfl rfl rfl (hp_tr ht) rfl r2 rfl ?_
            refine go_if_ne hM rfl (by omega) (fun _ => ?_) (fun h => absurd h (by omega))
            repeat (first | refine go_pure hM rfl ?_ | (refine go_get (fs := ?_) (v := ?_) hM rfl ?_ ?_ ?_; rotate_left 2; assumption; rfl) | refine go_ldc hM rfl ?_)
            obtain ⟨k, hk⟩ := hfr
            obtain ⟨S1, A2, p1, p2, p3, p4, p5⟩ := s_putIn (G := G) (N := none) (h0 := h0) (v := v) (w := w) hc2 hm2 ht ⟨hb.1, hb.2.2.1, hb.2.2.2, hw, by omega, hv.1, hv.2.2⟩ hk (ro_en hc2 ht hro hk.1)
            refine go_cV hM rfl rfl rfl (hp_tr ht) rfl p2 rfl ?_
            repeat (first | refine go_pure hM rfl ?_ | (refine go_get (fs := ?_) (v := ?_) hM rfl ?_ ?_ ?_; rotate_left 2; assumption; rfl) | refine go_ldc hM rfl ?_)
            obtain ⟨SS', A3, u1, u2, u3, u4, u5, u6⟩ := s_settleO (G := G) (h0 := h0) p3 p4 ht
            rw [p5] at u1
            refine go_cV hM rfl rfl rfl (hp_tr ht) rfl u2 rfl ?_
            have k2 := hp_tr (A := A3) (h0 := h0) ht
            repeat (first | refine go_pure hM rfl ?_ | (refine go_get (fs := ?_) (v := ?_) hM rfl ?_ ?_ ?_; rotate_left 2; assumption; rfl) | refine go_ldc hM rfl ?_)
            refine go_iret hM rfl rfl ⟨_, SS', A3, rfl, rfl, ?_, cl_cx.mpr ⟨u3, u4⟩, u5.trans p5, rfl⟩
            rw [e0]
            exact ⟨hok, ⟨k, hk⟩, hro, ⟨k, S1, hk, p1, u1⟩, (u3.2.1 t ht).2.2.2.1⟩
          · refine go_cV hM rfl rfl rfl (hp_tr ht) rfl r2 rfl ?_
            refine go_if_ne hM rfl (by omega) (fun h => absurd rfl h) (fun _ => ?_)
            refine go_throw (c := 0) (s := 0) (b3 := 0) (b4 := 0) (y3 := 0) (e6 := 0) hM rfl rfl rfl rfl rfl thr_u rfl rfl rfl rfl ⟨_, hl2, rfl, rfl, Or.inr (Or.inr ?_)⟩
            rw [e0]
            exact ⟨hok, hfr, hro, rfl⟩
        · refine go_cV hM rfl rfl rfl (hp_tr ht) rfl r1 rfl ?_
          refine go_if_eq hM rfl (by omega) (fun h => absurd h (by omega)) (fun _ => ?_)
          refine go_throw (c := 0) (s := 0) (b3 := 0) (b4 := 0) (y3 := 0) (e6 := 0) hM rfl rfl rfl rfl rfl thr_s rfl rfl rfl rfl ⟨_, hl2, rfl, rfl, Or.inr (Or.inl ?_)⟩
          rw [e0]
          exact ⟨hok, hfr, rfl⟩
      · rw [if_neg hv] at q4
        refine go_cS hM rfl rfl rfl q4 rfl ?_
        refine go_if_ne hM rfl (by omega) (fun hc5 => absurd rfl hc5) (fun _ => ?_)
        exact go_throw (c := 0) (s := 0) (b3 := 0) (b4 := 0) (y3 := 0) (e6 := 0) hM rfl rfl rfl rfl rfl thr_a rfl rfl rfl rfl ⟨A, hc, rfl, rfl, Or.inl ⟨fun q => hv q.2.2.2, rfl⟩⟩
    · rw [if_neg hb] at q2
      refine go_cS hM rfl rfl rfl q2 rfl ?_
      refine go_if_eq hM rfl (by omega) (fun _ => ?_) (fun hc5 => absurd rfl hc5)
      exact go_throw (c := 0) (s := 0) (b3 := 0) (b4 := 0) (y3 := 0) (e6 := 0) hM rfl rfl rfl rfl rfl thr_a rfl rfl rfl rfl ⟨A, hc, rfl, rfl, Or.inl ⟨fun q => hb q.2.1, rfl⟩⟩
  · rw [if_neg hf] at q1
    refine go_cS hM rfl rfl rfl q1 rfl ?_
    refine go_if_eq hM rfl (by omega) (fun _ => ?_) (fun hc5 => absurd rfl hc5)
    exact go_throw (c := 0) (s := 0) (b3 := 0) (b4 := 0) (y3 := 0) (e6 := 0) hM rfl rfl rfl rfl rfl thr_a rfl rfl rfl rfl ⟨A, hc, rfl, rfl, Or.inl ⟨fun q => hf q.1, rfl⟩⟩
end
