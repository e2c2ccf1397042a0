/-! ExtentTree.write, on the model -/
def UnW (S : mS) (q : Nat) (x n : Int) : Prop := q < mn S ∧ ms S q ≤ x ∧ x + n ≤ ms S q + ml S q ∧ mw S q = 0
def WrO (SS : Nat → mS) (t m : Nat) (x n : Int) (SS' : Nat → mS) : Prop := ∃ q fu SS1 k S2, UnW (SS t) q x n ∧ TO t m (x + n) fu SS x SS1 n ∧ Fr (SS1 t) k x n ∧ PutR SS1 t m k x n (mv (SS t) q + (x - ms (SS t) q)) 1 S2 ∧ StO (gF SS1 t S2) t m SS'
section
variable {G : gG} {N : Option Nat} {h0 : gH} {A : cA} {SS : Nat → mS} {F : Nat → Prop} {S : mS} {f x n : Int} {t m q : Nat}
theorem unw_ls (hr : mRn S) (hn : 1 ≤ n) (h : UnW S q x n) : lsS S x = (q : Int) := by
  obtain ⟨h1, h2, h3, -⟩ := h
  have := ls_is (k := q + 1) (b := x) hr (by omega) (fun p hp => by
    by_cases e : p = q
    · rw [e]
      exact h2
    · have := hr.lt (show p < q by omega) h1
      omega) (fun h9 => by
    have := hr.2 q h9
    omega)
  omega
theorem s_hasUnwritten (hc : CX A SS F) (ht : t < 4) (hx : 0 ≤ x ∧ x ≤ 65536) (hn : 1 ≤ n ∧ n ≤ 65536) : ((∃ q, UnW (SS t) q x n) ∧ Rd G m_Tree_hasUnwritten [vR (517 + 6 * t), vI x, vI n] N (hpx A h0) (some (vI 1)) N (hpx (fA A t (SS t) x) h0)) ∨ (¬ (∃ q, UnW (SS t) q x n) ∧ Rd G m_Tree_hasUnwritten [vR (517 + 6 * t), vI x, vI n] N (hpx A h0) (some (vI 0)) N (hpx (fA A t (SS t) x) h0)) := by
  obtain ⟨hs, hr, ha, -⟩ := hc.2.1 t ht
  obtain ⟨g1, g2, g3⟩ := lsR_spec hr x
  have c := c_hasUnwritten (G := G) (N := N) (h0 := h0) (x := x) (n := n) hc.1 ht hx (by omega) (path_of ht hs hr ha g1 g2 g3)
  by_cases h : ∃ q, UnW (SS t) q x n
  · refine Or.inl ⟨h, ?_⟩
    obtain ⟨q, hq⟩ := h
    have l : lsR (ms (SS t)) x (mn (SS t)) = (q : Int) := unw_ls hr hn.1 hq
    obtain ⟨q1, q2, q3, q4⟩ := hq
    rw [if_pos ?_] at c
    · exact c
    · rw [l]
      obtain ⟨e1, e2, e3, e4⟩ := run_at (A := A) ht hs hr ha (i := (q : Int)) ⟨by omega, by omega⟩
      rw [e1, e2, e4, show ((q : Nat) : Int).toNat = q by omega]
      exact ⟨q3, q4⟩
  · refine Or.inr ⟨h, ?_⟩
    rw [if_neg ?_] at c
    · exact c
    · rintro ⟨a1, a2⟩
      by_cases h9 : 0 ≤ lsR (ms (SS t)) x (mn (SS t))
      · obtain ⟨e1, e2, e3, e4⟩ := run_at (A := A) ht hs hr ha (i := lsR (ms (SS t)) x (mn (SS t))) ⟨h9, g1.2⟩
        rw [e1, e2] at a1
        rw [e4] at a2
        exact h ⟨_, by omega, g2 h9, a1, a2⟩
      · have h8 : lsR (ms (SS t)) x (mn (SS t)) = -1 := by omega
        rw [h8] at a1
        obtain ⟨e1, e2, e3, e4⟩ := run_no (A := A) (S := SS t)
        rw [e1, e2] at a1
        omega
theorem s_volumeAt (hc : CX A SS F) (ht : t < 4) (hx : 0 ≤ x ∧ x ≤ 65536) (hn : 1 ≤ n) (hq : UnW (SS t) q x n) : Rd G m_Tree_volumeOf [vR (517 + 6 * t), vI x] N (hpx A h0) (some (vI (mv (SS t) q + (x - ms (SS t) q)))) N (hpx (fA A t (SS t) x) h0) := by
  obtain ⟨hs, hr, ha, -⟩ := hc.2.1 t ht
  obtain ⟨g1, g2, g3⟩ := lsR_spec hr x
  have c := c_volumeOf (G := G) (N := N) (h0 := h0) hc.1 ht hx (path_of ht hs hr ha g1 g2 g3)
  have l : lsR (ms (SS t)) x (mn (SS t)) = (q : Int) := unw_ls hr hn hq
  obtain ⟨q1, q2, q3, q4⟩ := hq
  obtain ⟨e1, e2, e3, e4⟩ := run_at (A := A) ht hs hr ha (i := (q : Int)) ⟨by omega, by omega⟩
  rw [show ((q : Nat) : Int).toNat = q by omega] at e1 e2 e3 e4
  have ef : fA A t (SS t) x = fnd A t (pW (SS t) (lsR (ms (SS t)) x (mn (SS t)))) (pP (SS t) (lsR (ms (SS t)) x (mn (SS t)))) (md (SS t) + 1) (md (SS t)) := rfl
  rw [ef, l]
  rw [l, e1, e2, e3, if_pos (by omega)] at c
  exact c
set_option maxHeartbeats 4000000 in
theorem s_write (hc : Cl A SS) (rf : (-2147483648 ≤ f ∧ f ≤ 2147483647)) (rx : (-2147483648 ≤ x ∧ x ≤ 2147483647)) (rn : (-2147483648 ≤ n ∧ n ≤ 2147483647)) : Rn G m_ET_write [vR 1, vI f, vI x, vI n] none (hpx A h0) 1 6 (qOp (aM A) h0 (fun r SS' => okPn f x n ∧ (∃ q, UnW (SS f.toNat) q x n) ∧ Ro SS f.toNat 2 3 4 ∧ WrO SS f.toNat (aM A) x n SS' ∧ r = mn (SS' f.toNat))) (xOp SS (aM A) h0 (fun E => (¬ okPn f x n ∧ E = xA) ∨ (okPn f x n ∧ ¬ (∃ q, UnW (SS f.toNat) q x n) ∧ E = xS) ∨ (okPn f x n ∧ (∃ q, UnW (SS f.toNat) q x n) ∧ ¬ Ro SS f.toNat 2 3 4 ∧ E = xU))) := by
  refine Rn.of rfl rfl rfl ?_
  have hM := ok_ET_write
  have q1 := c_isFile (G := G) (N := none) (h := hpx A h0) rf
  have q2 := c_areFileBlocks (G := G) (N := none) (h := hpx A h0) rx rn
  obtain ⟨hcx, hmx⟩ := cl_cx.mp hc
  repeat (first | refine go_pure hM rfl ?_ | (refine go_get (fs := ?_) (v := ?_) hM rfl ?_ ?_ ?_; rotate_left 2; assumption; rfl) | refine go_ldc hM rfl ?_)
  by_cases hf : 0 ≤ f ∧ f < 4
  · rw [if_pos hf] at q1
    refine go_cS hM rfl rfl rfl q1 rfl ?_
    refine go_if_eq hM rfl (by omega) (fun hc5 => absurd hc5 (by omega)) (fun _ => ?_)
    repeat (first | refine go_pure hM rfl ?_ | (refine go_get (fs := ?_) (v := ?_) hM rfl ?_ ?_ ?_; rotate_left 2; assumption; rfl) | refine go_ldc hM rfl ?_)
    by_cases hb : 0 ≤ x ∧ x < 65536 ∧ 1 ≤ n ∧ x + n ≤ 65536
    · rw [if_pos hb] at q2
      refine go_cS hM rfl rfl rfl q2 rfl ?_
      refine go_if_ne hM rfl (by omega) (fun _ => ?_) (fun hc5 => absurd hc5 (by omega))
      have hok : okPn f x n := ⟨hf, hb⟩
      obtain ⟨t, rfl⟩ : ∃ t : Nat, f = t := ⟨f.toNat, by omega⟩
      have ht : t < 4 := by omega
      have e0 : ((t : Nat) : Int).toNat = t := by omega
      have k1 := hp_et (A := A) (h0 := h0)
      repeat (first | refine go_pure hM rfl ?_ | (refine go_get (fs := ?_) (v := ?_) hM rfl ?_ ?_ ?_; rotate_left 2; assumption; rfl) | refine go_ldc hM rfl ?_)
      refine go_aaldS (r := 517 + 6 * t) hM rfl (hp_ts (A := A) (h0 := h0)) rfl (by omega) (by omega) (by omega) (by rw [e0]; exact if_pos ht) ?_
      repeat (first | refine go_pure hM rfl ?_ | (refine go_get (fs := ?_) (v := ?_) hM rfl ?_ ?_ ?_; rotate_left 2; assumption; rfl) | refine go_ldc hM rfl ?_)
      have hc2 : CX (fA A t (SS t) x) SS (fun _ => False) := hcx
      have hm2 : MX (fA A t (SS t) x) SS := hmx
      have hl2 : Cl (fA A t (SS t) x) SS := hc
      rcases s_hasUnwritten (G := G) (N := none) (h0 := h0) (x := x) (n := n) hcx ht (by omega) (by omega) with ⟨hun, r1⟩ | ⟨hun, r1⟩
      · refine go_cV hM rfl rfl rfl (hp_tr ht) rfl r1 rfl ?_
        refine go_if_ne hM rfl (by omega) (fun _ => ?_) (fun h => absurd h (by omega))
        repeat (first | refine go_pure hM rfl ?_ | (refine go_get (fs := ?_) (v := ?_) hM rfl ?_ ?_ ?_; rotate_left 2; assumption; rfl) | refine go_ldc hM rfl ?_)
        rcases s_roomForTwo (G := G) (N := none) (h0 := h0) hc2 ht with ⟨hro, r2⟩ | ⟨hro, r2⟩
        · refine go_cV hM rfl rfl rfl (hp_tr ht) rfl r2 rfl ?_
          refine go_if_ne hM rfl (by omega) (fun _ => ?_) (fun h => absurd h (by omega))
          repeat (first | refine go_pure hM rfl ?_ | (refine go_get (fs := ?_) (v := ?_) hM rfl ?_ ?_ ?_; rotate_left 2; assumption; rfl) | refine go_ldc hM rfl ?_)
          obtain ⟨q, hq⟩ := hun
          have hq' := hq
          obtain ⟨y1, y2, y3, y4⟩ := hq'
          obtain ⟨hs, hr, ha, -⟩ := hcx.2.1 t ht
          obtain ⟨d1, d2, d3, d4, d5, d6, d7⟩ := hr.1 q y1
          refine go_cV hM rfl rfl rfl (hp_tr ht) rfl (s_volumeAt (n := n) hc2 ht (by omega) hb.2.2.1 hq) rfl ?_
          repeat (first | refine go_pure hM rfl ?_ | (refine go_get (fs := ?_) (v := ?_) hM rfl ?_ ?_ ?_; rotate_left 2; assumption; rfl) | refine go_ldc hM rfl ?_)
          have hc3 : CX (fA (fA A t (SS t) x) t (SS t) x) SS (fun _ => False) := hcx
          have hm3 : MX (fA (fA A t (SS t) x) t (SS t) x) SS := hmx
          have hM3 : aM (fA (fA A t (SS t) x) t (SS t) x) = aM A := rfl
          generalize fA (fA A t (SS t) x) t (SS t) x = A3 at hc3 hm3 hM3
          obtain ⟨S1, A4, i1, i2, i3, i4, i5, i6, i7⟩ := s_takeOutOne (G := G) (N := none) (h0 := h0) (x := x) (e := x + n) hc3 hm3 ht rfl (by omega) (by omega) y1 y2 y3 (fun _ _ => by
            obtain ⟨g1, g2⟩ := hc3.ro.mp hro
            exact rmen_of (hc3.2.1 t ht).1 (by omega) (by omega) (fun ⟨b1, b2⟩ => g2 ⟨by omega, b2⟩))
          rw [show x + n - x = n by omega] at i1 i2 i3
          refine go_cV hM rfl rfl rfl (hp_tr ht) rfl i3 rfl ?_
          repeat (first | refine go_pure hM rfl ?_ | (refine go_get (fs := ?_) (v := ?_) hM rfl ?_ ?_ ?_; rotate_left 2; assumption; rfl) | refine go_ldc hM rfl ?_)
          obtain ⟨k, hk, hrm⟩ := wr_room hc3 i4 i6 ht rfl hro y1 y2 hb.2.2.1 y3 i1 i7
          have hk2 : Fr (gF SS t S1 t) k x n := by
            rw [gF_s]
            exact hk
          have hrm2 : RmEn A4 (gF SS t S1 t) k := by
            rw [gF_s]
            exact hrm
          obtain ⟨S2, A5, p1, p2, p3, p4, p5⟩ := s_putIn (G := G) (N := none) (h0 := h0) (v := mv (SS t) q + (x - ms (SS t) q)) (w := 1) i4 i5 ht ⟨hb.1, hb.2.2.1, hb.2.2.2, Or.inr rfl, by omega, by omega, by omega⟩ hk2 hrm2
          refine go_cV hM rfl rfl rfl (hp_tr ht) rfl p2 rfl ?_
          repeat (first | refine go_pure hM rfl ?_ | (refine go_get (fs := ?_) (v := ?_) hM rfl ?_ ?_ ?_; rotate_left 2; assumption; rfl) | refine go_ldc hM rfl ?_)
          obtain ⟨SS', A6, u1, u2, u3, u4, u5, u6⟩ := s_settleO (G := G) (h0 := h0) p3 p4 ht
          rw [p5, i6, hM3] at u1
          refine go_cV hM rfl rfl rfl (hp_tr ht) rfl u2 rfl ?_
          have k2 := hp_tr (A := A6) (h0 := h0) ht
          repeat (first | refine go_pure hM rfl ?_ | (refine go_get (fs := ?_) (v := ?_) hM rfl ?_ ?_ ?_; rotate_left 2; assumption; rfl) | refine go_ldc hM rfl ?_)
          refine go_iret hM rfl rfl ⟨_, SS', A6, rfl, rfl, ?_, cl_cx.mpr ⟨u3, u4⟩, u5.trans (p5.trans (i6.trans hM3)), rfl⟩
          rw [e0]
          rw [hM3] at i2
          rw [i6, hM3] at p1
          exact ⟨hok, ⟨q, hq⟩, hro, ⟨q, 2, gF SS t S1, k, S2, hq, i2, hk2, p1, u1⟩, (u3.2.1 t ht).2.2.2.1⟩
        · refine go_cV hM rfl rfl rfl (hp_tr ht) rfl r2 rfl ?_
          refine go_if_ne hM rfl (by omega) (fun h => absurd rfl h) (fun _ => ?_)
          refine go_throw (c := 0) (s := 0) (b3 := 0) (b4 := 0) (y3 := 0) (e6 := 0) hM rfl rfl rfl rfl rfl thr_u rfl rfl rfl rfl ⟨_, hl2, rfl, rfl, Or.inr (Or.inr ?_)⟩
          rw [e0]
          exact ⟨hok, hun, hro, rfl⟩
      · refine go_cV hM rfl rfl rfl (hp_tr ht) rfl r1 rfl ?_
        refine go_if_ne hM rfl (by omega) (fun h => absurd rfl h) (fun _ => ?_)
        refine go_throw (c := 0) (s := 0) (b3 := 0) (b4 := 0) (y3 := 0) (e6 := 0) hM rfl rfl rfl rfl rfl thr_s rfl rfl rfl rfl ⟨_, hl2, rfl, rfl, Or.inr (Or.inl ?_)⟩
        rw [e0]
        exact ⟨hok, hun, rfl⟩
    · rw [if_neg hb] at q2
      refine go_cS hM rfl rfl rfl q2 rfl ?_
      refine go_if_ne hM rfl (by omega) (fun hc5 => absurd rfl hc5) (fun _ => ?_)
      exact go_throw (c := 0) (s := 0) (b3 := 0) (b4 := 0) (y3 := 0) (e6 := 0) hM rfl rfl rfl rfl rfl thr_a rfl rfl rfl rfl ⟨A, hc, rfl, rfl, Or.inl ⟨fun q => hb q.2, rfl⟩⟩
  · rw [if_neg hf] at q1
    refine go_cS hM rfl rfl rfl q1 rfl ?_
    refine go_if_eq hM rfl (by omega) (fun _ => ?_) (fun hc5 => absurd rfl hc5)
    exact go_throw (c := 0) (s := 0) (b3 := 0) (b4 := 0) (y3 := 0) (e6 := 0) hM rfl rfl rfl rfl rfl thr_a rfl rfl rfl rfl ⟨A, hc, rfl, rfl, Or.inl ⟨fun q => hf q.1, rfl⟩⟩
end
