/-! ExtentTree.punch, strip, on the model -/
abbrev okPn (f x n : Int) : Prop := (0 ≤ f ∧ f < 4) ∧ (0 ≤ x ∧ x < 65536 ∧ 1 ≤ n ∧ x + n ≤ 65536)
def PunO (SS : Nat → mS) (t m : Nat) (x n : Int) (SS' : Nat → mS) (o : Int) : Prop := ∃ fu SS1, TO t m (x + n) fu SS x SS1 o ∧ StO SS1 t m SS'
def StpO (t m : Nat) (x st : Int) : Nat → Int → (Nat → mS) → (Nat → mS) → Int → Prop
  | 0, _, SS, SS', r => SS' = SS ∧ r = 0
  | f + 1, i, SS, SS', r => (¬ Ro SS t 1 1 5 ∧ SS' = SS ∧ r = 0) ∨ (Ro SS t 1 1 5 ∧ ∃ SS1 o r', PunO SS t m (x + i * st) 1 SS1 o ∧ StpO t m x st f (i + 1) SS1 SS' r' ∧ r = o + r')
section
variable {G : gG} {h0 : gH} {A : cA} {SS : Nat → mS} {f x n st : Int} {t m : Nat}
set_option maxHeartbeats 4000000 in
theorem s_punch (hc : Cl A SS) (rf : (-2147483648 ≤ f ∧ f ≤ 2147483647)) (rx : (-2147483648 ≤ x ∧ x ≤ 2147483647)) (rn : (-2147483648 ≤ n ∧ n ≤ 2147483647)) : Rn G m_ET_punch [vR 1, vI f, vI x, vI n] none (hpx A h0) 1 6 (qOp (aM A) h0 (fun r SS' => okPn f x n ∧ Ro SS f.toNat 1 1 5 ∧ PunO SS f.toNat (aM A) x n SS' r)) (xOp SS (aM A) h0 (fun E => (¬ okPn f x n ∧ E = xA) ∨ (okPn f x n ∧ ¬ Ro SS f.toNat 1 1 5 ∧ E = xU))) := by
  refine Rn.of rfl rfl rfl ?_
  have hM := ok_ET_punch
  have q1 := c_isFile (G := G) (N := none) (h := hpx A h0) rf
  have q2 := c_areFileBlocks (G := G) (N := none) (h := hpx A h0) rx rn
  obtain ⟨hcx, hmx⟩ := cl_cx.mp hc
  repeat (first | refine go_pure hM rfl ?_ | (refine go_get (fs := ?_) (v := ?_) hM rfl ?_ ?_ ?_; rotate_left 2; assumption; rfl) | refine go_ldc hM rfl ?_)
  by_cases hf : 0 ≤ f ∧ f < 4
  · rw [if_pos hf] at q1
    refine go_cS hM rfl rfl rfl q1 rfl ?_
    refine go_if_eq hM rfl (by omega) (fun hc5 => absurd hc5 (by omega)) (fun _ => ?_)
    repeat (first | refine go_pure hM rfl ?_ | (refine go_get (fs := ?_) (v := ?_) hM rfl ?_ ?_ ?_; rotate_left 2; assumption; rfl) | refine go_ldc hM rfl ?_)
    by_cases hb : 0 ≤ x ∧ x < 65536 ∧ 1 ≤ n ∧ x + n ≤ 65536
    · rw [if_pos hb] at q2
      refine go_cS hM rfl rfl rfl q2 rfl ?_
      refine go_if_ne hM rfl (by omega) (fun _ => ?_) (fun hc5 => absurd hc5 (by omega))
      have hok : okPn f x n := ⟨hf, hb⟩
      obtain ⟨t, rfl⟩ : ∃ t : Nat, f = t := ⟨f.toNat, by omega⟩
      have ht : t < 4 := by omega
      have e0 : ((t : Nat) : Int).toNat = t := by omega
      have k1 := hp_et (A := A) (h0 := h0)
      repeat (first | refine go_pure hM rfl ?_ | (refine go_get (fs := ?_) (v := ?_) hM rfl ?_ ?_ ?_; rotate_left 2; assumption; rfl) | refine go_ldc hM rfl ?_)
      refine go_aaldS (r := 517 + 6 * t) hM rfl (hp_ts (A := A) (h0 := h0)) rfl (by omega) (by omega) (by omega) (by rw [e0]; exact if_pos ht) ?_
      repeat (first | refine go_pure hM rfl ?_ | (refine go_get (fs := ?_) (v := ?_) hM rfl ?_ ?_ ?_; rotate_left 2; assumption; rfl) | refine go_ldc hM rfl ?_)
      rcases s_roomForOne (G := G) (N := none) (h0 := h0) hcx ht with ⟨hro, r2⟩ | ⟨hro, r2⟩
      · refine go_cV hM rfl rfl rfl (hp_tr ht) rfl r2 rfl ?_
        refine go_if_ne hM rfl (by omega) (fun _ => ?_) (fun h => absurd h (by omega))
        repeat (first | refine go_pure hM rfl ?_ | (refine go_get (fs := ?_) (v := ?_) hM rfl ?_ ?_ ?_; rotate_left 2; assumption; rfl) | refine go_ldc hM rfl ?_)
        obtain ⟨fu, SS1, o, A2, p1, p2, p3, p4, p5⟩ := s_takeOutAll (G := G) (N := none) (h0 := h0) (x := x) (e := x + n) hcx hmx ht (by omega) (by omega) (fun _ q z _ _ => ro_en hcx ht hro (by omega))
        refine go_cV hM rfl rfl rfl (hp_tr ht) rfl p2 rfl ?_
        repeat (first | refine go_pure hM rfl ?_ | (refine go_get (fs := ?_) (v := ?_) hM rfl ?_ ?_ ?_; rotate_left 2; assumption; rfl) | refine go_ldc hM rfl ?_)
        obtain ⟨SS', A3, u1, u2, u3, u4, u5, u6⟩ := s_settleO (G := G) (h0 := h0) p3 p4 ht
        rw [p5] at u1
        refine go_cV hM rfl rfl rfl (hp_tr ht) rfl u2 rfl ?_
        repeat (first | refine go_pure hM rfl ?_ | (refine go_get (fs := ?_) (v := ?_) hM rfl ?_ ?_ ?_; rotate_left 2; assumption; rfl) | refine go_ldc hM rfl ?_)
        refine go_iret hM rfl rfl ⟨_, SS', A3, rfl, rfl, ?_, cl_cx.mpr ⟨u3, u4⟩, u5.trans p5, rfl⟩
        rw [e0]
        exact ⟨hok, hro, fu, SS1, p1, u1⟩
      · refine go_cV hM rfl rfl rfl (hp_tr ht) rfl r2 rfl ?_
        refine go_if_ne hM rfl (by omega) (fun h => absurd rfl h) (fun _ => ?_)
        refine go_throw (c := 0) (s := 0) (b3 := 0) (b4 := 0) (y3 := 0) (e6 := 0) hM rfl rfl rfl rfl rfl thr_u rfl rfl rfl rfl ⟨_, hc, rfl, rfl, Or.inr ?_⟩
        rw [e0]
        exact ⟨hok, hro, rfl⟩
    · rw [if_neg hb] at q2
      refine go_cS hM rfl rfl rfl q2 rfl ?_
      refine go_if_ne hM rfl (by omega) (fun hc5 => absurd rfl hc5) (fun _ => ?_)
      exact go_throw (c := 0) (s := 0) (b3 := 0) (b4 := 0) (y3 := 0) (e6 := 0) hM rfl rfl rfl rfl rfl thr_a rfl rfl rfl rfl ⟨A, hc, rfl, rfl, Or.inl ⟨fun q => hb q.2, rfl⟩⟩
  · rw [if_neg hf] at q1
    refine go_cS hM rfl rfl rfl q1 rfl ?_
    refine go_if_eq hM rfl (by omega) (fun _ => ?_) (fun hc5 => absurd rfl hc5)
    exact go_throw (c := 0) (s := 0) (b3 := 0) (b4 := 0) (y3 := 0) (e6 := 0) hM rfl rfl rfl rfl rfl thr_a rfl rfl rfl rfl ⟨A, hc, rfl, rfl, Or.inl ⟨fun q => hf q.1, rfl⟩⟩
theorem ser_r (h : okSer x st n) {i : Int} (h1 : 0 ≤ i) (h2 : i < n) : 0 ≤ x + i * st ∧ x + i * st < 65536 := by
  obtain ⟨a1, a2, a3, a4, a5⟩ := h
  have b1 : 0 ≤ i * st := Int.mul_nonneg h1 (by omega)
  have b2 : i * st ≤ (n - 1) * st := Int.mul_le_mul_of_nonneg_right (by omega) (by omega)
  omega
set_option maxHeartbeats 4000000 in
theorem strip_loop {Q : Option gV → Option Nat → gH → Prop} {X : String → gH → Prop} {c s : Nat} (ht : t < 4) (hs : okSer x st n) : ∀ (r : Nat) (SS : Nat → mS) (A : cA) (i o : Int) (y : Option gV), i + r = n → 0 ≤ i → Cl A SS → aM A = m → (∀ r' SS' A', StpO t m x st r i SS SS' r' → Cl A' SS' → aM A' = m → Q (some (vI (o + r'))) none (hpx A' h0)) → Go G m_ET_strip (gFin G Q X) 41 [some (vR 1), some (vI f), some (vI x), some (vI st), some (vI n), some (vR (517 + 6 * t)), some (vI o), some (vI i), y] [] none (hpx A h0) c s := by
  have hM := ok_ET_strip
  intro r
  have rs := hs.1
  have rn := hs.2.1
  induction r with
  | zero =>
    intro SS A i o y h1 h2 hc hm hQ
    have := hQ 0 SS A ⟨rfl, rfl⟩ hc hm
    rw [Int.add_zero] at this
    repeat (first | refine go_pure hM rfl ?_ | (refine go_get (fs := ?_) (v := ?_) hM rfl ?_ ?_ ?_; rotate_left 2; assumption; rfl) | refine go_ldc hM rfl ?_)
    refine go_icmp_ge hM rfl (by omega) (by omega) (fun _ => ?_) (fun h9 => absurd h9 (by omega))
    repeat (first | refine go_pure hM rfl ?_ | (refine go_get (fs := ?_) (v := ?_) hM rfl ?_ ?_ ?_; rotate_left 2; assumption; rfl) | refine go_ldc hM rfl ?_)
    exact go_iret hM rfl rfl this
  | succ r ih =>
    intro SS A i o y h1 h2 hc hm hQ
    obtain ⟨hcx, hmx⟩ := cl_cx.mp hc
    obtain ⟨b1, b2⟩ := ser_r hs h2 (by omega)
    repeat (first | refine go_pure hM rfl ?_ | (refine go_get (fs := ?_) (v := ?_) hM rfl ?_ ?_ ?_; rotate_left 2; assumption; rfl) | refine go_ldc hM rfl ?_)
    refine go_icmp_ge hM rfl (by omega) (by omega) (fun h9 => absurd h9 (by omega)) (fun _ => ?_)
    repeat (first | refine go_pure hM rfl ?_ | (refine go_get (fs := ?_) (v := ?_) hM rfl ?_ ?_ ?_; rotate_left 2; assumption; rfl) | refine go_ldc hM rfl ?_)
    rcases s_roomForOne (G := G) (N := none) (h0 := h0) hcx ht with ⟨hro, r2⟩ | ⟨hro, r2⟩
    · refine go_cV hM rfl rfl rfl (hp_tr ht) rfl r2 rfl ?_
      refine go_if_eq hM rfl (by omega) (fun h => absurd h (by omega)) (fun _ => ?_)
      repeat (first | refine go_pure hM rfl ?_ | (refine go_get (fs := ?_) (v := ?_) hM rfl ?_ ?_ ?_; rotate_left 2; assumption; rfl) | refine go_ldc hM rfl ?_)
      obtain ⟨fu, SS1, o1, A2, p1, p2, p3, p4, p5⟩ := s_takeOutAll (G := G) (N := none) (h0 := h0) (x := x + i * st) (e := x + i * st + 1) hcx hmx ht (by omega) (by omega) (fun _ q z _ _ => ro_en hcx ht hro (by omega))
      rw [hm] at p1
      refine go_cV hM rfl rfl rfl (hp_tr ht) rfl p2 rfl ?_
      repeat (first | refine go_pure hM rfl ?_ | (refine go_get (fs := ?_) (v := ?_) hM rfl ?_ ?_ ?_; rotate_left 2; assumption; rfl) | refine go_ldc hM rfl ?_)
      obtain ⟨SS2, A3, u1, u2, u3, u4, u5, u6⟩ := s_settleO (G := G) (h0 := h0) p3 p4 ht
      rw [p5, hm] at u1
      refine go_cV hM rfl rfl rfl (hp_tr ht) rfl u2 rfl ?_
      have nx := ih SS2 A3 (i + 1) (o + o1) (some (vI (x + i * st))) (by omega) (by omega) (cl_cx.mpr ⟨u3, u4⟩) (u5.trans (p5.trans hm)) (fun r' SS' A' z1 z2 z3 => by
        rw [Int.add_assoc]
        exact hQ (o1 + r') SS' A' (Or.inr ⟨hro, SS2, o1, r', ⟨fu, SS1, p1, u1⟩, z1, rfl⟩) z2 z3)
      repeat (first | exact nx | refine go_pure hM rfl ?_ | (refine go_get (fs := ?_) (v := ?_) hM rfl ?_ ?_ ?_; rotate_left 2; assumption; rfl) | refine go_ldc hM rfl ?_)
    · have := hQ 0 SS A (Or.inl ⟨hro, rfl, rfl⟩) hc hm
      rw [Int.add_zero] at this
      refine go_cV hM rfl rfl rfl (hp_tr ht) rfl r2 rfl ?_
      refine go_if_eq hM rfl (by omega) (fun _ => ?_) (fun h => absurd rfl h)
      repeat (first | refine go_pure hM rfl ?_ | (refine go_get (fs := ?_) (v := ?_) hM rfl ?_ ?_ ?_; rotate_left 2; assumption; rfl) | refine go_ldc hM rfl ?_)
      exact go_iret hM rfl rfl this
set_option maxHeartbeats 4000000 in
theorem s_strip (hc : Cl A SS) (rf : (-2147483648 ≤ f ∧ f ≤ 2147483647)) (rx : (-2147483648 ≤ x ∧ x ≤ 2147483647)) (rs : (-2147483648 ≤ st ∧ st ≤ 2147483647)) (rn : (-2147483648 ≤ n ∧ n ≤ 2147483647)) : Rn G m_ET_strip [vR 1, vI f, vI x, vI st, vI n] none (hpx A h0) 1 6 (qOp (aM A) h0 (fun r SS' => ((0 ≤ f ∧ f < 4) ∧ okSer x st n) ∧ StpO f.toNat (aM A) x st n.toNat 0 SS SS' r)) (xOp SS (aM A) h0 (fun E => ¬ ((0 ≤ f ∧ f < 4) ∧ okSer x st n) ∧ E = xA)) := by
  refine Rn.of rfl rfl rfl ?_
  have hM := ok_ET_strip
  have q1 := c_isFile (G := G) (N := none) (h := hpx A h0) rf
  have q2 := c_isSeries (G := G) (N := none) (h := hpx A h0) rx rs rn
  repeat (first | refine go_pure hM rfl ?_ | (refine go_get (fs := ?_) (v := ?_) hM rfl ?_ ?_ ?_; rotate_left 2; assumption; rfl) | refine go_ldc hM rfl ?_)
  by_cases hf : 0 ≤ f ∧ f < 4
  · rw [if_pos hf] at q1
    refine go_cS hM rfl rfl rfl q1 rfl ?_
    refine go_if_eq hM rfl (by omega) (fun hc5 => absurd hc5 (by omega)) (fun _ => ?_)
    repeat (first | refine go_pure hM rfl ?_ | (refine go_get (fs := ?_) (v := ?_) hM rfl ?_ ?_ ?_; rotate_left 2; assumption; rfl) | refine go_ldc hM rfl ?_)
    refine go_callS (mc := 0) (ms := 0) hM rfl rfl rfl q2 rfl (fun v N' h' hq => ?_) (fun _ _ q => q.elim)
    obtain ⟨hq, rfl, rfl⟩ := hq
    rcases hq with ⟨rfl, hs⟩ | ⟨rfl, hs⟩
    · refine go_if_ne hM rfl (by omega) (fun _ => ?_) (fun hc5 => absurd hc5 (by omega))
      obtain ⟨t, rfl⟩ : ∃ t : Nat, f = t := ⟨f.toNat, by omega⟩
      have ht : t < 4 := by omega
      have e0 : ((t : Nat) : Int).toNat = t := by omega
      have k1 := hp_et (A := A) (h0 := h0)
      repeat (first | refine go_pure hM rfl ?_ | (refine go_get (fs := ?_) (v := ?_) hM rfl ?_ ?_ ?_; rotate_left 2; assumption; rfl) | refine go_ldc hM rfl ?_)
      refine go_aaldS (r := 517 + 6 * t) hM rfl (hp_ts (A := A) (h0 := h0)) rfl (by omega) (by omega) (by omega) (by rw [e0]; exact if_pos ht) ?_
      have nx := strip_loop (G := G) (h0 := h0) (f := (t : Int)) (X := xOp SS (aM A) h0 (fun E => ¬ ((0 ≤ (t : Int) ∧ (t : Int) < 4) ∧ okSer x st n) ∧ E = xA)) (Q := qOp (aM A) h0 (fun r SS' => ((0 ≤ (t : Int) ∧ (t : Int) < 4) ∧ okSer x st n) ∧ StpO (t : Int).toNat (aM A) x st n.toNat 0 SS SS' r)) (c := 1) (s := 6) (m := aM A) ht hs n.toNat SS A 0 0 none (by have := hs.2.1; omega) (Int.le_refl _) hc rfl (fun r' SS' A' z1 z2 z3 => ⟨_, SS', A', rfl, rfl, ⟨⟨hf, hs⟩, by rw [e0, Int.zero_add]; exact z1⟩, z2, z3, rfl⟩)
      repeat (first | exact nx | refine go_pure hM rfl ?_ | (refine go_get (fs := ?_) (v := ?_) hM rfl ?_ ?_ ?_; rotate_left 2; assumption; rfl) | refine go_ldc hM rfl ?_)
    · refine go_if_ne hM rfl (by omega) (fun hc5 => absurd rfl hc5) (fun _ => ?_)
      exact go_throw (c := 0) (s := 0) (b3 := 0) (b4 := 0) (y3 := 0) (e6 := 0) hM rfl rfl rfl rfl rfl thr_a rfl rfl rfl rfl ⟨A, hc, rfl, rfl, fun q => hs q.2, rfl⟩
  · rw [if_neg hf] at q1
    refine go_cS hM rfl rfl rfl q1 rfl ?_
    refine go_if_eq hM rfl (by omega) (fun _ => ?_) (fun hc5 => absurd rfl hc5)
    exact go_throw (c := 0) (s := 0) (b3 := 0) (b4 := 0) (y3 := 0) (e6 := 0) hM rfl rfl rfl rfl rfl thr_a rfl rfl rfl rfl ⟨A, hc, rfl, rfl, fun q => hf q.1, rfl⟩
end
