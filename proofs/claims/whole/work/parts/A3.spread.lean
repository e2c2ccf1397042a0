/-! ExtentTree.spread, on the model -/
def SprO (t m : Nat) (x st v : Int) : Nat → Int → (Nat → mS) → (Nat → mS) → Int → Prop
  | 0, i, SS, SS', r => SS' = SS ∧ r = i
  | f + 1, i, SS, SS', r => (¬ ((∃ k, Fr (SS t) k (x + i * st) 1) ∧ Ro SS t 1 1 5) ∧ SS' = SS ∧ r = i) ∨ ((∃ k, Fr (SS t) k (x + i * st) 1) ∧ Ro SS t 1 1 5 ∧ ∃ SS1, PutO SS t m (x + i * st) 1 (v + 2 * i) 1 SS1 ∧ SprO t m x st v f (i + 1) SS1 SS' r)
def okSpr (f x st n v : Int) : Prop := (0 ≤ f ∧ f < 4) ∧ okSer x st n ∧ (1 ≤ v ∧ v ≤ 16777216 ∧ v + (2 * n - 1) ≤ 16777217)
section
variable {G : gG} {h0 : gH} {A : cA} {SS : Nat → mS} {f x n st v : Int} {t m : Nat}
set_option maxHeartbeats 4000000 in
theorem spread_loop {Q : Option gV → Option Nat → gH → Prop} {X : String → gH → Prop} {c s : Nat} (ht : t < 4) (hs : okSer x st n) (hv : 1 ≤ v ∧ v ≤ 16777216 ∧ v + (2 * n - 1) ≤ 16777217) : ∀ (r : Nat) (SS : Nat → mS) (A : cA) (i : Int) (y : Option gV), i + r = n → 0 ≤ i → Cl A SS → aM A = m → (∀ r' SS' A', SprO t m x st v r i SS SS' r' → Cl A' SS' → aM A' = m → Q (some (vI r')) none (hpx A' h0)) → Go G m_ET_spread (gFin G Q X) 52 [some (vR 1), some (vI f), some (vI x), some (vI st), some (vI n), some (vI v), some (vR (517 + 6 * t)), some (vI i), y] [] none (hpx A h0) c s := by
  have hM := ok_ET_spread
  intro r
  have rs := hs.1
  have rn := hs.2.1
  induction r with
  | zero =>
    intro SS A i y h1 h2 hc hm hQ
    have := hQ i SS A ⟨rfl, rfl⟩ hc hm
    rw [show i = n by omega] at this ⊢
    repeat (first | refine go_pure hM rfl ?_ | (refine go_get (fs := ?_) (v := ?_) hM rfl ?_ ?_ ?_; rotate_left 2; assumption; rfl) | refine go_ldc hM rfl ?_)
    refine go_icmp_ge hM rfl (by omega) (by omega) (fun _ => ?_) (fun h9 => absurd h9 (by omega))
    repeat (first | refine go_pure hM rfl ?_ | (refine go_get (fs := ?_) (v := ?_) hM rfl ?_ ?_ ?_; rotate_left 2; assumption; rfl) | refine go_ldc hM rfl ?_)
    exact go_iret hM rfl rfl this
  | succ r ih =>
    intro SS A i y h1 h2 hc hm hQ
    obtain ⟨hcx, hmx⟩ := cl_cx.mp hc
    obtain ⟨b1, b2⟩ := ser_r hs h2 (by omega)
    repeat (first | refine go_pure hM rfl ?_ | (refine go_get (fs := ?_) (v := ?_) hM rfl ?_ ?_ ?_; rotate_left 2; assumption; rfl) | refine go_ldc hM rfl ?_)
    refine go_icmp_ge hM rfl (by omega) (by omega) (fun h9 => absurd h9 (by omega)) (fun _ => ?_)
    repeat (first | refine go_pure hM rfl ?_ | (refine go_get (fs := ?_) (v := ?_) hM rfl ?_ ?_ ?_; rotate_left 2; assumption; rfl) | refine go_ldc hM rfl ?_)
    have hc2 : CX (fA A t (SS t) (x + i * st + 1 - 1)) SS (fun _ => False) := hcx
    have hm2 : MX (fA A t (SS t) (x + i * st + 1 - 1)) SS := hmx
    have hl2 : Cl (fA A t (SS t) (x + i * st + 1 - 1)) SS := hc
    have hm9 : aM (fA A t (SS t) (x + i * st + 1 - 1)) = m := hm
    rcases s_hasAny (G := G) (N := none) (h0 := h0) (x := x + i * st) (n := 1) hcx ht (by omega) (by omega) with ⟨hfr, r1⟩ | ⟨hfr, r1⟩
    · refine go_cV hM rfl rfl rfl (hp_tr ht) rfl r1 rfl ?_
      refine go_if_ne hM rfl (by omega) (fun h => absurd rfl h) (fun _ => ?_)
      repeat (first | refine go_pure hM rfl ?_ | (refine go_get (fs := ?_) (v := ?_) hM rfl ?_ ?_ ?_; rotate_left 2; assumption; rfl) | refine go_ldc hM rfl ?_)
      rcases s_roomForOne (G := G) (N := none) (h0 := h0) hc2 ht with ⟨hro, r2⟩ | ⟨hro, r2⟩
      · refine go_cV hM rfl rfl rfl (hp_tr ht) rfl r2 rfl ?_
        refine go_if_ne hM rfl (by omega) (fun _ => ?_) (fun h => absurd h (by omega))
        repeat (first | refine go_pure hM rfl ?_ | (refine go_get (fs := ?_) (v := ?_) hM rfl ?_ ?_ ?_; rotate_left 2; assumption; rfl) | refine go_ldc hM rfl ?_)
        obtain ⟨k, hk⟩ := hfr
        obtain ⟨S1, A2, p1, p2, p3, p4, p5⟩ := s_putIn (G := G) (N := none) (h0 := h0) (v := v + 2 * i) (w := 1) hc2 hm2 ht ⟨by omega, by omega, by omega, Or.inr rfl, by omega, by omega, by omega⟩ hk (ro_en hc2 ht hro hk.1)
        rw [hm9] at p1
        refine go_cV hM rfl rfl rfl (hp_tr ht) rfl p2 rfl ?_
        repeat (first | refine go_pure hM rfl ?_ | (refine go_get (fs := ?_) (v := ?_) hM rfl ?_ ?_ ?_; rotate_left 2; assumption; rfl) | refine go_ldc hM rfl ?_)
        obtain ⟨SS2, A3, u1, u2, u3, u4, u5, u6⟩ := s_settleO (G := G) (h0 := h0) p3 p4 ht
        rw [p5, hm9] at u1
        refine go_cV hM rfl rfl rfl (hp_tr ht) rfl u2 rfl ?_
        have nx := ih SS2 A3 (i + 1) (some (vI (x + i * st))) (by omega) (by omega) (cl_cx.mpr ⟨u3, u4⟩) (u5.trans (p5.trans hm9)) (fun r' SS' A' z1 z2 z3 => hQ r' SS' A' (Or.inr ⟨⟨k, hk⟩, hro, SS2, ⟨k, S1, hk, p1, u1⟩, z1⟩) z2 z3)
        repeat (first | exact nx | refine go_pure hM rfl ?_ | (refine go_get (fs := ?_) (v := ?_) hM rfl ?_ ?_ ?_; rotate_left 2; assumption; rfl) | refine go_ldc hM rfl ?_)
      · refine go_cV hM rfl rfl rfl (hp_tr ht) rfl r2 rfl ?_
        refine go_if_ne hM rfl (by omega) (fun h => absurd rfl h) (fun _ => ?_)
        repeat (first | refine go_pure hM rfl ?_ | (refine go_get (fs := ?_) (v := ?_) hM rfl ?_ ?_ ?_; rotate_left 2; assumption; rfl) | refine go_ldc hM rfl ?_)
        exact go_iret hM rfl rfl (hQ i SS _ (Or.inl ⟨fun q => hro q.2, rfl, rfl⟩) hl2 hm9)
    · refine go_cV hM rfl rfl rfl (hp_tr ht) rfl r1 rfl ?_
      refine go_if_ne hM rfl (by omega) (fun _ => ?_) (fun h => absurd h (by omega))
      repeat (first | refine go_pure hM rfl ?_ | (refine go_get (fs := ?_) (v := ?_) hM rfl ?_ ?_ ?_; rotate_left 2; assumption; rfl) | refine go_ldc hM rfl ?_)
      exact go_iret hM rfl rfl (hQ i SS _ (Or.inl ⟨fun q => hfr q.1, rfl, rfl⟩) hl2 hm9)
set_option maxHeartbeats 4000000 in
theorem s_spread (hc : Cl A SS) (rf : (-2147483648 ≤ f ∧ f ≤ 2147483647)) (rx : (-2147483648 ≤ x ∧ x ≤ 2147483647)) (rs : (-2147483648 ≤ st ∧ st ≤ 2147483647)) (rn : (-2147483648 ≤ n ∧ n ≤ 2147483647)) (rv : (-2147483648 ≤ v ∧ v ≤ 2147483647)) : Rn G m_ET_spread [vR 1, vI f, vI x, vI st, vI n, vI v] none (hpx A h0) 1 6 (qOp (aM A) h0 (fun r SS' => okSpr f x st n v ∧ SprO f.toNat (aM A) x st v n.toNat 0 SS SS' r)) (xOp SS (aM A) h0 (fun E => ¬ okSpr f x st n v ∧ E = xA)) := by
  refine Rn.of rfl rfl rfl ?_
  have hM := ok_ET_spread
  have q1 := c_isFile (G := G) (N := none) (h := hpx A h0) rf
  have q2 := c_isSeries (G := G) (N := none) (h := hpx A h0) rx rs rn
  repeat (first | refine go_pure hM rfl ?_ | (refine go_get (fs := ?_) (v := ?_) hM rfl ?_ ?_ ?_; rotate_left 2; assumption; rfl) | refine go_ldc hM rfl ?_)
  by_cases hf : 0 ≤ f ∧ f < 4
  · rw [if_pos hf] at q1
    refine go_cS hM rfl rfl rfl q1 rfl ?_
    refine go_if_eq hM rfl (by omega) (fun hc5 => absurd hc5 (by omega)) (fun _ => ?_)
    repeat (first | refine go_pure hM rfl ?_ | (refine go_get (fs := ?_) (v := ?_) hM rfl ?_ ?_ ?_; rotate_left 2; assumption; rfl) | refine go_ldc hM rfl ?_)
    refine go_callS (mc := 0) (ms := 0) hM rfl rfl rfl q2 rfl (fun v9 N' h' hq => ?_) (fun _ _ q => q.elim)
    obtain ⟨hq, rfl, rfl⟩ := hq
    rcases hq with ⟨rfl, hs⟩ | ⟨rfl, hs⟩
    · refine go_if_eq hM rfl (by omega) (fun hc5 => absurd hc5 (by omega)) (fun _ => ?_)
      repeat (first | refine go_pure hM rfl ?_ | (refine go_get (fs := ?_) (v := ?_) hM rfl ?_ ?_ ?_; rotate_left 2; assumption; rfl) | refine go_ldc hM rfl ?_)
      have hn2 := hs.2.1
      have q4 := c_areVolumeBlocks (G := G) (N := none) (h := hpx A h0) (x := v) (n := 2 * n - 1) rv (by omega)
      by_cases hv : 1 ≤ v ∧ v ≤ 16777216 ∧ v + (2 * n - 1) ≤ 16777217
      · rw [if_pos hv] at q4
        refine go_cS hM rfl rfl rfl q4 rfl ?_
        refine go_if_ne hM rfl (by omega) (fun _ => ?_) (fun hc5 => absurd hc5 (by omega))
        obtain ⟨t, rfl⟩ : ∃ t : Nat, f = t := ⟨f.toNat, by omega⟩
        have ht : t < 4 := by omega
        have e0 : ((t : Nat) : Int).toNat = t := by omega
        have k1 := hp_et (A := A) (h0 := h0)
        repeat (first | refine go_pure hM rfl ?_ | (refine go_get (fs := ?_) (v := ?_) hM rfl ?_ ?_ ?_; rotate_left 2; assumption; rfl) | refine go_ldc hM rfl ?_)
        refine go_aaldS (r := 517 + 6 * t) hM rfl (hp_ts (A := A) (h0 := h0)) rfl (by omega) (by omega) (by omega) (by rw [e0]; exact if_pos ht) ?_
        have nx := spread_loop (G := G) (h0 := h0) (f := (t : Int)) (X := xOp SS (aM A) h0 (fun E => ¬ okSpr (t : Int) x st n v ∧ E = xA)) (Q := qOp (aM A) h0 (fun r SS' => okSpr (t : Int) x st n v ∧ SprO (t : Int).toNat (aM A) x st v n.toNat 0 SS SS' r)) (c := 1) (s := 6) (m := aM A) ht hs hv n.toNat SS A 0 none (by omega) (Int.le_refl _) hc rfl (fun r' SS' A' z1 z2 z3 => ⟨_, SS', A', rfl, rfl, ⟨⟨hf, hs, hv⟩, by rw [e0]; exact z1⟩, z2, z3, rfl⟩)
        repeat (first | exact nx | refine go_pure hM rfl ?_ | (refine go_get (fs := ?_) (v := ?_) hM rfl ?_ ?_ ?_; rotate_left 2; assumption; rfl) | refine go_ldc hM rfl ?_)
      · rw [if_neg hv] at q4
        refine go_cS hM rfl rfl rfl q4 rfl ?_
        refine go_if_ne hM rfl (by omega) (fun hc5 => absurd rfl hc5) (fun _ => ?_)
        exact go_throw (c := 0) (s := 0) (b3 := 0) (b4 := 0) (y3 := 0) (e6 := 0) hM rfl rfl rfl rfl rfl thr_a rfl rfl rfl rfl ⟨A, hc, rfl, rfl, fun q => hv q.2.2, rfl⟩
    · refine go_if_eq hM rfl (by omega) (fun _ => ?_) (fun hc5 => absurd rfl hc5)
      exact go_throw (c := 0) (s := 0) (b3 := 0) (b4 := 0) (y3 := 0) (e6 := 0) hM rfl rfl rfl rfl rfl thr_a rfl rfl rfl rfl ⟨A, hc, rfl, rfl, fun q => hs q.2.1, rfl⟩
  · rw [if_neg hf] at q1
    refine go_cS hM rfl rfl rfl q1 rfl ?_
    refine go_if_eq hM rfl (by omega) (fun _ => ?_) (fun hc5 => absurd rfl hc5)
    exact go_throw (c := 0) (s := 0) (b3 := 0) (b4 := 0) (y3 := 0) (e6 := 0) hM rfl rfl rfl rfl rfl thr_a rfl rfl rfl rfl ⟨A, hc, rfl, rfl, fun q => hf q.1, rfl⟩
end
