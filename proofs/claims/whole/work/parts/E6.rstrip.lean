/-! the reference: strip, write -/
section
variable {G : gG} {N : Option Nat} {h : gH} {R : rA} {SS SS' : Nat → mS} {S : mS} {t m k : Nat} {f x n v w st c r o : Int}
set_option maxHeartbeats 4000000 in
theorem stp_loop {Q9 : Option gV → Option Nat → gH → Prop} {X : String → gH → Prop} (ht : t < 4) (hs : okSer x st n) : ∀ (q : Nat) (SS : Nat → mS) (R : rA) (i o r : Int), i + q = n → 0 ≤ i → RX R SS m → Gd SS m → R.1 = 0 → StpO t m x st q i SS SS' r → (∀ R', RX R' SS' m → R'.1 = 0 → Q9 (some (vI (o + r))) none (hrx R' h)) → Go G m_Mod_strip (gFin G Q9 X) 27 [some (vR 541), some (vI t), some (vI x), some (vI st), some (vI n), some (vI o), some (vI i)] [] none (hrx R h) 0 0 := by
  have hM := ok_Mod_strip
  have rs := hs.1
  have rn := hs.2.1
  intro q
  induction q with
  | zero =>
    intro SS R i o r e1 e2 hx hg h0 hS hQ
    obtain ⟨rfl, rfl⟩ := hS
    have := hQ R hx h0
    rw [Int.add_zero] at this
    repeat (first | refine go_pure hM rfl ?_ | refine go_get hM rfl hr_o rfl ?_ | refine go_ldc hM rfl ?_)
    rw [h0]
    refine go_if_ne hM rfl (by omega) (fun h9 => absurd rfl h9) (fun _ => ?_)
    repeat (first | refine go_pure hM rfl ?_ | refine go_get hM rfl hr_o rfl ?_ | refine go_ldc hM rfl ?_)
    refine go_icmp_ge hM rfl (by omega) (by omega) (fun _ => ?_) (fun h9 => absurd h9 (by omega))
    repeat (first | refine go_pure hM rfl ?_ | refine go_get hM rfl hr_o rfl ?_ | refine go_ldc hM rfl ?_)
    exact go_iret hM rfl rfl this
  | succ q ih =>
    intro SS R i o r e1 e2 hx hg h0 hS hQ
    obtain ⟨b1, b2⟩ := ser_r hs e2 (by omega)
    have cm : x + st * i = x + i * st := by rw [Int.mul_comm]
    repeat (first | refine go_pure hM rfl ?_ | refine go_get hM rfl hr_o rfl ?_ | refine go_ldc hM rfl ?_)
    rw [h0]
    refine go_if_ne hM rfl (by omega) (fun h9 => absurd rfl h9) (fun _ => ?_)
    repeat (first | refine go_pure hM rfl ?_ | refine go_get hM rfl hr_o rfl ?_ | refine go_ldc hM rfl ?_)
    refine go_icmp_ge hM rfl (by omega) (by omega) (fun h9 => absurd h9 (by omega)) (fun _ => ?_)
    repeat (first | refine go_pure hM rfl ?_ | refine go_get hM rfl hr_o rfl ?_ | refine go_ldc hM rfl ?_)
    rcases m_isTight (G := G) (N := none) (h := h) (R := R) (a := 1) (b := 1) (c := 5) hx.1 (hg.2.1 t ht).1 ht (by omega) (by omega) (by omega) with ⟨ro, it⟩ | ⟨ro, it⟩
    · refine go_cV hM rfl rfl rfl hr_o rfl it rfl ?_
      refine go_if_ne hM rfl (by omega) (fun h9 => absurd rfl h9) (fun _ => ?_)
      rcases hS with ⟨z1, _⟩ | ⟨_, SS1, o1, r1, ⟨fu, SS0, z2, z3⟩, z4, z5⟩
      · exact absurd ro z1
      · repeat (first | refine go_pure hM rfl ?_ | refine go_get hM rfl hr_o rfl ?_ | refine go_ldc hM rfl ?_)
        rw [cm]
        have to := m_takeOut (G := G) (N := none) (h := h) hx hg ht b1 (by omega) (by omega) z2
        refine go_callV (mc := 0) (ms := 0) hM rfl rfl rfl hr_o rfl to rfl (fun v9 N9 h9 hq => ?_) (fun _ _ q => q.elim)
        obtain ⟨rfl, rfl, R2, w1, w2, rfl⟩ := hq
        repeat (first | refine go_pure hM rfl ?_ | refine go_get hM rfl hr_o rfl ?_ | refine go_ldc hM rfl ?_)
        refine go_callV (mc := 0) (ms := 0) hM rfl rfl rfl hr_o rfl (m_shrinkX w1 ht z3) rfl (fun v9 N9 h9 hq => ?_) (fun _ _ q => q.elim)
        obtain ⟨rfl, rfl, R3, w3, w4, rfl⟩ := hq
        have nx := ih SS1 R3 (i + 1) (o + o1) r1 (by omega) (by omega) w3 z3.gd ((w4.trans w2).trans h0) z4 (fun R' v1 v2 => by
          have := hQ R' v1 v2
          rw [z5, ← Int.add_assoc] at this
          exact this)
        repeat (first | exact nx | refine go_pure hM rfl ?_ | refine go_get hM rfl hr_o rfl ?_ | refine go_ldc hM rfl ?_)
    · refine go_cV hM rfl rfl rfl hr_o rfl it rfl ?_
      refine go_if_ne hM rfl (by omega) (fun _ => ?_) (fun h9 => absurd h9 (by omega))
      rcases hS with ⟨_, z2, z3⟩ | ⟨z1, _⟩
      · have := hQ R (by rw [z2]; exact hx) h0
        rw [z3, Int.add_zero] at this
        repeat (first | refine go_pure hM rfl ?_ | refine go_get hM rfl hr_o rfl ?_ | refine go_ldc hM rfl ?_)
        exact go_iret hM rfl rfl this
      · exact absurd z1 ro
set_option maxHeartbeats 4000000 in
theorem m_strip (hx : RX R SS m) (hg : Gd SS m) (rf : (-2147483648 ≤ f ∧ f ≤ 2147483647)) (rx : (-2147483648 ≤ x ∧ x ≤ 2147483647)) (rs : (-2147483648 ≤ st ∧ st ≤ 2147483647)) (rn : (-2147483648 ≤ n ∧ n ≤ 2147483647)) (hc : (¬ ((0 ≤ f ∧ f < 4) ∧ okSer x st n) ∧ c = 1 ∧ SS' = SS ∧ r = 0) ∨ (((0 ≤ f ∧ f < 4) ∧ okSer x st n) ∧ StpO f.toNat m x st n.toNat 0 SS SS' r ∧ c = 0)) : Rn G m_Mod_strip [vR 541, vI f, vI x, vI st, vI n] N (hrx R h) 0 0 (qX SS' m h c r) gNo := by
  refine Rn.of rfl rfl rfl ?_
  have hM := ok_Mod_strip
  refine go_drop ?_
  repeat (first | refine go_pure hM rfl ?_ | refine go_get hM rfl hr_o rfl ?_ | refine go_ldc hM rfl ?_)
  rcases m_noSteps (G := G) (N := none) (h := h) (R := R) rf rx rs rn with ⟨g1, g2⟩ | ⟨g1, g2⟩
  · rcases hc with ⟨q, _⟩ | ⟨_, e1, e2⟩
    · exact absurd g1 q
    · obtain ⟨hf, hs⟩ := g1
      obtain ⟨t, rfl⟩ : ∃ t : Nat, f = t := ⟨f.toNat, by omega⟩
      rw [show ((t : Nat) : Int).toNat = t by omega] at e1
      have hn := hs.2.1
      have nx := stp_loop (G := G) (h := h) (t := t) (Q9 := qX SS' m h c r) (X := gNo) (by omega) hs n.toNat SS (sTh R 0) 0 0 r (by omega) (Int.le_refl _) (hx.th 0) hg rfl e1 (fun R' w1 w2 => ⟨by rw [Int.zero_add], rfl, R', w1, w2.trans e2.symm, rfl⟩)
      refine go_cV hM rfl rfl rfl hr_o rfl g2 rfl ?_
      refine go_if_eq hM rfl (by omega) (fun _ => ?_) (fun h9 => absurd rfl h9)
      repeat (first | refine go_pure hM rfl ?_ | refine go_get hM rfl hr_o rfl ?_ | refine go_ldc hM rfl ?_)
      refine go_put hM rfl hr_o rfl rfl ?_
      have u1 := ur_o (R := R) (h := h) (x := 0)
      rw [u1]
      repeat (first | exact nx | refine go_pure hM rfl ?_ | refine go_get hM rfl hr_o rfl ?_ | refine go_ldc hM rfl ?_)
  · rcases hc with ⟨_, e1, e2, e3⟩ | ⟨q, _⟩
    · refine go_cV hM rfl rfl rfl hr_o rfl g2 rfl ?_
      refine go_if_eq hM rfl (by omega) (fun h9 => absurd h9 (by omega)) (fun _ => ?_)
      repeat (first | refine go_pure hM rfl ?_ | refine go_get hM rfl hr_o rfl ?_ | refine go_ldc hM rfl ?_)
      refine go_put hM rfl hr_o rfl rfl ?_
      have u1 := ur_o (R := R) (h := h) (x := 1)
      rw [u1]
      repeat (first | refine go_pure hM rfl ?_ | refine go_get hM rfl hr_o rfl ?_ | refine go_ldc hM rfl ?_)
      refine go_if_ne hM rfl (by show _ ≤ (1 : Int) ∧ (1 : Int) ≤ _; omega) (fun _ => ?_) (fun h9 => absurd h9 (by show ¬ (1 : Int) = 0; omega))
      repeat (first | refine go_pure hM rfl ?_ | refine go_get hM rfl hr_o rfl ?_ | refine go_ldc hM rfl ?_)
      exact go_iret hM rfl rfl ⟨by rw [e3], rfl, sTh R 1, by rw [e2]; exact hx, e1.symm, rfl⟩
    · exact absurd q g1
set_option maxHeartbeats 4000000 in
theorem m_write (hx : RX R SS m) (hg : Gd SS m) (rf : (-2147483648 ≤ f ∧ f ≤ 2147483647)) (rx : (-2147483648 ≤ x ∧ x ≤ 2147483647)) (rn : (-2147483648 ≤ n ∧ n ≤ 2147483647)) (hc : (¬ okPn f x n ∧ c = 1 ∧ SS' = SS ∧ r = 0) ∨ (okPn f x n ∧ ¬ (∃ q, UnW (SS f.toNat) q x n) ∧ c = 2 ∧ SS' = SS ∧ r = 0) ∨ (okPn f x n ∧ (∃ q, UnW (SS f.toNat) q x n) ∧ ¬ Ro SS f.toNat 2 3 4 ∧ c = 3 ∧ SS' = SS ∧ r = 0) ∨ (okPn f x n ∧ (∃ q, UnW (SS f.toNat) q x n) ∧ Ro SS f.toNat 2 3 4 ∧ WrO SS f.toNat m x n SS' ∧ c = 0 ∧ r = mn (SS' f.toNat))) : Rn G m_Mod_write [vR 541, vI f, vI x, vI n] N (hrx R h) 0 0 (qX SS' m h c r) gNo := by
  refine Rn.of rfl rfl rfl ?_
  have hM := ok_Mod_write
  refine go_drop ?_
  repeat (first | refine go_pure hM rfl ?_ | refine go_get hM rfl hr_o rfl ?_ | refine go_ldc hM rfl ?_)
  rcases m_noRange (G := G) (N := none) (h := h) (R := R) (L := 65536) rf rx rn (by omega) with ⟨g1, g2⟩ | ⟨g1, g2⟩
  · have hok : okPn f x n := g1.1
    obtain ⟨t, rfl⟩ : ∃ t : Nat, f = t := ⟨f.toNat, by omega⟩
    have ht : t < 4 := by omega
    have e0 : ((t : Nat) : Int).toNat = t := by omega
    rw [e0] at hc
    have hnn := (hg.2.1 t ht).2
    have hsh := (hg.2.1 t ht).1
    obtain ⟨k, hk⟩ := bh_ex hnn x
    have hkle := hk.1
    have hn1 := hok.2.2.2.1
    have uq : ∀ q, UnW (SS t) q x n → q = k := fun q hq => bh_un ⟨by have := hq.1; omega, fun p hp => by
      have h1 := hnn.mono hp hq.1
      have h2 := hq.2.1
      omega, fun p p1 p2 => by
      have h1 := hnn.ends p1 p2
      have h2 := hq.2.2.1
      omega⟩ hk
    obtain ⟨r1, r2, r3⟩ := hx.2
    have bt := bg_le (SS := SS) ht
    have b2 : R.2.2 0 (t + 1) = ((bg SS t + mn (SS t) : Nat) : Int) := r2 (t + 1) (by omega)
    have tt1 : (((t : Nat) : Int) + 1).toNat = t + 1 := by omega
    have tk : ((bg SS t + k : Nat) : Int).toNat = bg SS t + k := by omega
    have th0 : ∀ j, (sTh R 0).2.2 j = R.2.2 j := fun j => rfl
    have rd : ∀ p, p < mn (SS t) → R.2.2 1 (bg SS t + p) = ms (SS t) p ∧ R.2.2 2 (bg SS t + p) = ml (SS t) p ∧ R.2.2 3 (bg SS t + p) = mv (SS t) p ∧ R.2.2 4 (bg SS t + p) = mw (SS t) p := r3 t ht
    refine go_cV hM rfl rfl rfl hr_o rfl g2 rfl ?_
    refine go_if_eq hM rfl (by omega) (fun _ => ?_) (fun h9 => absurd rfl h9)
    repeat (first | refine go_pure hM rfl ?_ | refine go_get hM rfl hr_o rfl ?_ | refine go_ldc hM rfl ?_)
    refine go_put hM rfl hr_o rfl rfl ?_
    have u1 := ur_o (R := R) (h := h) (x := 0)
    rw [u1]
    repeat (first | refine go_pure hM rfl ?_ | refine go_get hM rfl hr_o rfl ?_ | refine go_ldc hM rfl ?_)
    refine go_if_eq hM rfl (by show _ ≤ (0 : Int) ∧ (0 : Int) ≤ _; omega) (fun _ => ?_) (fun h9 => absurd rfl h9)
    repeat (first | refine go_pure hM rfl ?_ | refine go_get hM rfl hr_o rfl ?_ | refine go_ldc hM rfl ?_)
    refine go_cV hM rfl rfl rfl hr_o rfl (m_behind (R := sTh R 0) hx.2 hnn ht hk (by omega)) rfl ?_
    have ex : ∀ (c9 : Int) y5, c = c9 → c9 ≠ 0 → SS' = SS → r = 0 → (-2147483648 ≤ c9 ∧ c9 ≤ 2147483647) → Go G m_Mod_write (gFin G (qX SS' m h c r) gNo) 126 [some (vR 541), some (vI t), some (vI x), some (vI n), some (vI ((bg SS t + k : Nat) : Int)), y5, none, none] [vI c9, vR 541] none (hrx (sTh R 0) h) 0 0 := by
      intro c9 y5 e1 e2 e3 e4 rc
      refine go_put hM rfl hr_o rfl rfl ?_
      have u2 := ur_o (R := sTh R 0) (h := h) (x := c9)
      rw [u2]
      repeat (first | refine go_pure hM rfl ?_ | refine go_get hM rfl hr_o rfl ?_ | refine go_ldc hM rfl ?_)
      refine go_if_eq hM rfl rc (fun h9 => absurd h9 e2) (fun _ => ?_)
      repeat (first | refine go_pure hM rfl ?_ | refine go_get hM rfl hr_o rfl ?_ | refine go_ldc hM rfl ?_)
      exact go_iret hM rfl rfl ⟨by rw [e4], rfl, sTh (sTh R 0) c9, by rw [e3]; exact hx, e1.symm, rfl⟩
    have go98 : ∀ z : Int, (z = 1 ∧ UnW (SS t) k x n) ∨ (z = 0 ∧ ¬ ∃ q, UnW (SS t) q x n) → Go G m_Mod_write (gFin G (qX SS' m h c r) gNo) 98 [some (vR 541), some (vI t), some (vI x), some (vI n), some (vI ((bg SS t + k : Nat) : Int)), none, none, none] [vI z] none (hrx (sTh R 0) h) 0 0 := by
      intro z hz
      repeat (first | refine go_pure hM rfl ?_ | refine go_get hM rfl hr_o rfl ?_ | refine go_ldc hM rfl ?_)
      rcases hz with ⟨rfl, hU⟩ | ⟨rfl, hU⟩
      · have hE : ∃ q, UnW (SS t) q x n := ⟨k, hU⟩
        refine go_if_ne hM rfl (by omega) (fun _ => ?_) (fun h9 => absurd h9 (by omega))
        repeat (first | refine go_pure hM rfl ?_ | refine go_get hM rfl hr_o rfl ?_ | refine go_ldc hM rfl ?_)
        rcases m_isTight (G := G) (N := none) (h := h) (R := sTh R 0) (a := 2) (b := 3) (c := 4) hx.1 hsh ht (by omega) (by omega) (by omega) with ⟨ro, it⟩ | ⟨ro, it⟩
        · rcases hc with ⟨q, _⟩ | ⟨_, q, _⟩ | ⟨_, _, q, _⟩ | ⟨_, _, _, ⟨q, fu, SS1, k2, S2, p1, p2, p3, p4, p5⟩, e1, e2⟩
          · exact absurd hok q
          · exact absurd hE q
          · exact absurd ro q
          · have hqk := uq q p1
            subst hqk
            have hqn := p1.1
            obtain ⟨d1, d2, d3, d4⟩ := rd q hqn
            have c0 := hnn.1 q hqn
            have pu := p1.2
            have c4 : mw (SS t) q = 0 := p1.2.2.2
            refine go_cV hM rfl rfl rfl hr_o rfl it rfl ?_
            refine go_if_eq hM rfl (by omega) (fun _ => ?_) (fun h9 => absurd rfl h9)
            repeat (first | refine go_pure hM rfl ?_ | refine go_get hM rfl hr_o rfl ?_ | refine go_ldc hM rfl ?_)
            refine go_put hM rfl hr_o rfl rfl ?_
            have u2 := ur_o (R := sTh R 0) (h := h) (x := 0)
            rw [u2]
            repeat (first | refine go_pure hM rfl ?_ | refine go_get hM rfl hr_o rfl ?_ | refine go_ldc hM rfl ?_)
            refine go_if_eq hM rfl (by show _ ≤ (0 : Int) ∧ (0 : Int) ≤ _; omega) (fun _ => ?_) (fun h9 => absurd rfl h9)
            have d1' : (sTh (sTh R 0) 0).2.2 1 (bg SS t + q) = ms (SS t) q := d1
            have d3' : (sTh (sTh R 0) 0).2.2 3 (bg SS t + q) = mv (SS t) q := d3
            repeat (first | refine go_pure hM rfl ?_ | refine go_get hM rfl hr_o rfl ?_ | refine go_ldc hM rfl ?_)
            refine go_iald hM rfl hr_V (by omega) (by omega) (by omega) ?_
            rw [tk, d3']
            repeat (first | refine go_pure hM rfl ?_ | refine go_get hM rfl hr_o rfl ?_ | refine go_ldc hM rfl ?_)
            refine go_iald hM rfl hr_S (by omega) (by omega) (by omega) ?_
            rw [tk, d1']
            repeat (first | refine go_pure hM rfl ?_ | refine go_get hM rfl hr_o rfl ?_ | refine go_ldc hM rfl ?_)
            have to := m_takeOut (G := G) (N := none) (h := h) (R := sTh (sTh R 0) 0) ((hx.th 0).th 0) hg ht hok.2.1 hok.2.2.2.1 hok.2.2.2.2 p2
            refine go_callV (mc := 0) (ms := 0) hM rfl rfl rfl hr_o rfl to rfl (fun v9 N9 h9 hq => ?_) (fun _ _ q => q.elim)
            obtain ⟨rfl, rfl, R2, w1, w2, rfl⟩ := hq
            have er := m_enterRun (G := G) (N := none) (h := h) w1 (TO_gd _ _ _ _ _ hg p2) ht ⟨hok.2.1, hok.2.2.2.1, hok.2.2.2.2, Or.inr rfl, by omega, by omega, by omega⟩ p3 p4
            repeat (first | refine go_pure hM rfl ?_ | refine go_get hM rfl hr_o rfl ?_ | refine go_ldc hM rfl ?_)
            rw [show mv (SS t) q + x - ms (SS t) q = mv (SS t) q + (x - ms (SS t) q) by omega]
            refine go_callV (mc := 0) (ms := 0) hM rfl rfl rfl hr_o rfl er rfl (fun v9 N9 h9 hq => ?_) (fun _ _ q => q.elim)
            obtain ⟨rfl, rfl, R3, w3, w4, rfl⟩ := hq
            repeat (first | refine go_pure hM rfl ?_ | refine go_get hM rfl hr_o rfl ?_ | refine go_ldc hM rfl ?_)
            refine go_callV (mc := 0) (ms := 0) hM rfl rfl rfl hr_o rfl (m_shrinkX w3 ht p5) rfl (fun v9 N9 h9 hq => ?_) (fun _ _ q => q.elim)
            obtain ⟨rfl, rfl, R4, w5, w6, rfl⟩ := hq
            repeat (first | refine go_pure hM rfl ?_ | refine go_get hM rfl hr_o rfl ?_ | refine go_ldc hM rfl ?_)
            refine go_cV hM rfl rfl rfl hr_o rfl (m_runs w5.2 ht) rfl ?_
            exact go_iret hM rfl rfl ⟨by rw [e2], rfl, R4, w5, (w6.trans (w4.trans w2)).trans e1.symm, rfl⟩
        · rcases hc with ⟨q, _⟩ | ⟨_, q, _⟩ | ⟨_, _, _, e1, e2, e3⟩ | ⟨_, _, q, _⟩
          · exact absurd hok q
          · exact absurd hE q
          · refine go_cV hM rfl rfl rfl hr_o rfl it rfl ?_
            refine go_if_eq hM rfl (by omega) (fun h9 => absurd h9 (by omega)) (fun _ => ?_)
            have n1 := ex 3 (some (vI 1)) e1 (by omega) e2 e3 (by omega)
            repeat (first | exact n1 | refine go_pure hM rfl ?_ | refine go_get hM rfl hr_o rfl ?_ | refine go_ldc hM rfl ?_)
          · exact absurd q ro
      · refine go_if_ne hM rfl (by omega) (fun h9 => absurd rfl h9) (fun _ => ?_)
        rcases hc with ⟨q, _⟩ | ⟨_, _, e1, e2, e3⟩ | ⟨_, q, _⟩ | ⟨_, q, _⟩
        · exact absurd hok q
        · have n1 := ex 2 (some (vI 0)) e1 (by omega) e2 e3 (by omega)
          repeat (first | exact n1 | refine go_pure hM rfl ?_ | refine go_get hM rfl hr_o rfl ?_ | refine go_ldc hM rfl ?_)
        · exact absurd q hU
        · exact absurd q hU
    have no : (¬ UnW (SS t) k x n) → Go G m_Mod_write (gFin G (qX SS' m h c r) gNo) 97 [some (vR 541), some (vI t), some (vI x), some (vI n), some (vI ((bg SS t + k : Nat) : Int)), none, none, none] [] none (hrx (sTh R 0) h) 0 0 := by
      intro hno
      have n1 := go98 0 (Or.inr ⟨rfl, fun ⟨q, hq⟩ => hno (by rw [← uq q hq]; exact hq)⟩)
      repeat (first | exact n1 | refine go_pure hM rfl ?_ | refine go_get hM rfl hr_o rfl ?_ | refine go_ldc hM rfl ?_)
    repeat (first | refine go_pure hM rfl ?_ | refine go_get hM rfl hr_o rfl ?_ | refine go_ldc hM rfl ?_)
    refine go_iald hM rfl hr_B (by omega) (by omega) (by omega) ?_
    rw [tt1, th0, b2]
    refine go_icmp_ge hM rfl (by omega) (by omega) (fun h9 => no (fun q => by have := q.1; omega)) (fun h9 => ?_)
    obtain ⟨d1, d2, d3, d4⟩ := rd k (by omega)
    have c0 := hnn.1 k (by omega)
    repeat (first | refine go_pure hM rfl ?_ | refine go_get hM rfl hr_o rfl ?_ | refine go_ldc hM rfl ?_)
    refine go_iald hM rfl hr_S (by omega) (by omega) (by omega) ?_
    rw [tk, th0, d1]
    repeat (first | refine go_pure hM rfl ?_ | refine go_get hM rfl hr_o rfl ?_ | refine go_ldc hM rfl ?_)
    refine go_icmp_gt hM rfl (by omega) (by omega) (fun h8 => no (fun q => by have := q.2.1; omega)) (fun h8 => ?_)
    repeat (first | refine go_pure hM rfl ?_ | refine go_get hM rfl hr_o rfl ?_ | refine go_ldc hM rfl ?_)
    refine go_iald hM rfl hr_S (by omega) (by omega) (by omega) ?_
    rw [tk, th0, d1]
    repeat (first | refine go_pure hM rfl ?_ | refine go_get hM rfl hr_o rfl ?_ | refine go_ldc hM rfl ?_)
    refine go_iald hM rfl hr_L (by omega) (by omega) (by omega) ?_
    rw [tk, th0, d2]
    repeat (first | refine go_pure hM rfl ?_ | refine go_get hM rfl hr_o rfl ?_ | refine go_ldc hM rfl ?_)
    refine go_icmp_lt hM rfl (by omega) (by omega) (fun h7 => no (fun q => by have := q.2.2.1; omega)) (fun h7 => ?_)
    repeat (first | refine go_pure hM rfl ?_ | refine go_get hM rfl hr_o rfl ?_ | refine go_ldc hM rfl ?_)
    refine go_zald hM rfl hr_W (by omega) (by omega) (by omega) ?_
    rw [tk, th0, d4]
    refine go_if_ne hM rfl (by omega) (fun h6 => no (fun q => h6 q.2.2.2)) (fun h6 => ?_)
    have n1 := go98 1 (Or.inl ⟨rfl, by omega, by omega, by omega, h6⟩)
    repeat (first | exact n1 | refine go_pure hM rfl ?_ | refine go_get hM rfl hr_o rfl ?_ | refine go_ldc hM rfl ?_)
  · have hno : ¬ okPn f x n := fun q => g1 ⟨q, by omega⟩
    rcases hc with ⟨_, e1, e2, e3⟩ | ⟨q, _⟩ | ⟨q, _⟩ | ⟨q, _⟩
    · refine go_cV hM rfl rfl rfl hr_o rfl g2 rfl ?_
      refine go_if_eq hM rfl (by omega) (fun h9 => absurd h9 (by omega)) (fun _ => ?_)
      repeat (first | refine go_pure hM rfl ?_ | refine go_get hM rfl hr_o rfl ?_ | refine go_ldc hM rfl ?_)
      refine go_put hM rfl hr_o rfl rfl ?_
      have u1 := ur_o (R := R) (h := h) (x := 1)
      rw [u1]
      repeat (first | refine go_pure hM rfl ?_ | refine go_get hM rfl hr_o rfl ?_ | refine go_ldc hM rfl ?_)
      refine go_if_eq hM rfl (by show _ ≤ (1 : Int) ∧ (1 : Int) ≤ _; omega) (fun h9 => absurd h9 (by show ¬ (1 : Int) = 0; omega)) (fun _ => ?_)
      repeat (first | refine go_pure hM rfl ?_ | refine go_get hM rfl hr_o rfl ?_ | refine go_ldc hM rfl ?_)
      exact go_iret hM rfl rfl ⟨by rw [e3], rfl, sTh R 1, by rw [e2]; exact hx, e1.symm, rfl⟩
    · exact absurd q hno
    · exact absurd q hno
    · exact absurd q hno
end
