/-! the reference: spread, punch, strip, write -/
section
variable {G : gG} {N : Option Nat} {h : gH} {R : rA} {SS SS' : Nat → mS} {S : mS} {t m k : Nat} {f x n v w st c r o : Int}
theorem StO.gd (h : StO SS t m SS') : Gd SS' m := by
  obtain ⟨j, _, _, e, g⟩ := h
  rw [e]
  exact g j (Nat.le_refl _)
/-- shrink, with the runs -/
theorem m_shrinkX (hx : RX R SS m) (ht : t < 4) (hE : StO SS t m SS') : Rn G m_Mod_shrink [vR 541, vI t] N (hrx R h) 0 0 (fun v N' h' => v = none ∧ N' = N ∧ ∃ R', RX R' SS' m ∧ R'.1 = R.1 ∧ h' = hrx R' h) gNo := by
  refine Rn.imp (m_shrink hx.1 ht hE) (fun v9 N9 h9 hq => ?_)
  obtain ⟨e1, e2, R4, w1, w2, w3, e3⟩ := hq
  obtain ⟨j, _, _, j3, _⟩ := hE
  refine ⟨e1, e2, R4, ⟨w1, ?_⟩, w3, e3⟩
  rw [j3]
  refine RR.congr (R' := R4) hx.2 (stM_run j).1 ht (fun i _ => ?_) w2
  obtain ⟨_, q2, q3, q4, q5⟩ := stM_run (S := SS t) (t := t) j
  rw [q2, q3, q4, q5]
  exact ⟨rfl, rfl, rfl, rfl⟩
set_option maxHeartbeats 4000000 in
theorem spr_loop {Q9 : Option gV → Option Nat → gH → Prop} {X : String → gH → Prop} {y6 : Option gV} (ht : t < 4) (hs : okSer x st n) (hv : 1 ≤ v ∧ v ≤ 16777216 ∧ v + (2 * n - 1) ≤ 16777217) : ∀ (q : Nat) (SS : Nat → mS) (R : rA) (i : Int), i + q = n → 0 ≤ i → RX R SS m → Gd SS m → R.1 = 0 → SprO t m x st v q i SS SS' r → (∀ R', RX R' SS' m → R'.1 = 0 → Q9 (some (vI r)) none (hrx R' h)) → Go G m_Mod_spread (gFin G Q9 X) 63 [some (vR 541), some (vI t), some (vI x), some (vI st), some (vI n), some (vI v), y6, some (vI i)] [] none (hrx R h) 0 0 := by
  have hM := ok_Mod_spread
  have rs := hs.1
  have rn := hs.2.1
  intro q
  induction q with
  | zero =>
    intro SS R i e1 e2 hx hg h0 hS hQ
    obtain ⟨rfl, rfl⟩ := hS
    repeat (first | refine go_pure hM rfl ?_ | refine go_get hM rfl hr_o rfl ?_ | refine go_ldc hM rfl ?_)
    rw [h0]
    refine go_if_ne hM rfl (by omega) (fun h9 => absurd rfl h9) (fun _ => ?_)
    repeat (first | refine go_pure hM rfl ?_ | refine go_get hM rfl hr_o rfl ?_ | refine go_ldc hM rfl ?_)
    refine go_icmp_ge hM rfl (by omega) (by omega) (fun _ => ?_) (fun h9 => absurd h9 (by omega))
    repeat (first | refine go_pure hM rfl ?_ | refine go_get hM rfl hr_o rfl ?_ | refine go_ldc hM rfl ?_)
    exact go_iret hM rfl rfl (hQ R hx h0)
  | succ q ih =>
    intro SS R i e1 e2 hx hg h0 hS hQ
    obtain ⟨b1, b2⟩ := ser_r hs e2 (by omega)
    have ho : rOk (x + i * st) 1 (v + 2 * i) 1 := ⟨by omega, by omega, by omega, Or.inr rfl, by omega, by omega, by omega⟩
    have cm : x + st * i = x + i * st := by rw [Int.mul_comm]
    repeat (first | refine go_pure hM rfl ?_ | refine go_get hM rfl hr_o rfl ?_ | refine go_ldc hM rfl ?_)
    rw [h0]
    refine go_if_ne hM rfl (by omega) (fun h9 => absurd rfl h9) (fun _ => ?_)
    repeat (first | refine go_pure hM rfl ?_ | refine go_get hM rfl hr_o rfl ?_ | refine go_ldc hM rfl ?_)
    refine go_icmp_ge hM rfl (by omega) (by omega) (fun h9 => absurd h9 (by omega)) (fun _ => ?_)
    repeat (first | refine go_pure hM rfl ?_ | refine go_get hM rfl hr_o rfl ?_ | refine go_ldc hM rfl ?_)
    rw [cm]
    rcases hS with ⟨z1, z2, z3⟩ | ⟨z1, z2, SS1, z3, z4⟩
    · have tp : ∃ c, tpC SS t m (x + i * st) 1 (v + 2 * i) 1 SS c ∧ c ≠ 0 ∧ 0 ≤ c ∧ c ≤ 3 := by
        by_cases hF : ∃ k, Fr (SS t) k (x + i * st) 1
        · exact ⟨3, Or.inr (Or.inl ⟨hF, fun q => z1 ⟨hF, q⟩, rfl, rfl⟩), by omega, by omega, by omega⟩
        · exact ⟨2, Or.inl ⟨hF, rfl, rfl⟩, by omega, by omega, by omega⟩
      obtain ⟨c, tp, c1, c2, c3⟩ := tp
      have tr := m_tryPut (G := G) (N := none) (h := h) hx hg ht ho tp
      refine go_callV (mc := 0) (ms := 0) hM rfl rfl rfl hr_o rfl tr rfl (fun v9 N9 h9 hq => ?_) (fun _ _ q => q.elim)
      obtain ⟨rfl, rfl, R2, w1, w2, rfl⟩ := hq
      refine go_if_ne hM rfl (by omega) (fun _ => ?_) (fun h8 => absurd h8 c1)
      repeat (first | refine go_pure hM rfl ?_ | refine go_get hM rfl hr_o rfl ?_ | refine go_ldc hM rfl ?_)
      have := hQ R2 (by rw [z2]; exact w1) (w2.trans h0)
      rw [z3] at this
      exact go_iret hM rfl rfl this
    · have tr := m_tryPut (G := G) (N := none) (h := h) (c := 0) hx hg ht ho (Or.inr (Or.inr ⟨z1, z2, rfl, z3⟩))
      refine go_callV (mc := 0) (ms := 0) hM rfl rfl rfl hr_o rfl tr rfl (fun v9 N9 h9 hq => ?_) (fun _ _ q => q.elim)
      obtain ⟨rfl, rfl, R2, w1, w2, rfl⟩ := hq
      refine go_if_ne hM rfl (by omega) (fun h8 => absurd rfl h8) (fun _ => ?_)
      obtain ⟨k9, S9, _, _, so⟩ := z3
      have nx := ih SS1 R2 (i + 1) (by omega) (by omega) w1 so.gd (w2.trans h0) z4 hQ
      repeat (first | exact nx | refine go_pure hM rfl ?_ | refine go_get hM rfl hr_o rfl ?_ | refine go_ldc hM rfl ?_)
set_option maxHeartbeats 4000000 in
theorem m_spread (hx : RX R SS m) (hg : Gd SS m) (rf : (-2147483648 ≤ f ∧ f ≤ 2147483647)) (rx : (-2147483648 ≤ x ∧ x ≤ 2147483647)) (rs : (-2147483648 ≤ st ∧ st ≤ 2147483647)) (rn : (-2147483648 ≤ n ∧ n ≤ 2147483647)) (rv : (-2147483648 ≤ v ∧ v ≤ 2147483647)) (hc : (¬ okSpr f x st n v ∧ c = 1 ∧ SS' = SS ∧ r = 0) ∨ (okSpr f x st n v ∧ SprO f.toNat m x st v n.toNat 0 SS SS' r ∧ c = 0)) : Rn G m_Mod_spread [vR 541, vI f, vI x, vI st, vI n, vI v] N (hrx R h) 0 0 (qX SS' m h c r) gNo := by
  refine Rn.of rfl rfl rfl ?_
  have hM := ok_Mod_spread
  have go57 : ∀ z : Int, (z = 1 ∧ ¬ okSpr f x st n v) ∨ (z = 0 ∧ okSpr f x st n v) → ∀ y6, Go G m_Mod_spread (gFin G (qX SS' m h c r) gNo) 57 [some (vR 541), some (vI f), some (vI x), some (vI st), some (vI n), some (vI v), y6, none] [vI z, vR 541] none (hrx R h) 0 0 := by
    intro z hz y6
    have u1 := ur_o (R := R) (h := h) (x := z)
    rcases hz with ⟨rfl, hno⟩ | ⟨rfl, hok⟩
    · rcases hc with ⟨_, e1, e2, e3⟩ | ⟨q, _⟩
      · refine go_put hM rfl hr_o rfl rfl ?_
        rw [u1]
        repeat (first | refine go_pure hM rfl ?_ | refine go_get hM rfl hr_o rfl ?_ | refine go_ldc hM rfl ?_)
        refine go_if_ne hM rfl (by show _ ≤ (1 : Int) ∧ (1 : Int) ≤ _; omega) (fun _ => ?_) (fun h9 => absurd h9 (by show ¬ (1 : Int) = 0; omega))
        repeat (first | refine go_pure hM rfl ?_ | refine go_get hM rfl hr_o rfl ?_ | refine go_ldc hM rfl ?_)
        exact go_iret hM rfl rfl ⟨by rw [e3], rfl, sTh R 1, by rw [e2]; exact hx, e1.symm, rfl⟩
      · exact absurd q hno
    · rcases hc with ⟨q, _⟩ | ⟨_, e1, e2⟩
      · exact absurd hok q
      · have hok' := hok
        obtain ⟨hf, hs, hv⟩ := hok'
        obtain ⟨t, rfl⟩ : ∃ t : Nat, f = t := ⟨f.toNat, by omega⟩
        rw [show ((t : Nat) : Int).toNat = t by omega] at e1
        have hn := hs.2.1
        have nx := spr_loop (G := G) (h := h) (t := t) (Q9 := qX SS' m h c r) (X := gNo) (y6 := y6) (by omega) hs hv n.toNat SS (sTh R 0) 0 (by omega) (Int.le_refl _) (hx.th 0) hg rfl e1 (fun R' w1 w2 => ⟨rfl, rfl, R', w1, w2.trans e2.symm, rfl⟩)
        refine go_put hM rfl hr_o rfl rfl ?_
        rw [u1]
        repeat (first | exact nx | refine go_pure hM rfl ?_ | refine go_get hM rfl hr_o rfl ?_ | refine go_ldc hM rfl ?_)
  have go30 : ∀ z : Int, (z = 1 ∧ ¬ okSpr f x st n v) ∨ (z = 0 ∧ ((0 ≤ f ∧ f < 4) ∧ okSer x st n) ∧ 1 ≤ v ∧ v ≤ 16777216) → Go G m_Mod_spread (gFin G (qX SS' m h c r) gNo) 30 [some (vR 541), some (vI f), some (vI x), some (vI st), some (vI n), some (vI v), none, none] [vI z] none (hrx R h) 0 0 := by
    intro z hz
    repeat (first | refine go_pure hM rfl ?_ | refine go_get hM rfl hr_o rfl ?_ | refine go_ldc hM rfl ?_)
    rcases hz with ⟨rfl, hno⟩ | ⟨rfl, q1, q2, q3⟩
    · refine go_if_ne hM rfl (by omega) (fun _ => ?_) (fun h9 => absurd h9 (by omega))
      have n1 := go57 1 (Or.inl ⟨rfl, hno⟩) (some (vI 1))
      repeat (first | exact n1 | refine go_pure hM rfl ?_ | refine go_get hM rfl hr_o rfl ?_ | refine go_ldc hM rfl ?_)
    · have hn := q1.2.2.1
      refine go_if_ne hM rfl (by omega) (fun h9 => absurd rfl h9) (fun _ => ?_)
      repeat (first | refine go_pure hM rfl ?_ | refine go_get hM rfl hr_o rfl ?_ | refine go_ldc hM rfl ?_)
      refine go_icmp_le hM rfl (by omega) (by omega) (fun h9 => ?_) (fun h9 => ?_)
      · have n1 := go57 0 (Or.inr ⟨rfl, q1.1, q1.2, q2, q3, by omega⟩) (some (vI 0))
        repeat (first | exact n1 | refine go_pure hM rfl ?_ | refine go_get hM rfl hr_o rfl ?_ | refine go_ldc hM rfl ?_)
      · have n1 := go57 1 (Or.inl ⟨rfl, fun q => by have := q.2.2.2.2; omega⟩) (some (vI 0))
        repeat (first | exact n1 | refine go_pure hM rfl ?_ | refine go_get hM rfl hr_o rfl ?_ | refine go_ldc hM rfl ?_)
  have bad : ¬ okSpr f x st n v → Go G m_Mod_spread (gFin G (qX SS' m h c r) gNo) 25 [some (vR 541), some (vI f), some (vI x), some (vI st), some (vI n), some (vI v), none, none] [] none (hrx R h) 0 0 := by
    intro hno
    have n1 := go30 1 (Or.inl ⟨rfl, hno⟩)
    repeat (first | exact n1 | refine go_pure hM rfl ?_ | refine go_get hM rfl hr_o rfl ?_ | refine go_ldc hM rfl ?_)
  refine go_drop ?_
  repeat (first | refine go_pure hM rfl ?_ | refine go_get hM rfl hr_o rfl ?_ | refine go_ldc hM rfl ?_)
  rcases m_noSteps (G := G) (N := none) (h := h) (R := R) rf rx rs rn with ⟨g1, g2⟩ | ⟨g1, g2⟩
  · refine go_cV hM rfl rfl rfl hr_o rfl g2 rfl ?_
    refine go_if_ne hM rfl (by omega) (fun h9 => absurd rfl h9) (fun _ => ?_)
    repeat (first | refine go_pure hM rfl ?_ | refine go_get hM rfl hr_o rfl ?_ | refine go_ldc hM rfl ?_)
    refine go_icmp_lt hM rfl rv (by omega) (fun h9 => bad (fun q => by have := q.2.2; omega)) (fun g3 => ?_)
    repeat (first | refine go_pure hM rfl ?_ | refine go_get hM rfl hr_o rfl ?_ | refine go_ldc hM rfl ?_)
    refine go_icmp_le hM rfl rv (by omega) (fun g4 => ?_) (fun h9 => bad (fun q => by have := q.2.2; omega))
    have n1 := go30 0 (Or.inr ⟨rfl, g1, by omega, by omega⟩)
    repeat (first | exact n1 | refine go_pure hM rfl ?_ | refine go_get hM rfl hr_o rfl ?_ | refine go_ldc hM rfl ?_)
  · refine go_cV hM rfl rfl rfl hr_o rfl g2 rfl ?_
    exact go_if_ne hM rfl (by omega) (fun _ => bad (fun q => g1 ⟨q.1, q.2.1⟩)) (fun h9 => absurd h9 (by omega))
set_option maxHeartbeats 4000000 in
theorem m_punch (hx : RX R SS m) (hg : Gd SS m) (rf : (-2147483648 ≤ f ∧ f ≤ 2147483647)) (rx : (-2147483648 ≤ x ∧ x ≤ 2147483647)) (rn : (-2147483648 ≤ n ∧ n ≤ 2147483647)) (hc : (¬ okPn f x n ∧ c = 1 ∧ SS' = SS ∧ r = 0) ∨ (okPn f x n ∧ ¬ Ro SS f.toNat 1 1 5 ∧ c = 2 ∧ SS' = SS ∧ r = 0) ∨ (okPn f x n ∧ Ro SS f.toNat 1 1 5 ∧ PunO SS f.toNat m x n SS' r ∧ c = 0)) : Rn G m_Mod_punch [vR 541, vI f, vI x, vI n] N (hrx R h) 0 0 (qX SS' m h c r) gNo := by
  refine Rn.of rfl rfl rfl ?_
  have hM := ok_Mod_punch
  have ex : ∀ (R2 : rA) (c9 : Int), RX R2 SS' m → R2.1 = c → c ≠ 0 → r = 0 → (-2147483648 ≤ c ∧ c ≤ 2147483647) → Go G m_Mod_punch (gFin G (qX SS' m h c r) gNo) 52 [some (vR 541), some (vI f), some (vI x), some (vI n), none] [] none (hrx R2 h) 0 0 := by
    intro R2 c9 x2 e1 e2 e3 rc
    repeat (first | refine go_pure hM rfl ?_ | refine go_get hM rfl hr_o rfl ?_ | refine go_ldc hM rfl ?_)
    rw [e1]
    refine go_if_eq hM rfl rc (fun h9 => absurd h9 e2) (fun _ => ?_)
    repeat (first | refine go_pure hM rfl ?_ | refine go_get hM rfl hr_o rfl ?_ | refine go_ldc hM rfl ?_)
    exact go_iret hM rfl rfl ⟨by rw [e3], rfl, R2, x2, e1, rfl⟩
  refine go_drop ?_
  repeat (first | refine go_pure hM rfl ?_ | refine go_get hM rfl hr_o rfl ?_ | refine go_ldc hM rfl ?_)
  rcases m_noRange (G := G) (N := none) (h := h) (R := R) (L := 65536) rf rx rn (by omega) with ⟨g1, g2⟩ | ⟨g1, g2⟩
  · have hok : okPn f x n := g1.1
    obtain ⟨t, rfl⟩ : ∃ t : Nat, f = t := ⟨f.toNat, by omega⟩
    have ht : t < 4 := by omega
    have e0 : ((t : Nat) : Int).toNat = t := by omega
    rw [e0] at hc
    refine go_cV hM rfl rfl rfl hr_o rfl g2 rfl ?_
    refine go_if_eq hM rfl (by omega) (fun _ => ?_) (fun h9 => absurd rfl h9)
    repeat (first | refine go_pure hM rfl ?_ | refine go_get hM rfl hr_o rfl ?_ | refine go_ldc hM rfl ?_)
    refine go_put hM rfl hr_o rfl rfl ?_
    have u1 := ur_o (R := R) (h := h) (x := 0)
    rw [u1]
    repeat (first | refine go_pure hM rfl ?_ | refine go_get hM rfl hr_o rfl ?_ | refine go_ldc hM rfl ?_)
    refine go_if_eq hM rfl (by show _ ≤ (0 : Int) ∧ (0 : Int) ≤ _; omega) (fun _ => ?_) (fun h9 => absurd rfl h9)
    repeat (first | refine go_pure hM rfl ?_ | refine go_get hM rfl hr_o rfl ?_ | refine go_ldc hM rfl ?_)
    rcases m_isTight (G := G) (N := none) (h := h) (R := sTh R 0) (a := 1) (b := 1) (c := 5) hx.1 (hg.2.1 t ht).1 ht (by omega) (by omega) (by omega) with ⟨ro, it⟩ | ⟨ro, it⟩
    · rcases hc with ⟨q, _⟩ | ⟨_, q, _⟩ | ⟨_, _, ⟨fu, SS1, p1, p2⟩, e2⟩
      · exact absurd hok q
      · exact absurd ro q
      · refine go_cV hM rfl rfl rfl hr_o rfl it rfl ?_
        refine go_if_eq hM rfl (by omega) (fun _ => ?_) (fun h9 => absurd rfl h9)
        repeat (first | refine go_pure hM rfl ?_ | refine go_get hM rfl hr_o rfl ?_ | refine go_ldc hM rfl ?_)
        refine go_put hM rfl hr_o rfl rfl ?_
        have u2 := ur_o (R := sTh R 0) (h := h) (x := 0)
        rw [u2]
        repeat (first | refine go_pure hM rfl ?_ | refine go_get hM rfl hr_o rfl ?_ | refine go_ldc hM rfl ?_)
        refine go_if_eq hM rfl (by show _ ≤ (0 : Int) ∧ (0 : Int) ≤ _; omega) (fun _ => ?_) (fun h9 => absurd rfl h9)
        repeat (first | refine go_pure hM rfl ?_ | refine go_get hM rfl hr_o rfl ?_ | refine go_ldc hM rfl ?_)
        have to := m_takeOut (G := G) (N := none) (h := h) (R := sTh (sTh R 0) 0) ((hx.th 0).th 0) hg ht hok.2.1 hok.2.2.2.1 hok.2.2.2.2 p1
        refine go_callV (mc := 0) (ms := 0) hM rfl rfl rfl hr_o rfl to rfl (fun v9 N9 h9 hq => ?_) (fun _ _ q => q.elim)
        obtain ⟨rfl, rfl, R2, w1, w2, rfl⟩ := hq
        repeat (first | refine go_pure hM rfl ?_ | refine go_get hM rfl hr_o rfl ?_ | refine go_ldc hM rfl ?_)
        refine go_callV (mc := 0) (ms := 0) hM rfl rfl rfl hr_o rfl (m_shrinkX w1 ht p2) rfl (fun v9 N9 h9 hq => ?_) (fun _ _ q => q.elim)
        obtain ⟨rfl, rfl, R3, w3, w4, rfl⟩ := hq
        repeat (first | refine go_pure hM rfl ?_ | refine go_get hM rfl hr_o rfl ?_ | refine go_ldc hM rfl ?_)
        exact go_iret hM rfl rfl ⟨rfl, rfl, R3, w3, (w4.trans w2).trans e2.symm, rfl⟩
    · rcases hc with ⟨q, _⟩ | ⟨_, _, e1, e2, e3⟩ | ⟨_, q, _⟩
      · exact absurd hok q
      · refine go_cV hM rfl rfl rfl hr_o rfl it rfl ?_
        refine go_if_eq hM rfl (by omega) (fun h9 => absurd h9 (by omega)) (fun _ => ?_)
        repeat (first | refine go_pure hM rfl ?_ | refine go_get hM rfl hr_o rfl ?_ | refine go_ldc hM rfl ?_)
        refine go_put hM rfl hr_o rfl rfl ?_
        have u2 := ur_o (R := sTh R 0) (h := h) (x := 2)
        rw [u2]
        exact ex (sTh (sTh R 0) 2) 2 (by rw [e2]; exact hx) e1.symm (by omega) e3 (by omega)
      · exact absurd q ro
  · have hno : ¬ okPn f x n := fun q => g1 ⟨q, by omega⟩
    rcases hc with ⟨_, e1, e2, e3⟩ | ⟨q, _⟩ | ⟨q, _⟩
    · refine go_cV hM rfl rfl rfl hr_o rfl g2 rfl ?_
      refine go_if_eq hM rfl (by omega) (fun h9 => absurd h9 (by omega)) (fun _ => ?_)
      repeat (first | refine go_pure hM rfl ?_ | refine go_get hM rfl hr_o rfl ?_ | refine go_ldc hM rfl ?_)
      refine go_put hM rfl hr_o rfl rfl ?_
      have u1 := ur_o (R := R) (h := h) (x := 1)
      rw [u1]
      repeat (first | refine go_pure hM rfl ?_ | refine go_get hM rfl hr_o rfl ?_ | refine go_ldc hM rfl ?_)
      refine go_if_eq hM rfl (by show _ ≤ (1 : Int) ∧ (1 : Int) ≤ _; omega) (fun h9 => absurd h9 (by show ¬ (1 : Int) = 0; omega)) (fun _ => ?_)
      repeat (first | refine go_pure hM rfl ?_ | refine go_get hM rfl hr_o rfl ?_ | refine go_ldc hM rfl ?_)
      refine go_put hM rfl hr_o rfl rfl ?_
      have u2 := ur_o (R := sTh R 1) (h := h) (x := 1)
      rw [u2]
      exact ex (sTh (sTh R 1) 1) 1 (by rw [e2]; exact hx) e1.symm (by omega) e3 (by omega)
    · exact absurd q hno
    · exact absurd q hno
end
