/-! the law's helpers: a call of the class, its answer or what it threw -/
abbrev eO (f : Nat → Int64) : gE := .inl (1, 1, .inr (.inl f))
def outH (h0 : gH) (fo : Nat → Int64) (c r : Int) : gH := if c = 0 then gU h0 556 (eO (gF fo 0 (Int32.ofInt r).toInt64)) else h0
abbrev lawQ (m : Nat) (h0 : gH) (fo : Nat → Int64) (P : Int → Int → (Nat → mS) → Prop) : Option gV → Option Nat → gH → Prop := fun v9 N' h' => ∃ c r SS' A', v9 = some (vI c) ∧ N' = none ∧ P c r SS' ∧ (0 ≤ c ∧ c ≤ 3) ∧ Cl A' SS' ∧ aM A' = m ∧ h' = hpx A' (outH h0 fo c r)
theorem hp_up {A : cA} {h0 : gH} {a : Nat} {e : gE} (ha : 541 ≤ a) : gU (hpx A h0) a e = hpx A (gU h0 a e) := by
  funext b
  by_cases e1 : b = a
  · rw [e1, gU_s]
    unfold hpx
    rw [if_pos ha, gU_s]
  · rw [gU_n e1]
    unfold hpx
    by_cases e2 : 541 ≤ b
    · rw [if_pos e2, if_pos e2, gU_n e1]
    · rw [if_neg e2, if_neg e2]
theorem hp_out {A : cA} {h0 : gH} {fo : Nat → Int64} (h : h0 556 = some (eO fo)) : hpx A h0 556 = some (eO fo) := by
  unfold hpx
  rw [if_pos (by omega)]
  exact h
def pPut (SS : Nat → mS) (m : Nat) (f x n v w : Int) (c r : Int) (SS' : Nat → mS) : Prop := (¬ okPut f x n v w ∧ c = 1 ∧ SS' = SS ∧ r = 0) ∨ (okPut f x n v w ∧ tpC SS f.toNat m x n v w SS' c ∧ r = if c = 0 then (mn (SS' f.toNat) : Int) else 0)
def pSpr (SS : Nat → mS) (m : Nat) (f x st n v : Int) (c r : Int) (SS' : Nat → mS) : Prop := (¬ okSpr f x st n v ∧ c = 1 ∧ SS' = SS ∧ r = 0) ∨ (okSpr f x st n v ∧ SprO f.toNat m x st v n.toNat 0 SS SS' r ∧ c = 0)
def pPun (SS : Nat → mS) (m : Nat) (f x n : Int) (c r : Int) (SS' : Nat → mS) : Prop := (¬ okPn f x n ∧ c = 1 ∧ SS' = SS ∧ r = 0) ∨ (okPn f x n ∧ ¬ Ro SS f.toNat 1 1 5 ∧ c = 2 ∧ SS' = SS ∧ r = 0) ∨ (okPn f x n ∧ Ro SS f.toNat 1 1 5 ∧ PunO SS f.toNat m x n SS' r ∧ c = 0)
def pStp (SS : Nat → mS) (m : Nat) (f x st n : Int) (c r : Int) (SS' : Nat → mS) : Prop := (¬ ((0 ≤ f ∧ f < 4) ∧ okSer x st n) ∧ c = 1 ∧ SS' = SS ∧ r = 0) ∨ (((0 ≤ f ∧ f < 4) ∧ okSer x st n) ∧ StpO f.toNat m x st n.toNat 0 SS SS' r ∧ c = 0)
def pWr (SS : Nat → mS) (m : Nat) (f x n : Int) (c r : Int) (SS' : Nat → mS) : Prop := (¬ okPn f x n ∧ c = 1 ∧ SS' = SS ∧ r = 0) ∨ (okPn f x n ∧ ¬ (∃ q, UnW (SS f.toNat) q x n) ∧ c = 2 ∧ SS' = SS ∧ r = 0) ∨ (okPn f x n ∧ (∃ q, UnW (SS f.toNat) q x n) ∧ ¬ Ro SS f.toNat 2 3 4 ∧ c = 3 ∧ SS' = SS ∧ r = 0) ∨ (okPn f x n ∧ (∃ q, UnW (SS f.toNat) q x n) ∧ Ro SS f.toNat 2 3 4 ∧ WrO SS f.toNat m x n SS' ∧ c = 0 ∧ r = mn (SS' f.toNat))
def pRd (SS : Nat → mS) (ok : Prop) (z : Int) (c r : Int) (SS' : Nat → mS) : Prop := ((¬ ok ∧ c = 1 ∧ r = 0) ∨ (ok ∧ c = 0 ∧ r = z)) ∧ SS' = SS
def pRb (SS : Nat → mS) (f i : Int) (c r : Int) (SS' : Nat → mS) : Prop := ((¬ (0 ≤ f ∧ f < 4) ∧ c = 1 ∧ r = 0) ∨ ((0 ≤ f ∧ f < 4) ∧ ¬ (0 ≤ i ∧ i < 60) ∧ c = 2 ∧ r = 0) ∨ (((0 ≤ f ∧ f < 4) ∧ 0 ≤ i ∧ i < 60) ∧ c = 0 ∧ r = nBy (SS f.toNat) (md (SS f.toNat)) 0 4 i)) ∧ SS' = SS
def pNb (SS : Nat → mS) (m : Nat) (b i : Int) (c r : Int) (SS' : Nat → mS) : Prop := ((¬ okNb SS b i ∧ c = 1 ∧ r = 0) ∨ (okNb SS b i ∧ c = 0 ∧ ∃ t l p, mOwn SS b.toNat t l p ∧ r = nBy (SS t) l p m i)) ∧ SS' = SS
theorem hk_put_A : gOkH (mN m_Law_put).cls xA 11 (mH m_Law_put) [xA, xS, xU] 0 = true := by decide +kernel
theorem hk_put_S : gOkH (mN m_Law_put).cls xS 11 (mH m_Law_put) [xA, xS, xU] 1 = true := by decide +kernel
theorem hk_put_U : gOkH (mN m_Law_put).cls xU 11 (mH m_Law_put) [xA, xS, xU] 2 = true := by decide +kernel
theorem hk_spread_A : gOkH (mN m_Law_spread).cls xA 11 (mH m_Law_spread) [xA] 0 = true := by decide +kernel
theorem hk_punch_A : gOkH (mN m_Law_punch).cls xA 7 (mH m_Law_punch) [xA, xU] 0 = true := by decide +kernel
theorem hk_punch_U : gOkH (mN m_Law_punch).cls xU 7 (mH m_Law_punch) [xA, xU] 1 = true := by decide +kernel
theorem hk_strip_A : gOkH (mN m_Law_strip).cls xA 9 (mH m_Law_strip) [xA] 0 = true := by decide +kernel
theorem hk_write_A : gOkH (mN m_Law_write).cls xA 7 (mH m_Law_write) [xA, xS, xU] 0 = true := by decide +kernel
theorem hk_write_S : gOkH (mN m_Law_write).cls xS 7 (mH m_Law_write) [xA, xS, xU] 1 = true := by decide +kernel
theorem hk_write_U : gOkH (mN m_Law_write).cls xU 7 (mH m_Law_write) [xA, xS, xU] 2 = true := by decide +kernel
theorem hk_look_A : gOkH (mN m_Law_look).cls xA 5 (mH m_Law_look) [xA] 0 = true := by decide +kernel
theorem hk_written_A : gOkH (mN m_Law_written).cls xA 5 (mH m_Law_written) [xA] 0 = true := by decide +kernel
theorem hk_reach_A : gOkH (mN m_Law_reach).cls xA 5 (mH m_Law_reach) [xA] 0 = true := by decide +kernel
theorem hk_count_A : gOkH (mN m_Law_count).cls xA 5 (mH m_Law_count) [xA] 0 = true := by decide +kernel
theorem hk_rootByte_A : gOkH (mN m_Law_rootByte).cls xA 5 (mH m_Law_rootByte) [xA, xI] 0 = true := by decide +kernel
theorem hk_rootByte_I : gOkH (mN m_Law_rootByte).cls xI 5 (mH m_Law_rootByte) [xA, xI] 1 = true := by decide +kernel
theorem hk_nodeByte_I : gOkH (mN m_Law_nodeByte).cls xI 5 (mH m_Law_nodeByte) [xI] 0 = true := by decide +kernel
section
variable {G : gG} {A : cA} {h0 : gH} {SS : Nat → mS} {fo : Nat → Int64} {f x n v w st b i : Int}
set_option maxHeartbeats 1000000 in
theorem L_put (hc : Cl A SS) (ho : h0 556 = some (eO fo)) (rf : (-2147483648 ≤ f ∧ f ≤ 2147483647)) (rx : (-2147483648 ≤ x ∧ x ≤ 2147483647)) (rn : (-2147483648 ≤ n ∧ n ≤ 2147483647)) (rv : (-2147483648 ≤ v ∧ v ≤ 2147483647)) (hw : w = 0 ∨ w = 1) : Rn G m_Law_put [vR 1, vI f, vI x, vI n, vI v, vI w, vR 556] none (hpx A h0) 1 6 (lawQ (aM A) h0 fo (pPut SS (aM A) f x n v w)) gNo := by
  refine Rn.of rfl rfl rfl ?_
  have hM := ok_Law_put
  repeat (first | refine go_pure hM rfl ?_ | (refine go_get (fs := ?_) (v := ?_) hM rfl ?_ ?_ ?_; rotate_left 2; assumption; rfl) | refine go_ldc hM rfl ?_)
  refine go_callV (mc := 1) (ms := 6) (c := 0) (s := 0) hM rfl rfl rfl hp_et rfl (s_put hc rf rx rn rv hw) rfl (fun v9 N9 h9 hq => ?_) (fun E h9 hq => ?_)
  · obtain ⟨r, SS', A', rfl, rfl, ⟨p1, p2, p3, p4, p5⟩, hCl, hm9, rfl⟩ := hq
    refine go_i2l hM rfl ?_
    refine go_last hM rfl (hp_out ho) (by omega) (by omega) (by omega) ?_
    rw [hp_up (by omega)]
    repeat (first | refine go_pure hM rfl ?_ | (refine go_get (fs := ?_) (v := ?_) hM rfl ?_ ?_ ?_; rotate_left 2; assumption; rfl) | refine go_ldc hM rfl ?_)
    exact go_iret hM rfl rfl ⟨0, r, SS', A', rfl, rfl, Or.inr ⟨p1, Or.inr (Or.inr ⟨p2, p3, rfl, p4⟩), by rw [if_pos rfl]; exact p5⟩, by omega, hCl, hm9, rfl⟩
  · obtain ⟨A', hCl, hm9, rfl, hE⟩ := hq
    rcases hE with ⟨q1, rfl⟩ | ⟨q1, q2, rfl⟩ | ⟨q1, q2, q3, rfl⟩
    · refine gox_catch' 0 hM hk_put_A rfl rfl rfl ?_
      repeat (first | refine go_pure hM rfl ?_ | (refine go_get (fs := ?_) (v := ?_) hM rfl ?_ ?_ ?_; rotate_left 2; assumption; rfl) | refine go_ldc hM rfl ?_)
      exact go_iret hM rfl rfl ⟨1, 0, SS, _, rfl, rfl, Or.inl ⟨q1, rfl, rfl, rfl⟩, by omega, hCl, hm9, rfl⟩
    · refine gox_catch' 1 hM hk_put_S rfl rfl rfl ?_
      repeat (first | refine go_pure hM rfl ?_ | (refine go_get (fs := ?_) (v := ?_) hM rfl ?_ ?_ ?_; rotate_left 2; assumption; rfl) | refine go_ldc hM rfl ?_)
      exact go_iret hM rfl rfl ⟨2, 0, SS, _, rfl, rfl, Or.inr ⟨q1, Or.inl ⟨q2, rfl, rfl⟩, by rw [if_neg (by omega)]⟩, by omega, hCl, hm9, rfl⟩
    · refine gox_catch' 2 hM hk_put_U rfl rfl rfl ?_
      repeat (first | refine go_pure hM rfl ?_ | (refine go_get (fs := ?_) (v := ?_) hM rfl ?_ ?_ ?_; rotate_left 2; assumption; rfl) | refine go_ldc hM rfl ?_)
      exact go_iret hM rfl rfl ⟨3, 0, SS, _, rfl, rfl, Or.inr ⟨q1, Or.inr (Or.inl ⟨q2, q3, rfl, rfl⟩), by rw [if_neg (by omega)]⟩, by omega, hCl, hm9, rfl⟩
set_option maxHeartbeats 1000000 in
theorem L_spread (hc : Cl A SS) (ho : h0 556 = some (eO fo)) (rf : (-2147483648 ≤ f ∧ f ≤ 2147483647)) (rx : (-2147483648 ≤ x ∧ x ≤ 2147483647)) (rst : (-2147483648 ≤ st ∧ st ≤ 2147483647)) (rn : (-2147483648 ≤ n ∧ n ≤ 2147483647)) (rv : (-2147483648 ≤ v ∧ v ≤ 2147483647)) : Rn G m_Law_spread [vR 1, vI f, vI x, vI st, vI n, vI v, vR 556] none (hpx A h0) 1 6 (lawQ (aM A) h0 fo (pSpr SS (aM A) f x st n v)) gNo := by
  refine Rn.of rfl rfl rfl ?_
  have hM := ok_Law_spread
  repeat (first | refine go_pure hM rfl ?_ | (refine go_get (fs := ?_) (v := ?_) hM rfl ?_ ?_ ?_; rotate_left 2; assumption; rfl) | refine go_ldc hM rfl ?_)
  refine go_callV (mc := 1) (ms := 6) (c := 0) (s := 0) hM rfl rfl rfl hp_et rfl (s_spread hc rf rx rst rn rv) rfl (fun v9 N9 h9 hq => ?_) (fun E h9 hq => ?_)
  · obtain ⟨r, SS', A', rfl, rfl, ⟨p1, p2⟩, hCl, hm9, rfl⟩ := hq
    refine go_i2l hM rfl ?_
    refine go_last hM rfl (hp_out ho) (by omega) (by omega) (by omega) ?_
    rw [hp_up (by omega)]
    repeat (first | refine go_pure hM rfl ?_ | (refine go_get (fs := ?_) (v := ?_) hM rfl ?_ ?_ ?_; rotate_left 2; assumption; rfl) | refine go_ldc hM rfl ?_)
    exact go_iret hM rfl rfl ⟨0, r, SS', A', rfl, rfl, Or.inr ⟨p1, p2, rfl⟩, by omega, hCl, hm9, rfl⟩
  · obtain ⟨A', hCl, hm9, rfl, q1, rfl⟩ := hq
    refine gox_catch' 0 hM hk_spread_A rfl rfl rfl ?_
    repeat (first | refine go_pure hM rfl ?_ | (refine go_get (fs := ?_) (v := ?_) hM rfl ?_ ?_ ?_; rotate_left 2; assumption; rfl) | refine go_ldc hM rfl ?_)
    exact go_iret hM rfl rfl ⟨1, 0, SS, _, rfl, rfl, Or.inl ⟨q1, rfl, rfl, rfl⟩, by omega, hCl, hm9, rfl⟩
set_option maxHeartbeats 1000000 in
theorem L_punch (hc : Cl A SS) (ho : h0 556 = some (eO fo)) (rf : (-2147483648 ≤ f ∧ f ≤ 2147483647)) (rx : (-2147483648 ≤ x ∧ x ≤ 2147483647)) (rn : (-2147483648 ≤ n ∧ n ≤ 2147483647)) : Rn G m_Law_punch [vR 1, vI f, vI x, vI n, vR 556] none (hpx A h0) 1 6 (lawQ (aM A) h0 fo (pPun SS (aM A) f x n)) gNo := by
  refine Rn.of rfl rfl rfl ?_
  have hM := ok_Law_punch
  repeat (first | refine go_pure hM rfl ?_ | (refine go_get (fs := ?_) (v := ?_) hM rfl ?_ ?_ ?_; rotate_left 2; assumption; rfl) | refine go_ldc hM rfl ?_)
  refine go_callV (mc := 1) (ms := 6) (c := 0) (s := 0) hM rfl rfl rfl hp_et rfl (s_punch hc rf rx rn) rfl (fun v9 N9 h9 hq => ?_) (fun E h9 hq => ?_)
  · obtain ⟨r, SS', A', rfl, rfl, ⟨p1, p2, p3⟩, hCl, hm9, rfl⟩ := hq
    refine go_i2l hM rfl ?_
    refine go_last hM rfl (hp_out ho) (by omega) (by omega) (by omega) ?_
    rw [hp_up (by omega)]
    repeat (first | refine go_pure hM rfl ?_ | (refine go_get (fs := ?_) (v := ?_) hM rfl ?_ ?_ ?_; rotate_left 2; assumption; rfl) | refine go_ldc hM rfl ?_)
    exact go_iret hM rfl rfl ⟨0, r, SS', A', rfl, rfl, Or.inr (Or.inr ⟨p1, p2, p3, rfl⟩), by omega, hCl, hm9, rfl⟩
  · obtain ⟨A', hCl, hm9, rfl, hE⟩ := hq
    rcases hE with ⟨q1, rfl⟩ | ⟨q1, q2, rfl⟩
    · refine gox_catch' 0 hM hk_punch_A rfl rfl rfl ?_
      repeat (first | refine go_pure hM rfl ?_ | (refine go_get (fs := ?_) (v := ?_) hM rfl ?_ ?_ ?_; rotate_left 2; assumption; rfl) | refine go_ldc hM rfl ?_)
      exact go_iret hM rfl rfl ⟨1, 0, SS, _, rfl, rfl, Or.inl ⟨q1, rfl, rfl, rfl⟩, by omega, hCl, hm9, rfl⟩
    · refine gox_catch' 1 hM hk_punch_U rfl rfl rfl ?_
      repeat (first | refine go_pure hM rfl ?_ | (refine go_get (fs := ?_) (v := ?_) hM rfl ?_ ?_ ?_; rotate_left 2; assumption; rfl) | refine go_ldc hM rfl ?_)
      exact go_iret hM rfl rfl ⟨2, 0, SS, _, rfl, rfl, Or.inr (Or.inl ⟨q1, q2, rfl, rfl, rfl⟩), by omega, hCl, hm9, rfl⟩
set_option maxHeartbeats 1000000 in
theorem L_strip (hc : Cl A SS) (ho : h0 556 = some (eO fo)) (rf : (-2147483648 ≤ f ∧ f ≤ 2147483647)) (rx : (-2147483648 ≤ x ∧ x ≤ 2147483647)) (rst : (-2147483648 ≤ st ∧ st ≤ 2147483647)) (rn : (-2147483648 ≤ n ∧ n ≤ 2147483647)) : Rn G m_Law_strip [vR 1, vI f, vI x, vI st, vI n, vR 556] none (hpx A h0) 1 6 (lawQ (aM A) h0 fo (pStp SS (aM A) f x st n)) gNo := by
  refine Rn.of rfl rfl rfl ?_
  have hM := ok_Law_strip
  repeat (first | refine go_pure hM rfl ?_ | (refine go_get (fs := ?_) (v := ?_) hM rfl ?_ ?_ ?_; rotate_left 2; assumption; rfl) | refine go_ldc hM rfl ?_)
  refine go_callV (mc := 1) (ms := 6) (c := 0) (s := 0) hM rfl rfl rfl hp_et rfl (s_strip hc rf rx rst rn) rfl (fun v9 N9 h9 hq => ?_) (fun E h9 hq => ?_)
  · obtain ⟨r, SS', A', rfl, rfl, ⟨p1, p2⟩, hCl, hm9, rfl⟩ := hq
    refine go_i2l hM rfl ?_
    refine go_last hM rfl (hp_out ho) (by omega) (by omega) (by omega) ?_
    rw [hp_up (by omega)]
    repeat (first | refine go_pure hM rfl ?_ | (refine go_get (fs := ?_) (v := ?_) hM rfl ?_ ?_ ?_; rotate_left 2; assumption; rfl) | refine go_ldc hM rfl ?_)
    exact go_iret hM rfl rfl ⟨0, r, SS', A', rfl, rfl, Or.inr ⟨p1, p2, rfl⟩, by omega, hCl, hm9, rfl⟩
  · obtain ⟨A', hCl, hm9, rfl, q1, rfl⟩ := hq
    refine gox_catch' 0 hM hk_strip_A rfl rfl rfl ?_
    repeat (first | refine go_pure hM rfl ?_ | (refine go_get (fs := ?_) (v := ?_) hM rfl ?_ ?_ ?_; rotate_left 2; assumption; rfl) | refine go_ldc hM rfl ?_)
    exact go_iret hM rfl rfl ⟨1, 0, SS, _, rfl, rfl, Or.inl ⟨q1, rfl, rfl, rfl⟩, by omega, hCl, hm9, rfl⟩
set_option maxHeartbeats 1000000 in
theorem L_write (hc : Cl A SS) (ho : h0 556 = some (eO fo)) (rf : (-2147483648 ≤ f ∧ f ≤ 2147483647)) (rx : (-2147483648 ≤ x ∧ x ≤ 2147483647)) (rn : (-2147483648 ≤ n ∧ n ≤ 2147483647)) : Rn G m_Law_write [vR 1, vI f, vI x, vI n, vR 556] none (hpx A h0) 1 6 (lawQ (aM A) h0 fo (pWr SS (aM A) f x n)) gNo := by
  refine Rn.of rfl rfl rfl ?_
  have hM := ok_Law_write
  repeat (first | refine go_pure hM rfl ?_ | (refine go_get (fs := ?_) (v := ?_) hM rfl ?_ ?_ ?_; rotate_left 2; assumption; rfl) | refine go_ldc hM rfl ?_)
  refine go_callV (mc := 1) (ms := 6) (c := 0) (s := 0) hM rfl rfl rfl hp_et rfl (s_write hc rf rx rn) rfl (fun v9 N9 h9 hq => ?_) (fun E h9 hq => ?_)
  · obtain ⟨r, SS', A', rfl, rfl, ⟨p1, p2, p3, p4, p5⟩, hCl, hm9, rfl⟩ := hq
    refine go_i2l hM rfl ?_
    refine go_last hM rfl (hp_out ho) (by omega) (by omega) (by omega) ?_
    rw [hp_up (by omega)]
    repeat (first | refine go_pure hM rfl ?_ | (refine go_get (fs := ?_) (v := ?_) hM rfl ?_ ?_ ?_; rotate_left 2; assumption; rfl) | refine go_ldc hM rfl ?_)
    exact go_iret hM rfl rfl ⟨0, r, SS', A', rfl, rfl, Or.inr (Or.inr (Or.inr ⟨p1, p2, p3, p4, rfl, p5⟩)), by omega, hCl, hm9, rfl⟩
  · obtain ⟨A', hCl, hm9, rfl, hE⟩ := hq
    rcases hE with ⟨q1, rfl⟩ | ⟨q1, q2, rfl⟩ | ⟨q1, q2, q3, rfl⟩
    · refine gox_catch' 0 hM hk_write_A rfl rfl rfl ?_
      repeat (first | refine go_pure hM rfl ?_ | (refine go_get (fs := ?_) (v := ?_) hM rfl ?_ ?_ ?_; rotate_left 2; assumption; rfl) | refine go_ldc hM rfl ?_)
      exact go_iret hM rfl rfl ⟨1, 0, SS, _, rfl, rfl, Or.inl ⟨q1, rfl, rfl, rfl⟩, by omega, hCl, hm9, rfl⟩
    · refine gox_catch' 1 hM hk_write_S rfl rfl rfl ?_
      repeat (first | refine go_pure hM rfl ?_ | (refine go_get (fs := ?_) (v := ?_) hM rfl ?_ ?_ ?_; rotate_left 2; assumption; rfl) | refine go_ldc hM rfl ?_)
      exact go_iret hM rfl rfl ⟨2, 0, SS, _, rfl, rfl, Or.inr (Or.inl ⟨q1, q2, rfl, rfl, rfl⟩), by omega, hCl, hm9, rfl⟩
    · refine gox_catch' 2 hM hk_write_U rfl rfl rfl ?_
      repeat (first | refine go_pure hM rfl ?_ | (refine go_get (fs := ?_) (v := ?_) hM rfl ?_ ?_ ?_; rotate_left 2; assumption; rfl) | refine go_ldc hM rfl ?_)
      exact go_iret hM rfl rfl ⟨3, 0, SS, _, rfl, rfl, Or.inr (Or.inr (Or.inl ⟨q1, q2, q3, rfl, rfl, rfl⟩)), by omega, hCl, hm9, rfl⟩
set_option maxHeartbeats 1000000 in
theorem L_look (hc : Cl A SS) (ho : h0 556 = some (eO fo)) (rf : (-2147483648 ≤ f ∧ f ≤ 2147483647)) (rb : (-2147483648 ≤ b ∧ b ≤ 2147483647)) : Rn G m_Law_look [vR 1, vI f, vI b, vR 556] none (hpx A h0) 1 6 (lawQ (aM A) h0 fo (pRd SS (okFB f b) (lookS (SS f.toNat) b))) gNo := by
  refine Rn.of rfl rfl rfl ?_
  have hM := ok_Law_look
  repeat (first | refine go_pure hM rfl ?_ | (refine go_get (fs := ?_) (v := ?_) hM rfl ?_ ?_ ?_; rotate_left 2; assumption; rfl) | refine go_ldc hM rfl ?_)
  refine go_callV (mc := 1) (ms := 6) (c := 0) (s := 0) hM rfl rfl rfl hp_et rfl (s_look hc rf rb) rfl (fun v9 N9 h9 hq => ?_) (fun E h9 hq => ?_)
  · obtain ⟨p1, rfl, rfl, A', hCl, hm9, rfl⟩ := hq
    refine go_i2l hM rfl ?_
    refine go_last hM rfl (hp_out ho) (by omega) (by omega) (by omega) ?_
    rw [hp_up (by omega)]
    repeat (first | refine go_pure hM rfl ?_ | (refine go_get (fs := ?_) (v := ?_) hM rfl ?_ ?_ ?_; rotate_left 2; assumption; rfl) | refine go_ldc hM rfl ?_)
    exact go_iret hM rfl rfl ⟨0, _, SS, A', rfl, rfl, ⟨Or.inr ⟨p1, rfl, rfl⟩, rfl⟩, by omega, hCl, hm9, rfl⟩
  · obtain ⟨q1, rfl, rfl⟩ := hq
    have hCl := hc
    have hm9 : aM A = aM A := rfl
    refine gox_catch' 0 hM hk_look_A rfl rfl rfl ?_
    repeat (first | refine go_pure hM rfl ?_ | (refine go_get (fs := ?_) (v := ?_) hM rfl ?_ ?_ ?_; rotate_left 2; assumption; rfl) | refine go_ldc hM rfl ?_)
    exact go_iret hM rfl rfl ⟨1, 0, SS, _, rfl, rfl, ⟨Or.inl ⟨q1, rfl, rfl⟩, rfl⟩, by omega, hCl, hm9, rfl⟩
set_option maxHeartbeats 1000000 in
theorem L_reach (hc : Cl A SS) (ho : h0 556 = some (eO fo)) (rf : (-2147483648 ≤ f ∧ f ≤ 2147483647)) (rb : (-2147483648 ≤ b ∧ b ≤ 2147483647)) : Rn G m_Law_reach [vR 1, vI f, vI b, vR 556] none (hpx A h0) 1 6 (lawQ (aM A) h0 fo (pRd SS (okFB f b) (rchS (SS f.toNat) b))) gNo := by
  refine Rn.of rfl rfl rfl ?_
  have hM := ok_Law_reach
  repeat (first | refine go_pure hM rfl ?_ | (refine go_get (fs := ?_) (v := ?_) hM rfl ?_ ?_ ?_; rotate_left 2; assumption; rfl) | refine go_ldc hM rfl ?_)
  refine go_callV (mc := 1) (ms := 6) (c := 0) (s := 0) hM rfl rfl rfl hp_et rfl (s_reach hc rf rb) rfl (fun v9 N9 h9 hq => ?_) (fun E h9 hq => ?_)
  · obtain ⟨p1, rfl, rfl, A', hCl, hm9, rfl⟩ := hq
    refine go_i2l hM rfl ?_
    refine go_last hM rfl (hp_out ho) (by omega) (by omega) (by omega) ?_
    rw [hp_up (by omega)]
    repeat (first | refine go_pure hM rfl ?_ | (refine go_get (fs := ?_) (v := ?_) hM rfl ?_ ?_ ?_; rotate_left 2; assumption; rfl) | refine go_ldc hM rfl ?_)
    exact go_iret hM rfl rfl ⟨0, _, SS, A', rfl, rfl, ⟨Or.inr ⟨p1, rfl, rfl⟩, rfl⟩, by omega, hCl, hm9, rfl⟩
  · obtain ⟨q1, rfl, rfl⟩ := hq
    have hCl := hc
    have hm9 : aM A = aM A := rfl
    refine gox_catch' 0 hM hk_reach_A rfl rfl rfl ?_
    repeat (first | refine go_pure hM rfl ?_ | (refine go_get (fs := ?_) (v := ?_) hM rfl ?_ ?_ ?_; rotate_left 2; assumption; rfl) | refine go_ldc hM rfl ?_)
    exact go_iret hM rfl rfl ⟨1, 0, SS, _, rfl, rfl, ⟨Or.inl ⟨q1, rfl, rfl⟩, rfl⟩, by omega, hCl, hm9, rfl⟩
set_option maxHeartbeats 1000000 in
theorem L_count (hc : Cl A SS) (ho : h0 556 = some (eO fo)) (rf : (-2147483648 ≤ f ∧ f ≤ 2147483647)) (rw : (-2147483648 ≤ w ∧ w ≤ 2147483647)) : Rn G m_Law_count [vR 1, vI f, vI w, vR 556] none (hpx A h0) 1 6 (lawQ (aM A) h0 fo (pRd SS ((0 ≤ f ∧ f < 4) ∧ 0 ≤ w ∧ w ≤ 5) (cntS (SS f.toNat) w))) gNo := by
  refine Rn.of rfl rfl rfl ?_
  have hM := ok_Law_count
  repeat (first | refine go_pure hM rfl ?_ | (refine go_get (fs := ?_) (v := ?_) hM rfl ?_ ?_ ?_; rotate_left 2; assumption; rfl) | refine go_ldc hM rfl ?_)
  refine go_callV (mc := 1) (ms := 6) (c := 0) (s := 0) hM rfl rfl rfl hp_et rfl (s_count hc rf rw) rfl (fun v9 N9 h9 hq => ?_) (fun E h9 hq => ?_)
  · obtain ⟨p1, rfl, rfl, A', hCl, hm9, rfl⟩ := hq
    refine go_i2l hM rfl ?_
    refine go_last hM rfl (hp_out ho) (by omega) (by omega) (by omega) ?_
    rw [hp_up (by omega)]
    repeat (first | refine go_pure hM rfl ?_ | (refine go_get (fs := ?_) (v := ?_) hM rfl ?_ ?_ ?_; rotate_left 2; assumption; rfl) | refine go_ldc hM rfl ?_)
    exact go_iret hM rfl rfl ⟨0, _, SS, A', rfl, rfl, ⟨Or.inr ⟨p1, rfl, rfl⟩, rfl⟩, by omega, hCl, hm9, rfl⟩
  · obtain ⟨q1, rfl, rfl⟩ := hq
    have hCl := hc
    have hm9 : aM A = aM A := rfl
    refine gox_catch' 0 hM hk_count_A rfl rfl rfl ?_
    repeat (first | refine go_pure hM rfl ?_ | (refine go_get (fs := ?_) (v := ?_) hM rfl ?_ ?_ ?_; rotate_left 2; assumption; rfl) | refine go_ldc hM rfl ?_)
    exact go_iret hM rfl rfl ⟨1, 0, SS, _, rfl, rfl, ⟨Or.inl ⟨q1, rfl, rfl⟩, rfl⟩, by omega, hCl, hm9, rfl⟩
set_option maxHeartbeats 1000000 in
theorem L_rootByte (hc : Cl A SS) (ho : h0 556 = some (eO fo)) (rf : (-2147483648 ≤ f ∧ f ≤ 2147483647)) (ri : (-2147483648 ≤ i ∧ i ≤ 2147483647)) : Rn G m_Law_rootByte [vR 1, vI f, vI i, vR 556] none (hpx A h0) 1 6 (lawQ (aM A) h0 fo (pRb SS f i)) gNo := by
  refine Rn.of rfl rfl rfl ?_
  have hM := ok_Law_rootByte
  repeat (first | refine go_pure hM rfl ?_ | (refine go_get (fs := ?_) (v := ?_) hM rfl ?_ ?_ ?_; rotate_left 2; assumption; rfl) | refine go_ldc hM rfl ?_)
  refine go_callV (mc := 1) (ms := 6) (c := 0) (s := 0) hM rfl rfl rfl hp_et rfl (s_rootByte hc rf ri) rfl (fun v9 N9 h9 hq => ?_) (fun E h9 hq => ?_)
  · obtain ⟨p1, rfl, rfl, A', hCl, hm9, rfl⟩ := hq
    refine go_i2l hM rfl ?_
    refine go_last hM rfl (hp_out ho) (by omega) (by omega) (by omega) ?_
    rw [hp_up (by omega)]
    repeat (first | refine go_pure hM rfl ?_ | (refine go_get (fs := ?_) (v := ?_) hM rfl ?_ ?_ ?_; rotate_left 2; assumption; rfl) | refine go_ldc hM rfl ?_)
    exact go_iret hM rfl rfl ⟨0, _, SS, A', rfl, rfl, ⟨Or.inr (Or.inr ⟨p1, rfl, rfl⟩), rfl⟩, by omega, hCl, hm9, rfl⟩
  · obtain ⟨A', hCl, hm9, rfl, hE⟩ := hq
    rcases hE with ⟨q1, rfl⟩ | ⟨q1, q2, rfl⟩
    · refine gox_catch' 0 hM hk_rootByte_A rfl rfl rfl ?_
      repeat (first | refine go_pure hM rfl ?_ | (refine go_get (fs := ?_) (v := ?_) hM rfl ?_ ?_ ?_; rotate_left 2; assumption; rfl) | refine go_ldc hM rfl ?_)
      exact go_iret hM rfl rfl ⟨1, 0, SS, _, rfl, rfl, ⟨Or.inl ⟨q1, rfl, rfl⟩, rfl⟩, by omega, hCl, hm9, rfl⟩
    · refine gox_catch' 1 hM hk_rootByte_I rfl rfl rfl ?_
      repeat (first | refine go_pure hM rfl ?_ | (refine go_get (fs := ?_) (v := ?_) hM rfl ?_ ?_ ?_; rotate_left 2; assumption; rfl) | refine go_ldc hM rfl ?_)
      exact go_iret hM rfl rfl ⟨2, 0, SS, _, rfl, rfl, ⟨Or.inr (Or.inl ⟨q1, q2, rfl, rfl⟩), rfl⟩, by omega, hCl, hm9, rfl⟩
set_option maxHeartbeats 1000000 in
theorem L_nodeByte (hc : Cl A SS) (ho : h0 556 = some (eO fo)) (rb : (-2147483648 ≤ b ∧ b ≤ 2147483647)) (ri : (-2147483648 ≤ i ∧ i ≤ 2147483647)) : Rn G m_Law_nodeByte [vR 1, vI b, vI i, vR 556] none (hpx A h0) 1 6 (lawQ (aM A) h0 fo (pNb SS (aM A) b i)) gNo := by
  refine Rn.of rfl rfl rfl ?_
  have hM := ok_Law_nodeByte
  repeat (first | refine go_pure hM rfl ?_ | (refine go_get (fs := ?_) (v := ?_) hM rfl ?_ ?_ ?_; rotate_left 2; assumption; rfl) | refine go_ldc hM rfl ?_)
  refine go_callV (mc := 1) (ms := 6) (c := 0) (s := 0) hM rfl rfl rfl hp_et rfl (s_nodeByte hc rb ri) rfl (fun v9 N9 h9 hq => ?_) (fun E h9 hq => ?_)
  · obtain ⟨p1, ⟨t, l, p, p2, rfl⟩, rfl, rfl⟩ := hq
    refine go_i2l hM rfl ?_
    refine go_last hM rfl (hp_out ho) (by omega) (by omega) (by omega) ?_
    rw [hp_up (by omega)]
    repeat (first | refine go_pure hM rfl ?_ | (refine go_get (fs := ?_) (v := ?_) hM rfl ?_ ?_ ?_; rotate_left 2; assumption; rfl) | refine go_ldc hM rfl ?_)
    exact go_iret hM rfl rfl ⟨0, _, SS, A, rfl, rfl, ⟨Or.inr ⟨p1, rfl, t, l, p, p2, rfl⟩, rfl⟩, by omega, hc, rfl, rfl⟩
  · obtain ⟨q1, rfl, rfl⟩ := hq
    have hCl := hc
    have hm9 : aM A = aM A := rfl
    refine gox_catch' 0 hM hk_nodeByte_I rfl rfl rfl ?_
    repeat (first | refine go_pure hM rfl ?_ | (refine go_get (fs := ?_) (v := ?_) hM rfl ?_ ?_ ?_; rotate_left 2; assumption; rfl) | refine go_ldc hM rfl ?_)
    exact go_iret hM rfl rfl ⟨1, 0, SS, _, rfl, rfl, ⟨Or.inl ⟨q1, rfl, rfl⟩, rfl⟩, by omega, hCl, hm9, rfl⟩
set_option maxHeartbeats 1000000 in
theorem L_written (hc : Cl A SS) (ho : h0 556 = some (eO fo)) (rf : (-2147483648 ≤ f ∧ f ≤ 2147483647)) (rb : (-2147483648 ≤ b ∧ b ≤ 2147483647)) : Rn G m_Law_written [vR 1, vI f, vI b, vR 556] none (hpx A h0) 1 6 (lawQ (aM A) h0 fo (pRd SS (okFB f b) (wrtS (SS f.toNat) b))) gNo := by
  refine Rn.of rfl rfl rfl ?_
  have hM := ok_Law_written
  repeat (first | refine go_pure hM rfl ?_ | (refine go_get (fs := ?_) (v := ?_) hM rfl ?_ ?_ ?_; rotate_left 2; assumption; rfl) | refine go_ldc hM rfl ?_)
  refine go_callV (mc := 1) (ms := 6) (c := 0) (s := 0) hM rfl rfl rfl hp_et rfl (s_written hc rf rb) rfl (fun v9 N9 h9 hq => ?_) (fun E h9 hq => ?_)
  · obtain ⟨p1, rfl, rfl, A', hCl, hm9, rfl⟩ := hq
    have w01 : wrtS (SS f.toNat) b = 0 ∨ wrtS (SS f.toNat) b = 1 := by
      unfold wrtS
      split
      · exact Or.inr rfl
      · exact Or.inl rfl
    have fin : ∀ z : Int64, z = (Int32.ofInt (wrtS (SS f.toNat) b)).toInt64 → Go G m_Law_written (gFin G (lawQ (aM A) h0 fo (pRd SS (okFB f b) (wrtS (SS f.toNat) b))) gNo) 16 [some (vR 1), some (vI f), some (vI b), some (vR 556), none] [vL z, vI 0, vR 556] none (hpx A' h0) 0 0 := by
      intro z hz
      rw [hz]
      refine go_last hM rfl (hp_out ho) (by omega) (by omega) (by omega) ?_
      rw [hp_up (by omega)]
      repeat (first | refine go_pure hM rfl ?_ | (refine go_get (fs := ?_) (v := ?_) hM rfl ?_ ?_ ?_; rotate_left 2; assumption; rfl) | refine go_ldc hM rfl ?_)
      exact go_iret hM rfl rfl ⟨0, _, SS, A', rfl, rfl, ⟨Or.inr ⟨p1, rfl, rfl⟩, rfl⟩, by omega, hCl, hm9, rfl⟩
    refine go_if_eq hM rfl (by omega) (fun h8 => ?_) (fun h8 => ?_)
    · refine go_lconst hM rfl ?_
      exact fin _ (by rw [h8]; rfl)
    · have h7 : wrtS (SS f.toNat) b = 1 := by omega
      refine go_lconst hM rfl ?_
      have n1 := fin (Int64.ofNat 1) (by rw [h7]; rfl)
      repeat (first | exact n1 | refine go_pure hM rfl ?_ | (refine go_get (fs := ?_) (v := ?_) hM rfl ?_ ?_ ?_; rotate_left 2; assumption; rfl) | refine go_ldc hM rfl ?_)
  · obtain ⟨q1, rfl, rfl⟩ := hq
    have hCl := hc
    have hm9 : aM A = aM A := rfl
    refine gox_catch' 0 hM hk_written_A rfl rfl rfl ?_
    repeat (first | refine go_pure hM rfl ?_ | (refine go_get (fs := ?_) (v := ?_) hM rfl ?_ ?_ ?_; rotate_left 2; assumption; rfl) | refine go_ldc hM rfl ?_)
    exact go_iret hM rfl rfl ⟨1, 0, SS, _, rfl, rfl, ⟨Or.inl ⟨q1, rfl, rfl⟩, rfl⟩, by omega, hCl, hm9, rfl⟩
end
