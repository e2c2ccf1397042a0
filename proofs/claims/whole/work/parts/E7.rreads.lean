/-! the reference: look, written, reach, free -/
section
variable {G : gG} {N : Option Nat} {h : gH} {R : rA} {SS : Nat → mS} {S : mS} {t m k : Nat} {f b c r : Int}
/-- the run that has a block, by what lies before it -/
theorem bh_look (hr : mRn S) (hk : Bh S k b) : (k < mn S ∧ ms S k ≤ b → lsS S b = (k : Int)) ∧ (¬ (k < mn S ∧ ms S k ≤ b) → lsS S b = (k : Int) - 1 ∧ (0 < k → ms S (k - 1) + ml S (k - 1) ≤ b)) := by
  have hkl := hk.1
  refine ⟨fun h9 => ?_, fun h9 => ⟨?_, fun h0 => hk.2.1 (k - 1) (by omega)⟩⟩
  · have := ls_is (k := k + 1) (b := b) hr (by omega) (fun p hp => by
      by_cases e : p = k
      · rw [e]
        exact h9.2
      · have := hr.lt (show p < k by omega) h9.1
        omega) (fun h8 => by
      have h1 := hr.2 k h8
      have h2 := hk.2.2 k (Nat.le_refl _) h9.1
      omega)
    omega
  · exact ls_is hr hkl (fun p hp => by
      have h1 := hk.2.1 p hp
      have h2 := (hr.1 p (by omega)).2.1
      omega) (fun h8 => by
      have : ¬ ms S k ≤ b := fun z => h9 ⟨h8, z⟩
      omega)
theorem look_bh (hr : mRn S) (hk : Bh S k b) (hb : 0 ≤ b) : lookS S b = if k < mn S ∧ ms S k ≤ b then mv S k + b - ms S k else -1 := by
  obtain ⟨h1, h2⟩ := bh_look hr hk
  unfold lookS
  by_cases e : k < mn S ∧ ms S k ≤ b
  · have l : lsR (ms S) b (mn S) = (k : Int) := h1 e
    have h3 := hk.2.2 k (Nat.le_refl _) e.1
    rw [if_pos e, l, show ((k : Nat) : Int).toNat = k by omega, if_pos ⟨by omega, h3⟩]
    omega
  · have l : lsR (ms S) b (mn S) = (k : Int) - 1 := (h2 e).1
    rw [if_neg e, l, if_neg ?_]
    rintro ⟨g1, g2⟩
    have := (h2 e).2 (by omega)
    rw [show ((k : Int) - 1).toNat = k - 1 by omega] at g2
    omega
theorem wrt_bh (hr : mRn S) (hk : Bh S k b) : wrtS S b = if (k < mn S ∧ ms S k ≤ b) ∧ mw S k = 1 then 1 else 0 := by
  obtain ⟨h1, h2⟩ := bh_look hr hk
  unfold wrtS
  by_cases e : k < mn S ∧ ms S k ≤ b
  · have l : lsR (ms S) b (mn S) = (k : Int) := h1 e
    have h3 := hk.2.2 k (Nat.le_refl _) e.1
    rw [l, show ((k : Nat) : Int).toNat = k by omega]
    by_cases e2 : mw S k = 1
    · rw [if_pos ⟨⟨by omega, h3⟩, e2⟩, if_pos ⟨e, e2⟩]
    · rw [if_neg (fun z => e2 z.2), if_neg (fun z => e2 z.2)]
  · have l : lsR (ms S) b (mn S) = (k : Int) - 1 := (h2 e).1
    rw [if_neg (show ¬ ((k < mn S ∧ ms S k ≤ b) ∧ mw S k = 1) from fun z => e z.1), l, if_neg ?_]
    rintro ⟨⟨g1, g2⟩, _⟩
    have := (h2 e).2 (by omega)
    rw [show ((k : Int) - 1).toNat = k - 1 by omega] at g2
    omega
theorem rch_bh (hr : mRn S) (hk : Bh S k b) : rchS S b = (if k = mn S then 65536 else if ms S k ≤ b then ms S k + ml S k else ms S k) - b := by
  obtain ⟨h1, h2⟩ := bh_look hr hk
  have hkl := hk.1
  unfold rchS
  by_cases e : k < mn S ∧ ms S k ≤ b
  · have l : lsR (ms S) b (mn S) = (k : Int) := h1 e
    have h3 := hk.2.2 k (Nat.le_refl _) e.1
    rw [l, show ((k : Nat) : Int).toNat = k by omega, if_pos ⟨by omega, h3⟩, if_neg (by omega), if_pos e.2]
  · have l : lsR (ms S) b (mn S) = (k : Int) - 1 := (h2 e).1
    rw [l, if_neg ?_]
    · by_cases e2 : k = mn S
      · rw [if_neg (by omega), if_pos e2]
      · rw [if_pos (by omega), if_neg e2, if_neg (fun z => e ⟨by omega, z⟩), show ((k : Int) - 1 + 1).toNat = k by omega]
    · rintro ⟨g1, g2⟩
      have := (h2 e).2 (by omega)
      rw [show ((k : Int) - 1).toNat = k - 1 by omega] at g2
      omega
set_option maxHeartbeats 2000000 in
theorem m_look (hx : RX R SS m) (hg : Gd SS m) (rf : (-2147483648 ≤ f ∧ f ≤ 2147483647)) (rb : (-2147483648 ≤ b ∧ b ≤ 2147483647)) (hc : (¬ okFB f b ∧ c = 1 ∧ r = 0) ∨ (okFB f b ∧ c = 0 ∧ r = lookS (SS f.toNat) b)) : Rn G m_Mod_look [vR 541, vI f, vI b] N (hrx R h) 0 0 (qX SS m h c r) gNo := by
  refine Rn.of rfl rfl rfl ?_
  have hM := ok_Mod_look
  refine go_drop ?_
  repeat (first | refine go_pure hM rfl ?_ | refine go_get hM rfl hr_o rfl ?_ | refine go_ldc hM rfl ?_)
  rcases m_noBlock (G := G) (N := none) (h := h) (R := R) rf rb with ⟨g1, g2⟩ | ⟨g1, g2⟩
  · rcases hc with ⟨q, _⟩ | ⟨_, e1, e2⟩
    · exact absurd g1 q
    · obtain ⟨t, rfl⟩ : ∃ t : Nat, f = t := ⟨f.toNat, by omega⟩
      have ht : t < 4 := by omega
      rw [show ((t : Nat) : Int).toNat = t by omega] at e2
      have hnn := (hg.2.1 t ht).2
      obtain ⟨k, hk⟩ := bh_ex hnn b
      have hkle := hk.1
      rw [look_bh hnn hk (by omega)] at e2
      obtain ⟨r1, r2, r3⟩ := hx.2
      have bt := bg_le (SS := SS) ht
      have b2 : R.2.2 0 (t + 1) = ((bg SS t + mn (SS t) : Nat) : Int) := r2 (t + 1) (by omega)
      have tt1 : (((t : Nat) : Int) + 1).toNat = t + 1 := by omega
      have tk : ((bg SS t + k : Nat) : Int).toNat = bg SS t + k := by omega
      have th0 : ∀ j, (sTh R 0).2.2 j = R.2.2 j := fun j => rfl
      have rd : ∀ p, p < mn (SS t) → R.2.2 1 (bg SS t + p) = ms (SS t) p ∧ R.2.2 2 (bg SS t + p) = ml (SS t) p ∧ R.2.2 3 (bg SS t + p) = mv (SS t) p ∧ R.2.2 4 (bg SS t + p) = mw (SS t) p := r3 t ht
      have no : r = -1 → Go G m_Mod_look (gFin G (qX SS m h c r) gNo) 74 [some (vR 541), some (vI t), some (vI b), some (vI ((bg SS t + k : Nat) : Int))] [] none (hrx (sTh R 0) h) 0 0 := by
        intro hr
        repeat (first | refine go_pure hM rfl ?_ | refine go_get hM rfl hr_o rfl ?_ | refine go_ldc hM rfl ?_)
        exact go_iret hM rfl rfl ⟨by rw [hr], rfl, sTh R 0, hx.th 0, e1.symm, rfl⟩
      refine go_cV hM rfl rfl rfl hr_o rfl g2 rfl ?_
      refine go_if_eq hM rfl (by omega) (fun _ => ?_) (fun h9 => absurd rfl h9)
      repeat (first | refine go_pure hM rfl ?_ | refine go_get hM rfl hr_o rfl ?_ | refine go_ldc hM rfl ?_)
      refine go_put hM rfl hr_o rfl rfl ?_
      have u1 := ur_o (R := R) (h := h) (x := 0)
      rw [u1]
      repeat (first | refine go_pure hM rfl ?_ | refine go_get hM rfl hr_o rfl ?_ | refine go_ldc hM rfl ?_)
      refine go_if_eq hM rfl (by show _ ≤ (0 : Int) ∧ (0 : Int) ≤ _; omega) (fun _ => ?_) (fun h9 => absurd rfl h9)
      repeat (first | refine go_pure hM rfl ?_ | refine go_get hM rfl hr_o rfl ?_ | refine go_ldc hM rfl ?_)
      refine go_cV hM rfl rfl rfl hr_o rfl (m_behind (R := sTh R 0) hx.2 hnn ht hk (by omega)) rfl ?_
      repeat (first | refine go_pure hM rfl ?_ | refine go_get hM rfl hr_o rfl ?_ | refine go_ldc hM rfl ?_)
      refine go_iald hM rfl hr_B (by omega) (by omega) (by omega) ?_
      rw [tt1, th0, b2]
      refine go_icmp_ge hM rfl (by omega) (by omega) (fun h9 => no (by rw [e2, if_neg (by omega)])) (fun h9 => ?_)
      obtain ⟨d1, d2, d3, d4⟩ := rd k (by omega)
      have c0 := hnn.1 k (by omega)
      repeat (first | refine go_pure hM rfl ?_ | refine go_get hM rfl hr_o rfl ?_ | refine go_ldc hM rfl ?_)
      refine go_iald hM rfl hr_S (by omega) (by omega) (by omega) ?_
      rw [tk, th0, d1]
      repeat (first | refine go_pure hM rfl ?_ | refine go_get hM rfl hr_o rfl ?_ | refine go_ldc hM rfl ?_)
      refine go_icmp_gt hM rfl (by omega) (by omega) (fun h8 => no (by rw [e2, if_neg (by omega)])) (fun h8 => ?_)
      repeat (first | refine go_pure hM rfl ?_ | refine go_get hM rfl hr_o rfl ?_ | refine go_ldc hM rfl ?_)
      refine go_iald hM rfl hr_V (by omega) (by omega) (by omega) ?_
      rw [tk, th0, d3]
      repeat (first | refine go_pure hM rfl ?_ | refine go_get hM rfl hr_o rfl ?_ | refine go_ldc hM rfl ?_)
      refine go_iald hM rfl hr_S (by omega) (by omega) (by omega) ?_
      rw [tk, th0, d1]
      repeat (first | refine go_pure hM rfl ?_ | refine go_get hM rfl hr_o rfl ?_ | refine go_ldc hM rfl ?_)
      exact go_iret hM rfl rfl ⟨by rw [e2, if_pos ⟨by omega, by omega⟩], rfl, sTh R 0, hx.th 0, e1.symm, rfl⟩
  · rcases hc with ⟨_, e1, e3⟩ | ⟨q, _⟩
    · refine go_cV hM rfl rfl rfl hr_o rfl g2 rfl ?_
      refine go_if_eq hM rfl (by omega) (fun h9 => absurd h9 (by omega)) (fun _ => ?_)
      repeat (first | refine go_pure hM rfl ?_ | refine go_get hM rfl hr_o rfl ?_ | refine go_ldc hM rfl ?_)
      refine go_put hM rfl hr_o rfl rfl ?_
      have u1 := ur_o (R := R) (h := h) (x := 1)
      rw [u1]
      repeat (first | refine go_pure hM rfl ?_ | refine go_get hM rfl hr_o rfl ?_ | refine go_ldc hM rfl ?_)
      refine go_if_eq hM rfl (by show _ ≤ (1 : Int) ∧ (1 : Int) ≤ _; omega) (fun h9 => absurd h9 (by show ¬ (1 : Int) = 0; omega)) (fun _ => ?_)
      repeat (first | refine go_pure hM rfl ?_ | refine go_get hM rfl hr_o rfl ?_ | refine go_ldc hM rfl ?_)
      exact go_iret hM rfl rfl ⟨by rw [e3], rfl, sTh R 1, hx.th 1, e1.symm, rfl⟩
    · exact absurd q g1
set_option maxHeartbeats 2000000 in
theorem m_written (hx : RX R SS m) (hg : Gd SS m) (rf : (-2147483648 ≤ f ∧ f ≤ 2147483647)) (rb : (-2147483648 ≤ b ∧ b ≤ 2147483647)) (hc : (¬ okFB f b ∧ c = 1 ∧ r = 0) ∨ (okFB f b ∧ c = 0 ∧ r = wrtS (SS f.toNat) b)) : Rn G m_Mod_written [vR 541, vI f, vI b] N (hrx R h) 0 0 (qX SS m h c r) gNo := by
  refine Rn.of rfl rfl rfl ?_
  have hM := ok_Mod_written
  refine go_drop ?_
  repeat (first | refine go_pure hM rfl ?_ | refine go_get hM rfl hr_o rfl ?_ | refine go_ldc hM rfl ?_)
  rcases m_noBlock (G := G) (N := none) (h := h) (R := R) rf rb with ⟨g1, g2⟩ | ⟨g1, g2⟩
  · rcases hc with ⟨q, _⟩ | ⟨_, e1, e2⟩
    · exact absurd g1 q
    · obtain ⟨t, rfl⟩ : ∃ t : Nat, f = t := ⟨f.toNat, by omega⟩
      have ht : t < 4 := by omega
      rw [show ((t : Nat) : Int).toNat = t by omega] at e2
      have hnn := (hg.2.1 t ht).2
      obtain ⟨k, hk⟩ := bh_ex hnn b
      have hkle := hk.1
      rw [wrt_bh hnn hk] at e2
      obtain ⟨r1, r2, r3⟩ := hx.2
      have bt := bg_le (SS := SS) ht
      have b2 : R.2.2 0 (t + 1) = ((bg SS t + mn (SS t) : Nat) : Int) := r2 (t + 1) (by omega)
      have tt1 : (((t : Nat) : Int) + 1).toNat = t + 1 := by omega
      have tk : ((bg SS t + k : Nat) : Int).toNat = bg SS t + k := by omega
      have th0 : ∀ j, (sTh R 0).2.2 j = R.2.2 j := fun j => rfl
      have rd : ∀ p, p < mn (SS t) → R.2.2 1 (bg SS t + p) = ms (SS t) p ∧ R.2.2 2 (bg SS t + p) = ml (SS t) p ∧ R.2.2 3 (bg SS t + p) = mv (SS t) p ∧ R.2.2 4 (bg SS t + p) = mw (SS t) p := r3 t ht
      have no : r = 0 → Go G m_Mod_written (gFin G (qX SS m h c r) gNo) 69 [some (vR 541), some (vI t), some (vI b), some (vI ((bg SS t + k : Nat) : Int))] [] none (hrx (sTh R 0) h) 0 0 := by
        intro hr
        repeat (first | refine go_pure hM rfl ?_ | refine go_get hM rfl hr_o rfl ?_ | refine go_ldc hM rfl ?_)
        exact go_zret hM rfl rfl (Or.inl rfl) ⟨by rw [hr], rfl, sTh R 0, hx.th 0, e1.symm, rfl⟩
      refine go_cV hM rfl rfl rfl hr_o rfl g2 rfl ?_
      refine go_if_eq hM rfl (by omega) (fun _ => ?_) (fun h9 => absurd rfl h9)
      repeat (first | refine go_pure hM rfl ?_ | refine go_get hM rfl hr_o rfl ?_ | refine go_ldc hM rfl ?_)
      refine go_put hM rfl hr_o rfl rfl ?_
      have u1 := ur_o (R := R) (h := h) (x := 0)
      rw [u1]
      repeat (first | refine go_pure hM rfl ?_ | refine go_get hM rfl hr_o rfl ?_ | refine go_ldc hM rfl ?_)
      refine go_if_eq hM rfl (by show _ ≤ (0 : Int) ∧ (0 : Int) ≤ _; omega) (fun _ => ?_) (fun h9 => absurd rfl h9)
      repeat (first | refine go_pure hM rfl ?_ | refine go_get hM rfl hr_o rfl ?_ | refine go_ldc hM rfl ?_)
      refine go_cV hM rfl rfl rfl hr_o rfl (m_behind (R := sTh R 0) hx.2 hnn ht hk (by omega)) rfl ?_
      repeat (first | refine go_pure hM rfl ?_ | refine go_get hM rfl hr_o rfl ?_ | refine go_ldc hM rfl ?_)
      refine go_iald hM rfl hr_B (by omega) (by omega) (by omega) ?_
      rw [tt1, th0, b2]
      refine go_icmp_ge hM rfl (by omega) (by omega) (fun h9 => no (by rw [e2, if_neg (by omega)])) (fun h9 => ?_)
      obtain ⟨d1, d2, d3, d4⟩ := rd k (by omega)
      have c0 := hnn.1 k (by omega)
      repeat (first | refine go_pure hM rfl ?_ | refine go_get hM rfl hr_o rfl ?_ | refine go_ldc hM rfl ?_)
      refine go_iald hM rfl hr_S (by omega) (by omega) (by omega) ?_
      rw [tk, th0, d1]
      repeat (first | refine go_pure hM rfl ?_ | refine go_get hM rfl hr_o rfl ?_ | refine go_ldc hM rfl ?_)
      refine go_icmp_gt hM rfl (by omega) (by omega) (fun h8 => no (by rw [e2, if_neg (by omega)])) (fun h8 => ?_)
      repeat (first | refine go_pure hM rfl ?_ | refine go_get hM rfl hr_o rfl ?_ | refine go_ldc hM rfl ?_)
      refine go_zald hM rfl hr_W (by omega) (by omega) (by omega) ?_
      rw [tk, th0, d4]
      refine go_if_eq hM rfl (by omega) (fun h7 => no (by rw [e2, if_neg (by omega)])) (fun h7 => ?_)
      repeat (first | refine go_pure hM rfl ?_ | refine go_get hM rfl hr_o rfl ?_ | refine go_ldc hM rfl ?_)
      exact go_zret hM rfl rfl (Or.inr rfl) ⟨by rw [e2, if_pos ⟨⟨by omega, by omega⟩, by omega⟩], rfl, sTh R 0, hx.th 0, e1.symm, rfl⟩
  · rcases hc with ⟨_, e1, e3⟩ | ⟨q, _⟩
    · refine go_cV hM rfl rfl rfl hr_o rfl g2 rfl ?_
      refine go_if_eq hM rfl (by omega) (fun h9 => absurd h9 (by omega)) (fun _ => ?_)
      repeat (first | refine go_pure hM rfl ?_ | refine go_get hM rfl hr_o rfl ?_ | refine go_ldc hM rfl ?_)
      refine go_put hM rfl hr_o rfl rfl ?_
      have u1 := ur_o (R := R) (h := h) (x := 1)
      rw [u1]
      repeat (first | refine go_pure hM rfl ?_ | refine go_get hM rfl hr_o rfl ?_ | refine go_ldc hM rfl ?_)
      refine go_if_eq hM rfl (by show _ ≤ (1 : Int) ∧ (1 : Int) ≤ _; omega) (fun h9 => absurd h9 (by show ¬ (1 : Int) = 0; omega)) (fun _ => ?_)
      repeat (first | refine go_pure hM rfl ?_ | refine go_get hM rfl hr_o rfl ?_ | refine go_ldc hM rfl ?_)
      exact go_zret hM rfl rfl (Or.inl rfl) ⟨by rw [e3], rfl, sTh R 1, hx.th 1, e1.symm, rfl⟩
    · exact absurd q g1
set_option maxHeartbeats 2000000 in
theorem m_reach (hx : RX R SS m) (hg : Gd SS m) (rf : (-2147483648 ≤ f ∧ f ≤ 2147483647)) (rb : (-2147483648 ≤ b ∧ b ≤ 2147483647)) (hc : (¬ okFB f b ∧ c = 1 ∧ r = 0) ∨ (okFB f b ∧ c = 0 ∧ r = rchS (SS f.toNat) b)) : Rn G m_Mod_reach [vR 541, vI f, vI b] N (hrx R h) 0 0 (qX SS m h c r) gNo := by
  refine Rn.of rfl rfl rfl ?_
  have hM := ok_Mod_reach
  refine go_drop ?_
  repeat (first | refine go_pure hM rfl ?_ | refine go_get hM rfl hr_o rfl ?_ | refine go_ldc hM rfl ?_)
  rcases m_noBlock (G := G) (N := none) (h := h) (R := R) rf rb with ⟨g1, g2⟩ | ⟨g1, g2⟩
  · rcases hc with ⟨q, _⟩ | ⟨_, e1, e2⟩
    · exact absurd g1 q
    · obtain ⟨t, rfl⟩ : ∃ t : Nat, f = t := ⟨f.toNat, by omega⟩
      have ht : t < 4 := by omega
      rw [show ((t : Nat) : Int).toNat = t by omega] at e2
      have hnn := (hg.2.1 t ht).2
      obtain ⟨k, hk⟩ := bh_ex hnn b
      have hkle := hk.1
      rw [rch_bh hnn hk] at e2
      obtain ⟨r1, r2, r3⟩ := hx.2
      have bt := bg_le (SS := SS) ht
      have b2 : R.2.2 0 (t + 1) = ((bg SS t + mn (SS t) : Nat) : Int) := r2 (t + 1) (by omega)
      have tt1 : (((t : Nat) : Int) + 1).toNat = t + 1 := by omega
      have tk : ((bg SS t + k : Nat) : Int).toNat = bg SS t + k := by omega
      have th0 : ∀ j, (sTh R 0).2.2 j = R.2.2 j := fun j => rfl
      have rd : ∀ p, p < mn (SS t) → R.2.2 1 (bg SS t + p) = ms (SS t) p ∧ R.2.2 2 (bg SS t + p) = ml (SS t) p ∧ R.2.2 3 (bg SS t + p) = mv (SS t) p ∧ R.2.2 4 (bg SS t + p) = mw (SS t) p := r3 t ht
      have fin : ∀ z : Int, r = z - b → Go G m_Mod_reach (gFin G (qX SS m h c r) gNo) 83 [some (vR 541), some (vI t), some (vI b), some (vI ((bg SS t + k : Nat) : Int)), none] [vI z] none (hrx (sTh R 0) h) 0 0 := by
        intro z hz
        repeat (first | refine go_pure hM rfl ?_ | refine go_get hM rfl hr_o rfl ?_ | refine go_ldc hM rfl ?_)
        exact go_iret hM rfl rfl ⟨by rw [hz], rfl, sTh R 0, hx.th 0, e1.symm, rfl⟩
      refine go_cV hM rfl rfl rfl hr_o rfl g2 rfl ?_
      refine go_if_eq hM rfl (by omega) (fun _ => ?_) (fun h9 => absurd rfl h9)
      repeat (first | refine go_pure hM rfl ?_ | refine go_get hM rfl hr_o rfl ?_ | refine go_ldc hM rfl ?_)
      refine go_put hM rfl hr_o rfl rfl ?_
      have u1 := ur_o (R := R) (h := h) (x := 0)
      rw [u1]
      repeat (first | refine go_pure hM rfl ?_ | refine go_get hM rfl hr_o rfl ?_ | refine go_ldc hM rfl ?_)
      refine go_if_eq hM rfl (by show _ ≤ (0 : Int) ∧ (0 : Int) ≤ _; omega) (fun _ => ?_) (fun h9 => absurd rfl h9)
      repeat (first | refine go_pure hM rfl ?_ | refine go_get hM rfl hr_o rfl ?_ | refine go_ldc hM rfl ?_)
      refine go_cV hM rfl rfl rfl hr_o rfl (m_behind (R := sTh R 0) hx.2 hnn ht hk (by omega)) rfl ?_
      repeat (first | refine go_pure hM rfl ?_ | refine go_get hM rfl hr_o rfl ?_ | refine go_ldc hM rfl ?_)
      refine go_iald hM rfl hr_B (by omega) (by omega) (by omega) ?_
      rw [tt1, th0, b2]
      refine go_icmp_ne hM rfl (by omega) (by omega) (fun h9 => ?_) (fun h9 => ?_)
      · obtain ⟨d1, d2, d3, d4⟩ := rd k (by omega)
        have c0 := hnn.1 k (by omega)
        rw [if_neg (by omega)] at e2
        repeat (first | refine go_pure hM rfl ?_ | refine go_get hM rfl hr_o rfl ?_ | refine go_ldc hM rfl ?_)
        refine go_iald hM rfl hr_S (by omega) (by omega) (by omega) ?_
        rw [tk, th0, d1]
        repeat (first | refine go_pure hM rfl ?_ | refine go_get hM rfl hr_o rfl ?_ | refine go_ldc hM rfl ?_)
        refine go_icmp_gt hM rfl (by omega) (by omega) (fun h8 => ?_) (fun h8 => ?_)
        · rw [if_neg (by omega)] at e2
          have n1 := fin (ms (SS t) k) e2
          repeat (first | refine go_pure hM rfl ?_ | refine go_get hM rfl hr_o rfl ?_ | refine go_ldc hM rfl ?_)
          refine go_iald hM rfl hr_S (by omega) (by omega) (by omega) ?_
          rw [tk, th0, d1]
          exact n1
        · rw [if_pos (by omega)] at e2
          have n1 := fin (ms (SS t) k + ml (SS t) k) e2
          repeat (first | refine go_pure hM rfl ?_ | refine go_get hM rfl hr_o rfl ?_ | refine go_ldc hM rfl ?_)
          refine go_iald hM rfl hr_S (by omega) (by omega) (by omega) ?_
          rw [tk, th0, d1]
          repeat (first | refine go_pure hM rfl ?_ | refine go_get hM rfl hr_o rfl ?_ | refine go_ldc hM rfl ?_)
          refine go_iald hM rfl hr_L (by omega) (by omega) (by omega) ?_
          rw [tk, th0, d2]
          repeat (first | exact n1 | refine go_pure hM rfl ?_ | refine go_get hM rfl hr_o rfl ?_ | refine go_ldc hM rfl ?_)
      · rw [if_pos (by omega)] at e2
        have n1 := fin 65536 e2
        repeat (first | exact n1 | refine go_pure hM rfl ?_ | refine go_get hM rfl hr_o rfl ?_ | refine go_ldc hM rfl ?_)
  · rcases hc with ⟨_, e1, e3⟩ | ⟨q, _⟩
    · refine go_cV hM rfl rfl rfl hr_o rfl g2 rfl ?_
      refine go_if_eq hM rfl (by omega) (fun h9 => absurd h9 (by omega)) (fun _ => ?_)
      repeat (first | refine go_pure hM rfl ?_ | refine go_get hM rfl hr_o rfl ?_ | refine go_ldc hM rfl ?_)
      refine go_put hM rfl hr_o rfl rfl ?_
      have u1 := ur_o (R := R) (h := h) (x := 1)
      rw [u1]
      repeat (first | refine go_pure hM rfl ?_ | refine go_get hM rfl hr_o rfl ?_ | refine go_ldc hM rfl ?_)
      refine go_if_eq hM rfl (by show _ ≤ (1 : Int) ∧ (1 : Int) ≤ _; omega) (fun h9 => absurd h9 (by show ¬ (1 : Int) = 0; omega)) (fun _ => ?_)
      repeat (first | refine go_pure hM rfl ?_ | refine go_get hM rfl hr_o rfl ?_ | refine go_ldc hM rfl ?_)
      exact go_iret hM rfl rfl ⟨by rw [e3], rfl, sTh R 1, hx.th 1, e1.symm, rfl⟩
    · exact absurd q g1
theorem m_free (hx : RX R SS m) : Rn G m_Mod_free [vR 541] N (hrx R h) 0 0 (qX SS m h 0 (cnF (zT R) 255)) gNo := by
  refine Rn.of rfl rfl rfl ?_
  have hM := ok_Mod_free
  obtain ⟨⟨s1, s2, s3, s4, s5⟩, hr⟩ := id hx
  have h01 : ∀ j, j < 256 → zT R j = 0 ∨ zT R j = 1 := fun j hj => by
    by_cases e : j = 0
    · rw [e]
      exact Or.inr s4
    · rcases s5 j (by omega) hj with ⟨z, _⟩ | ⟨z, _⟩
      · exact Or.inr z
      · exact Or.inl z
  have fb := m_freeBlocks (G := G) (N := none) (h := h) (R := sTh R 0) h01
  have cz : cnZ (zT R) 256 = cnF (zT R) 255 := cnZ_F (by rw [s4]; decide) 255
  refine go_drop ?_
  repeat (first | refine go_pure hM rfl ?_ | refine go_get hM rfl hr_o rfl ?_ | refine go_ldc hM rfl ?_)
  refine go_put hM rfl hr_o rfl rfl ?_
  have u1 := ur_o (R := R) (h := h) (x := 0)
  rw [u1]
  repeat (first | refine go_pure hM rfl ?_ | refine go_get hM rfl hr_o rfl ?_ | refine go_ldc hM rfl ?_)
  refine go_cV hM rfl rfl rfl hr_o rfl fb rfl ?_
  refine go_iret hM rfl rfl ⟨?_, rfl, sTh R 0, hx.th 0, rfl, rfl⟩
  show some (vI (cnZ (zT R) 256)) = _
  rw [cz]
end
