/-! the reference: checks -/
section
variable {G : gG} {N : Option Nat} {h : gH} {R : rA} {SS : Nat → mS} {t m : Nat} {f x n v st L b : Int}
set_option maxHeartbeats 1000000 in
theorem m_noRange (rf : (-2147483648 ≤ f ∧ f ≤ 2147483647)) (rx : (-2147483648 ≤ x ∧ x ≤ 2147483647)) (rn : (-2147483648 ≤ n ∧ n ≤ 2147483647)) (hL : 0 ≤ L ∧ L ≤ 65536) : ((okPn f x n ∧ n ≤ L) ∧ Rd G m_Mod_noRange [vR 541, vI f, vI x, vI n, vI L] N (hrx R h) (some (vI 0)) N (hrx R h)) ∨ (¬ (okPn f x n ∧ n ≤ L) ∧ Rd G m_Mod_noRange [vR 541, vI f, vI x, vI n, vI L] N (hrx R h) (some (vI 1)) N (hrx R h)) := by
  have key : ∀ z : Int, ((okPn f x n ∧ n ≤ L) → z = 0) → (¬ (okPn f x n ∧ n ≤ L) → z = 1) → Rd G m_Mod_noRange [vR 541, vI f, vI x, vI n, vI L] N (hrx R h) (some (vI z)) N (hrx R h) := by
    intro z z1 z2
    refine Rn.of rfl rfl rfl ?_
    have hM := ok_Mod_noRange
    have no : ¬ (okPn f x n ∧ n ≤ L) → Go G m_Mod_noRange (gFin G (gEq (some (vI z)) N (hrx R h)) gNo) 38 [some (vR 541), some (vI f), some (vI x), some (vI n), some (vI L)] [] N (hrx R h) 0 0 := by
      intro hno
      repeat (first | refine go_pure hM rfl ?_ | refine go_get hM rfl hr_o rfl ?_ | refine go_ldc hM rfl ?_)
      exact go_zret hM rfl rfl (Or.inr rfl) ⟨by rw [z2 hno], rfl, rfl⟩
    repeat (first | refine go_pure hM rfl ?_ | refine go_get hM rfl hr_o rfl ?_ | refine go_ldc hM rfl ?_)
    refine go_if_lt hM rfl rf (fun h9 => no (fun q => by omega)) (fun g1 => ?_)
    repeat (first | refine go_pure hM rfl ?_ | refine go_get hM rfl hr_o rfl ?_ | refine go_ldc hM rfl ?_)
    refine go_icmp_gt hM rfl rf (by omega) (fun h9 => no (fun q => by omega)) (fun g2 => ?_)
    repeat (first | refine go_pure hM rfl ?_ | refine go_get hM rfl hr_o rfl ?_ | refine go_ldc hM rfl ?_)
    refine go_if_lt hM rfl rx (fun h9 => no (fun q => by omega)) (fun g3 => ?_)
    repeat (first | refine go_pure hM rfl ?_ | refine go_get hM rfl hr_o rfl ?_ | refine go_ldc hM rfl ?_)
    refine go_icmp_gt hM rfl rx (by omega) (fun h9 => no (fun q => by omega)) (fun g4 => ?_)
    repeat (first | refine go_pure hM rfl ?_ | refine go_get hM rfl hr_o rfl ?_ | refine go_ldc hM rfl ?_)
    refine go_icmp_lt hM rfl rn (by omega) (fun h9 => no (fun q => by omega)) (fun g5 => ?_)
    repeat (first | refine go_pure hM rfl ?_ | refine go_get hM rfl hr_o rfl ?_ | refine go_ldc hM rfl ?_)
    refine go_icmp_gt hM rfl rn (by omega) (fun h9 => no (fun q => by omega)) (fun g6 => ?_)
    repeat (first | refine go_pure hM rfl ?_ | refine go_get hM rfl hr_o rfl ?_ | refine go_ldc hM rfl ?_)
    refine go_icmp_le hM rfl (by omega) (by omega) (fun g7 => ?_) (fun h9 => no (fun q => by omega))
    repeat (first | refine go_pure hM rfl ?_ | refine go_get hM rfl hr_o rfl ?_ | refine go_ldc hM rfl ?_)
    exact go_zret hM rfl rfl (Or.inl rfl) ⟨by rw [z1 ⟨⟨⟨by omega, by omega⟩, by omega, by omega, by omega, by omega⟩, by omega⟩], rfl, rfl⟩
  by_cases e : okPn f x n ∧ n ≤ L
  · exact Or.inl ⟨e, key 0 (fun _ => rfl) (fun z => absurd e z)⟩
  · exact Or.inr ⟨e, key 1 (fun z => absurd z e) (fun _ => rfl)⟩
theorem m_noVolume (rv : (-2147483648 ≤ v ∧ v ≤ 2147483647)) (hn : 0 ≤ n ∧ n ≤ 100000) : ((1 ≤ v ∧ v ≤ 16777216 ∧ v + n ≤ 16777217) ∧ Rd G m_Mod_noVolume [vR 541, vI v, vI n] N (hrx R h) (some (vI 0)) N (hrx R h)) ∨ (¬ (1 ≤ v ∧ v ≤ 16777216 ∧ v + n ≤ 16777217) ∧ Rd G m_Mod_noVolume [vR 541, vI v, vI n] N (hrx R h) (some (vI 1)) N (hrx R h)) := by
  have key : ∀ z : Int, ((1 ≤ v ∧ v ≤ 16777216 ∧ v + n ≤ 16777217) → z = 0) → (¬ (1 ≤ v ∧ v ≤ 16777216 ∧ v + n ≤ 16777217) → z = 1) → Rd G m_Mod_noVolume [vR 541, vI v, vI n] N (hrx R h) (some (vI z)) N (hrx R h) := by
    intro z z1 z2
    refine Rn.of rfl rfl rfl ?_
    have hM := ok_Mod_noVolume
    have no : ¬ (1 ≤ v ∧ v ≤ 16777216 ∧ v + n ≤ 16777217) → Go G m_Mod_noVolume (gFin G (gEq (some (vI z)) N (hrx R h)) gNo) 21 [some (vR 541), some (vI v), some (vI n)] [] N (hrx R h) 0 0 := by
      intro hno
      repeat (first | refine go_pure hM rfl ?_ | refine go_get hM rfl hr_o rfl ?_ | refine go_ldc hM rfl ?_)
      exact go_zret hM rfl rfl (Or.inr rfl) ⟨by rw [z2 hno], rfl, rfl⟩
    repeat (first | refine go_pure hM rfl ?_ | refine go_get hM rfl hr_o rfl ?_ | refine go_ldc hM rfl ?_)
    refine go_icmp_lt hM rfl rv (by omega) (fun h9 => no (fun q => by omega)) (fun g1 => ?_)
    repeat (first | refine go_pure hM rfl ?_ | refine go_get hM rfl hr_o rfl ?_ | refine go_ldc hM rfl ?_)
    refine go_icmp_gt hM rfl rv (by omega) (fun h9 => no (fun q => by omega)) (fun g2 => ?_)
    repeat (first | refine go_pure hM rfl ?_ | refine go_get hM rfl hr_o rfl ?_ | refine go_ldc hM rfl ?_)
    refine go_icmp_le hM rfl (by omega) (by omega) (fun g7 => ?_) (fun h9 => no (fun q => by omega))
    repeat (first | refine go_pure hM rfl ?_ | refine go_get hM rfl hr_o rfl ?_ | refine go_ldc hM rfl ?_)
    exact go_zret hM rfl rfl (Or.inl rfl) ⟨by rw [z1 ⟨by omega, by omega, by omega⟩], rfl, rfl⟩
  by_cases e : 1 ≤ v ∧ v ≤ 16777216 ∧ v + n ≤ 16777217
  · exact Or.inl ⟨e, key 0 (fun _ => rfl) (fun z => absurd e z)⟩
  · exact Or.inr ⟨e, key 1 (fun z => absurd z e) (fun _ => rfl)⟩
theorem m_noBlock (rf : (-2147483648 ≤ f ∧ f ≤ 2147483647)) (rb : (-2147483648 ≤ b ∧ b ≤ 2147483647)) : (okFB f b ∧ Rd G m_Mod_noBlock [vR 541, vI f, vI b] N (hrx R h) (some (vI 0)) N (hrx R h)) ∨ (¬ okFB f b ∧ Rd G m_Mod_noBlock [vR 541, vI f, vI b] N (hrx R h) (some (vI 1)) N (hrx R h)) := by
  have key : ∀ z : Int, (okFB f b → z = 0) → (¬ okFB f b → z = 1) → Rd G m_Mod_noBlock [vR 541, vI f, vI b] N (hrx R h) (some (vI z)) N (hrx R h) := by
    intro z z1 z2
    refine Rn.of rfl rfl rfl ?_
    have hM := ok_Mod_noBlock
    have no : ¬ okFB f b → Go G m_Mod_noBlock (gFin G (gEq (some (vI z)) N (hrx R h)) gNo) 19 [some (vR 541), some (vI f), some (vI b)] [] N (hrx R h) 0 0 := by
      intro hno
      repeat (first | refine go_pure hM rfl ?_ | refine go_get hM rfl hr_o rfl ?_ | refine go_ldc hM rfl ?_)
      exact go_zret hM rfl rfl (Or.inr rfl) ⟨by rw [z2 hno], rfl, rfl⟩
    repeat (first | refine go_pure hM rfl ?_ | refine go_get hM rfl hr_o rfl ?_ | refine go_ldc hM rfl ?_)
    refine go_if_lt hM rfl rf (fun h9 => no (fun q => by omega)) (fun g1 => ?_)
    repeat (first | refine go_pure hM rfl ?_ | refine go_get hM rfl hr_o rfl ?_ | refine go_ldc hM rfl ?_)
    refine go_icmp_gt hM rfl rf (by omega) (fun h9 => no (fun q => by omega)) (fun g2 => ?_)
    repeat (first | refine go_pure hM rfl ?_ | refine go_get hM rfl hr_o rfl ?_ | refine go_ldc hM rfl ?_)
    refine go_if_lt hM rfl rb (fun h9 => no (fun q => by omega)) (fun g3 => ?_)
    repeat (first | refine go_pure hM rfl ?_ | refine go_get hM rfl hr_o rfl ?_ | refine go_ldc hM rfl ?_)
    refine go_icmp_le hM rfl rb (by omega) (fun g7 => ?_) (fun h9 => no (fun q => by omega))
    repeat (first | refine go_pure hM rfl ?_ | refine go_get hM rfl hr_o rfl ?_ | refine go_ldc hM rfl ?_)
    exact go_zret hM rfl rfl (Or.inl rfl) ⟨by rw [z1 ⟨⟨by omega, by omega⟩, by omega, by omega⟩], rfl, rfl⟩
  by_cases e : okFB f b
  · exact Or.inl ⟨e, key 0 (fun _ => rfl) (fun z => absurd e z)⟩
  · exact Or.inr ⟨e, key 1 (fun z => absurd z e) (fun _ => rfl)⟩
set_option maxHeartbeats 1000000 in
theorem m_noSteps (rf : (-2147483648 ≤ f ∧ f ≤ 2147483647)) (rx : (-2147483648 ≤ x ∧ x ≤ 2147483647)) (rs : (-2147483648 ≤ st ∧ st ≤ 2147483647)) (rn : (-2147483648 ≤ n ∧ n ≤ 2147483647)) : (((0 ≤ f ∧ f < 4) ∧ okSer x st n) ∧ Rd G m_Mod_noSteps [vR 541, vI f, vI x, vI st, vI n] N (hrx R h) (some (vI 0)) N (hrx R h)) ∨ (¬ ((0 ≤ f ∧ f < 4) ∧ okSer x st n) ∧ Rd G m_Mod_noSteps [vR 541, vI f, vI x, vI st, vI n] N (hrx R h) (some (vI 1)) N (hrx R h)) := by
  have key : ∀ z : Int, (((0 ≤ f ∧ f < 4) ∧ okSer x st n) → z = 0) → (¬ ((0 ≤ f ∧ f < 4) ∧ okSer x st n) → z = 1) → Rd G m_Mod_noSteps [vR 541, vI f, vI x, vI st, vI n] N (hrx R h) (some (vI z)) N (hrx R h) := by
    intro z z1 z2
    refine Rn.of rfl rfl rfl ?_
    have hM := ok_Mod_noSteps
    have no : ¬ ((0 ≤ f ∧ f < 4) ∧ okSer x st n) → Go G m_Mod_noSteps (gFin G (gEq (some (vI z)) N (hrx R h)) gNo) 58 [some (vR 541), some (vI f), some (vI x), some (vI st), some (vI n)] [] N (hrx R h) 0 0 := by
      intro hno
      repeat (first | refine go_pure hM rfl ?_ | refine go_get hM rfl hr_o rfl ?_ | refine go_ldc hM rfl ?_)
      exact go_zret hM rfl rfl (Or.inr rfl) ⟨by rw [z2 hno], rfl, rfl⟩
    repeat (first | refine go_pure hM rfl ?_ | refine go_get hM rfl hr_o rfl ?_ | refine go_ldc hM rfl ?_)
    refine go_if_lt hM rfl rf (fun h9 => no (fun q => by have := q.1; omega)) (fun g1 => ?_)
    repeat (first | refine go_pure hM rfl ?_ | refine go_get hM rfl hr_o rfl ?_ | refine go_ldc hM rfl ?_)
    refine go_icmp_gt hM rfl rf (by omega) (fun h9 => no (fun q => by have := q.1; omega)) (fun g2 => ?_)
    repeat (first | refine go_pure hM rfl ?_ | refine go_get hM rfl hr_o rfl ?_ | refine go_ldc hM rfl ?_)
    refine go_if_lt hM rfl rx (fun h9 => no (fun q => by have := q.2.2.2.1; omega)) (fun g3 => ?_)
    repeat (first | refine go_pure hM rfl ?_ | refine go_get hM rfl hr_o rfl ?_ | refine go_ldc hM rfl ?_)
    refine go_icmp_lt hM rfl rs (by omega) (fun h9 => no (fun q => by have := q.2.1; omega)) (fun g4 => ?_)
    repeat (first | refine go_pure hM rfl ?_ | refine go_get hM rfl hr_o rfl ?_ | refine go_ldc hM rfl ?_)
    refine go_icmp_gt hM rfl rs (by omega) (fun h9 => no (fun q => by have := q.2.1; omega)) (fun g5 => ?_)
    repeat (first | refine go_pure hM rfl ?_ | refine go_get hM rfl hr_o rfl ?_ | refine go_ldc hM rfl ?_)
    refine go_icmp_lt hM rfl rn (by omega) (fun h9 => no (fun q => by have := q.2.2.1; omega)) (fun g6 => ?_)
    repeat (first | refine go_pure hM rfl ?_ | refine go_get hM rfl hr_o rfl ?_ | refine go_ldc hM rfl ?_)
    refine go_icmp_gt hM rfl rn (by omega) (fun h9 => no (fun q => by have := q.2.2.1; omega)) (fun g7 => ?_)
    repeat (first | refine go_pure hM rfl ?_ | refine go_get hM rfl hr_o rfl ?_ | refine go_ldc hM rfl ?_)
    refine go_icmp_gt hM rfl rx (by omega) (fun h9 => no (fun q => by have := q.2.2.2.2.1; omega)) (fun g8 => ?_)
    have p1 : 0 ≤ st * (n - 1) := Int.mul_nonneg (by omega) (by omega)
    have p2 : st * (n - 1) ≤ 2000 * 2000 := Int.mul_le_mul (by omega) (by omega) (by omega) (by omega)
    have p3 : st * (n - 1) = (n - 1) * st := Int.mul_comm _ _
    repeat (first | refine go_pure hM rfl ?_ | refine go_get hM rfl hr_o rfl ?_ | refine go_ldc hM rfl ?_)
    refine go_icmp_le hM rfl (by omega) (by omega) (fun g9 => ?_) (fun h9 => no (fun q => by have := q.2.2.2.2.2; omega))
    repeat (first | refine go_pure hM rfl ?_ | refine go_get hM rfl hr_o rfl ?_ | refine go_ldc hM rfl ?_)
    exact go_zret hM rfl rfl (Or.inl rfl) ⟨by rw [z1 ⟨⟨by omega, by omega⟩, ⟨by omega, by omega⟩, ⟨by omega, by omega⟩, by omega, by omega, by omega⟩], rfl, rfl⟩
  by_cases e : (0 ≤ f ∧ f < 4) ∧ okSer x st n
  · exact Or.inl ⟨e, key 0 (fun _ => rfl) (fun z => absurd e z)⟩
  · exact Or.inr ⟨e, key 1 (fun z => absurd z e) (fun _ => rfl)⟩
set_option maxHeartbeats 1000000 in
theorem m_isTight {a b c : Nat} (hs : RS R SS m) (hsh : mSh (SS t) t m) (ht : t < 4) (ha : a ≤ 2) (hb : b ≤ 3) (hc : c ≤ 5) : (Ro SS t a b c ∧ Rd G m_Mod_isTight [vR 541, vI t, vI a, vI b, vI c] N (hrx R h) (some (vI 0)) N (hrx R h)) ∨ (¬ Ro SS t a b c ∧ Rd G m_Mod_isTight [vR 541, vI t, vI a, vI b, vI c] N (hrx R h) (some (vI 1)) N (hrx R h)) := by
  obtain ⟨s1, s2, s3, s4, s5⟩ := hs
  have h01 : ∀ j, j < 256 → zT R j = 0 ∨ zT R j = 1 := fun j hj => by
    by_cases e : j = 0
    · rw [e]
      exact Or.inr s4
    · rcases s5 j (by omega) hj with ⟨z, _⟩ | ⟨z, _⟩
      · exact Or.inr z
      · exact Or.inl z
  have fb := m_freeBlocks (G := G) (N := N) (h := h) h01
  have cz : cnZ (zT R) 256 = cnF (zT R) 255 := cnZ_F (by rw [s4]; decide) 255
  rw [cz] at fb
  have cr := cnF_r (T := zT R) 255
  have hd5 := hsh.1
  have hr4 := hsh.2.2.2.2.2.1
  have D0 : R.2.2 5 t = (md (SS t) : Int) := (s2 t ht).1
  have R0 : R.2.2 6 t = (mc (SS t) (md (SS t)) 0 : Int) := (s2 t ht).2
  have tt : ((t : Nat) : Int).toNat = t := by omega
  have ro : Ro SS t a b c ↔ ((a * md (SS t) + b : Nat) : Int) ≤ cnF (zT R) 255 ∧ ¬ (c ≤ md (SS t) ∧ 4 ≤ mc (SS t) (md (SS t)) 0) := by
    constructor
    · rintro ⟨T, g1, g2, g3⟩
      rw [g1.cn s5] at g2
      exact ⟨g2, g3⟩
    · rintro ⟨g2, g3⟩
      exact ⟨_, s5, g2, g3⟩
  have pm : a * md (SS t) ≤ 2 * 5 := Nat.mul_le_mul ha hd5
  have pc : (a : Int) * (md (SS t) : Int) = ((a * md (SS t) : Nat) : Int) := by
    rw [Int.natCast_mul]
  have key : ∀ z : Int, (Ro SS t a b c → z = 0) → (¬ Ro SS t a b c → z = 1) → Rd G m_Mod_isTight [vR 541, vI t, vI a, vI b, vI c] N (hrx R h) (some (vI z)) N (hrx R h) := by
    intro z z1 z2
    refine Rn.of rfl rfl rfl ?_
    have hM := ok_Mod_isTight
    have yes : ¬ Ro SS t a b c → Go G m_Mod_isTight (gFin G (gEq (some (vI z)) N (hrx R h)) gNo) 38 [some (vR 541), some (vI t), some (vI a), some (vI b), some (vI c)] [] N (hrx R h) 0 0 := by
      intro hno
      repeat (first | refine go_pure hM rfl ?_ | refine go_get hM rfl hr_o rfl ?_ | refine go_ldc hM rfl ?_)
      exact go_zret hM rfl rfl (Or.inr rfl) ⟨by rw [z2 hno], rfl, rfl⟩
    have nope : Ro SS t a b c → Go G m_Mod_isTight (gFin G (gEq (some (vI z)) N (hrx R h)) gNo) 42 [some (vR 541), some (vI t), some (vI a), some (vI b), some (vI c)] [] N (hrx R h) 0 0 := by
      intro hno
      repeat (first | refine go_pure hM rfl ?_ | refine go_get hM rfl hr_o rfl ?_ | refine go_ldc hM rfl ?_)
      exact go_zret hM rfl rfl (Or.inl rfl) ⟨by rw [z1 hno], rfl, rfl⟩
    repeat (first | refine go_pure hM rfl ?_ | refine go_get hM rfl hr_o rfl ?_ | refine go_ldc hM rfl ?_)
    refine go_cV hM rfl rfl rfl hr_o rfl fb rfl ?_
    repeat (first | refine go_pure hM rfl ?_ | refine go_get hM rfl hr_o rfl ?_ | refine go_ldc hM rfl ?_)
    refine go_iald hM rfl hr_D (by omega) (by omega) (by omega) ?_
    rw [tt, D0]
    repeat (first | refine go_pure hM rfl ?_ | refine go_get hM rfl hr_o rfl ?_ | refine go_ldc hM rfl ?_)
    rw [pc]
    refine go_icmp_lt hM rfl (by omega) (by omega) (fun h9 => yes (fun q => by have := (ro.mp q).1; omega)) (fun g1 => ?_)
    repeat (first | refine go_pure hM rfl ?_ | refine go_get hM rfl hr_o rfl ?_ | refine go_ldc hM rfl ?_)
    refine go_iald hM rfl hr_D (by omega) (by omega) (by omega) ?_
    rw [tt, D0]
    repeat (first | refine go_pure hM rfl ?_ | refine go_get hM rfl hr_o rfl ?_ | refine go_ldc hM rfl ?_)
    refine go_icmp_lt hM rfl (by omega) (by omega) (fun h9 => nope (ro.mpr ⟨by omega, fun q => by omega⟩)) (fun g2 => ?_)
    repeat (first | refine go_pure hM rfl ?_ | refine go_get hM rfl hr_o rfl ?_ | refine go_ldc hM rfl ?_)
    refine go_iald hM rfl hr_R (by omega) (by omega) (by omega) ?_
    rw [tt, R0]
    repeat (first | refine go_pure hM rfl ?_ | refine go_get hM rfl hr_o rfl ?_ | refine go_ldc hM rfl ?_)
    exact go_icmp_ne hM rfl (by omega) (by omega) (fun h9 => nope (ro.mpr ⟨by omega, fun q => by omega⟩)) (fun h9 => yes (fun q => (ro.mp q).2 ⟨by omega, by omega⟩))
  by_cases e : Ro SS t a b c
  · exact Or.inl ⟨e, key 0 (fun _ => rfl) (fun z => absurd e z)⟩
  · exact Or.inr ⟨e, key 1 (fun z => absurd z e) (fun _ => rfl)⟩
end
