/-! ExtentTree: what is asked; what is thrown -/
def gExc : List String := ["java/lang/RuntimeException", "java/lang/Exception"]
theorem thr_a : gOkT "ExtentTree" 51 55 "java/lang/IllegalArgumentException" gExc = true := by decide +kernel
theorem thr_s : gOkT "ExtentTree" 61 65 "java/lang/IllegalStateException" gExc = true := by decide +kernel
theorem thr_u : gOkT "ExtentTree" 70 74 "java/lang/UnsupportedOperationException" gExc = true := by decide +kernel
theorem thr_i : gOkT "ExtentTree" 148 152 "java/lang/IndexOutOfBoundsException" gExc = true := by decide +kernel
/-- sums over the first n -/
def smI (f : Nat → Int) : Nat → Int
  | 0 => 0
  | n + 1 => smI f n + f n
/-- how many of the blocks 1 .. k are free -/
def cnF (f : Nat → Int) : Nat → Int
  | 0 => 0
  | k + 1 => cnF f k + if f (k + 1) = 0 then 1 else 0
/-- a block that is a file's -/
def mOwn (SS : Nat → mS) (b t l p : Nat) : Prop := t < 4 ∧ l < md (SS t) ∧ p < mK (SS t) l ∧ mb (SS t) l p = b
/-- THE CLASS HOLDS THESE FILES -/
def Cl (A : cA) (SS : Nat → mS) : Prop := aOk A ∧ (∀ t, t < 4 → mSh (SS t) t (aM A) ∧ mRn (SS t) ∧ mAb A t (SS t) ∧ aRu A t = mn (SS t) ∧ aBl A t = sm (mK (SS t)) (md (SS t)) ∧ aMa A t = smI (ml (SS t)) (mn (SS t)) ∧ aMw A t = smI (fun i => mw (SS t) i * ml (SS t) i) (mn (SS t)) ∧ aLb A t = if md (SS t) = 0 then 0 else mK (SS t) 0) ∧
  (∀ b t l p t' l' p', mOwn SS b t l p → mOwn SS b t' l' p' → t = t' ∧ l = l' ∧ p = p') ∧ (∀ b, 1 ≤ b → b < 256 → (aTk A b = 1 ∧ ∃ t l p, mOwn SS b t l p) ∨ (aTk A b = 0 ∧ aEn A b = 0 ∧ ∀ t l p, ¬ mOwn SS b t l p)) ∧ aTk A 0 = 0 ∧ aLe A = cnF (aTk A) 255
theorem Cl_fnd {A : cA} {SS : Nat → mS} {t k : Nat} {W : Nat → Nat} {P : Nat → Int} {x : Int} (hc : Cl A SS) : Cl (fnd A t W P k x) SS := hc
section
variable {G : gG} {N : Option Nat} {h : gH}
theorem c_isFile {f : Int} (rf : (-2147483648 ≤ f ∧ f ≤ 2147483647)) : Rd G m_ET_isFile [vI f] N h (some (vI (if 0 ≤ f ∧ f < 4 then 1 else 0))) N h := by
  refine Rn.of rfl rfl rfl ?_
  have hM := ok_ET_isFile
  repeat (first | refine go_pure hM rfl ?_ | (refine go_get (fs := ?_) (v := ?_) hM rfl ?_ ?_ ?_; rotate_left 2; assumption; rfl) | refine go_ldc hM rfl ?_)
  refine go_if_lt hM rfl rf (fun hc => ?_) (fun hc => ?_)
  · repeat (first | refine go_pure hM rfl ?_ | (refine go_get (fs := ?_) (v := ?_) hM rfl ?_ ?_ ?_; rotate_left 2; assumption; rfl) | refine go_ldc hM rfl ?_)
    exact go_zret hM rfl rfl (Or.inl rfl) ⟨by rw [if_neg (by omega)], rfl, rfl⟩
  · repeat (first | refine go_pure hM rfl ?_ | (refine go_get (fs := ?_) (v := ?_) hM rfl ?_ ?_ ?_; rotate_left 2; assumption; rfl) | refine go_ldc hM rfl ?_)
    refine go_icmp_ge hM rfl rf (by omega) (fun hc1 => ?_) (fun hc1 => ?_)
    · repeat (first | refine go_pure hM rfl ?_ | (refine go_get (fs := ?_) (v := ?_) hM rfl ?_ ?_ ?_; rotate_left 2; assumption; rfl) | refine go_ldc hM rfl ?_)
      exact go_zret hM rfl rfl (Or.inl rfl) ⟨by rw [if_neg (by omega)], rfl, rfl⟩
    · repeat (first | refine go_pure hM rfl ?_ | (refine go_get (fs := ?_) (v := ?_) hM rfl ?_ ?_ ?_; rotate_left 2; assumption; rfl) | refine go_ldc hM rfl ?_)
      exact go_zret hM rfl rfl (Or.inr rfl) ⟨by rw [if_pos (by omega)], rfl, rfl⟩
theorem c_areFileBlocks {x n : Int} (rx : (-2147483648 ≤ x ∧ x ≤ 2147483647)) (rn : (-2147483648 ≤ n ∧ n ≤ 2147483647)) : Rd G m_ET_areFileBlocks [vI x, vI n] N h (some (vI (if 0 ≤ x ∧ x < 65536 ∧ 1 ≤ n ∧ x + n ≤ 65536 then 1 else 0))) N h := by
  refine Rn.of rfl rfl rfl ?_
  have hM := ok_ET_areFileBlocks
  repeat (first | refine go_pure hM rfl ?_ | (refine go_get (fs := ?_) (v := ?_) hM rfl ?_ ?_ ?_; rotate_left 2; assumption; rfl) | refine go_ldc hM rfl ?_)
  refine go_if_lt hM rfl rx (fun hc => ?_) (fun hc => ?_)
  · repeat (first | refine go_pure hM rfl ?_ | (refine go_get (fs := ?_) (v := ?_) hM rfl ?_ ?_ ?_; rotate_left 2; assumption; rfl) | refine go_ldc hM rfl ?_)
    exact go_zret hM rfl rfl (Or.inl rfl) ⟨by rw [if_neg (by omega)], rfl, rfl⟩
  · repeat (first | refine go_pure hM rfl ?_ | (refine go_get (fs := ?_) (v := ?_) hM rfl ?_ ?_ ?_; rotate_left 2; assumption; rfl) | refine go_ldc hM rfl ?_)
    refine go_icmp_ge hM rfl rx (by omega) (fun hc1 => ?_) (fun hc1 => ?_)
    · repeat (first | refine go_pure hM rfl ?_ | (refine go_get (fs := ?_) (v := ?_) hM rfl ?_ ?_ ?_; rotate_left 2; assumption; rfl) | refine go_ldc hM rfl ?_)
      exact go_zret hM rfl rfl (Or.inl rfl) ⟨by rw [if_neg (by omega)], rfl, rfl⟩
    · repeat (first | refine go_pure hM rfl ?_ | (refine go_get (fs := ?_) (v := ?_) hM rfl ?_ ?_ ?_; rotate_left 2; assumption; rfl) | refine go_ldc hM rfl ?_)
      refine go_icmp_lt hM rfl rn (by omega) (fun hc2 => ?_) (fun hc2 => ?_)
      · repeat (first | refine go_pure hM rfl ?_ | (refine go_get (fs := ?_) (v := ?_) hM rfl ?_ ?_ ?_; rotate_left 2; assumption; rfl) | refine go_ldc hM rfl ?_)
        exact go_zret hM rfl rfl (Or.inl rfl) ⟨by rw [if_neg (by omega)], rfl, rfl⟩
      · repeat (first | refine go_pure hM rfl ?_ | (refine go_get (fs := ?_) (v := ?_) hM rfl ?_ ?_ ?_; rotate_left 2; assumption; rfl) | refine go_ldc hM rfl ?_)
        refine go_icmp_gt hM rfl rn (by omega) (fun hc3 => ?_) (fun hc3 => ?_)
        · repeat (first | refine go_pure hM rfl ?_ | (refine go_get (fs := ?_) (v := ?_) hM rfl ?_ ?_ ?_; rotate_left 2; assumption; rfl) | refine go_ldc hM rfl ?_)
          exact go_zret hM rfl rfl (Or.inl rfl) ⟨by rw [if_neg (by omega)], rfl, rfl⟩
        · repeat (first | refine go_pure hM rfl ?_ | (refine go_get (fs := ?_) (v := ?_) hM rfl ?_ ?_ ?_; rotate_left 2; assumption; rfl) | refine go_ldc hM rfl ?_)
          exact go_zret hM rfl rfl (Or.inr rfl) ⟨by rw [if_pos (by omega)], rfl, rfl⟩
theorem c_areVolumeBlocks {x n : Int} (rx : (-2147483648 ≤ x ∧ x ≤ 2147483647)) (rn : (-2147483648 ≤ n ∧ n ≤ 2147483647)) : Rd G m_ET_areVolumeBlocks [vI x, vI n] N h (some (vI (if 1 ≤ x ∧ x ≤ 16777216 ∧ x + n ≤ 16777217 then 1 else 0))) N h := by
  refine Rn.of rfl rfl rfl ?_
  have hM := ok_ET_areVolumeBlocks
  repeat (first | refine go_pure hM rfl ?_ | (refine go_get (fs := ?_) (v := ?_) hM rfl ?_ ?_ ?_; rotate_left 2; assumption; rfl) | refine go_ldc hM rfl ?_)
  refine go_icmp_lt hM rfl rx (by omega) (fun hc => ?_) (fun hc => ?_)
  · repeat (first | refine go_pure hM rfl ?_ | (refine go_get (fs := ?_) (v := ?_) hM rfl ?_ ?_ ?_; rotate_left 2; assumption; rfl) | refine go_ldc hM rfl ?_)
    exact go_zret hM rfl rfl (Or.inl rfl) ⟨by rw [if_neg (by omega)], rfl, rfl⟩
  · repeat (first | refine go_pure hM rfl ?_ | (refine go_get (fs := ?_) (v := ?_) hM rfl ?_ ?_ ?_; rotate_left 2; assumption; rfl) | refine go_ldc hM rfl ?_)
    refine go_icmp_gt hM rfl rx (by omega) (fun hc1 => ?_) (fun hc1 => ?_)
    · repeat (first | refine go_pure hM rfl ?_ | (refine go_get (fs := ?_) (v := ?_) hM rfl ?_ ?_ ?_; rotate_left 2; assumption; rfl) | refine go_ldc hM rfl ?_)
      exact go_zret hM rfl rfl (Or.inl rfl) ⟨by rw [if_neg (by omega)], rfl, rfl⟩
    · repeat (first | refine go_pure hM rfl ?_ | (refine go_get (fs := ?_) (v := ?_) hM rfl ?_ ?_ ?_; rotate_left 2; assumption; rfl) | refine go_ldc hM rfl ?_)
      refine go_icmp_gt hM rfl rn (by omega) (fun hc2 => ?_) (fun hc2 => ?_)
      · repeat (first | refine go_pure hM rfl ?_ | (refine go_get (fs := ?_) (v := ?_) hM rfl ?_ ?_ ?_; rotate_left 2; assumption; rfl) | refine go_ldc hM rfl ?_)
        exact go_zret hM rfl rfl (Or.inl rfl) ⟨by rw [if_neg (by omega)], rfl, rfl⟩
      · repeat (first | refine go_pure hM rfl ?_ | (refine go_get (fs := ?_) (v := ?_) hM rfl ?_ ?_ ?_; rotate_left 2; assumption; rfl) | refine go_ldc hM rfl ?_)
        exact go_zret hM rfl rfl (Or.inr rfl) ⟨by rw [if_pos (by omega)], rfl, rfl⟩
/-- the file blocks x, x + st, .. are there -/
def okSer (x st n : Int) : Prop := (1 ≤ st ∧ st ≤ 2000) ∧ (1 ≤ n ∧ n ≤ 2000) ∧ 0 ≤ x ∧ x < 65536 ∧ x + ((n - 1) * st + 1) ≤ 65536
theorem c_isSeries {x st n : Int} (rx : (-2147483648 ≤ x ∧ x ≤ 2147483647)) (rs : (-2147483648 ≤ st ∧ st ≤ 2147483647)) (rn : (-2147483648 ≤ n ∧ n ≤ 2147483647)) : Rn G m_ET_isSeries [vI x, vI st, vI n] N h 0 0 (fun v N' h' => (v = some (vI 1) ∧ okSer x st n ∨ v = some (vI 0) ∧ ¬ okSer x st n) ∧ N' = N ∧ h' = h) gNo := by
  refine Rn.of rfl rfl rfl ?_
  have hM := ok_ET_isSeries
  have bad : ∀ st9, ¬ okSer x st n → Go G m_ET_isSeries (gFin G (fun v N' h' => (v = some (vI 1) ∧ okSer x st n ∨ v = some (vI 0) ∧ ¬ okSer x st n) ∧ N' = N ∧ h' = h) gNo) 52 st9 [vI 0] N h 0 0 → True := fun _ _ _ => trivial
  repeat (first | refine go_pure hM rfl ?_ | (refine go_get (fs := ?_) (v := ?_) hM rfl ?_ ?_ ?_; rotate_left 2; assumption; rfl) | refine go_ldc hM rfl ?_)
  refine go_icmp_lt hM rfl rs (by omega) (fun hc => ?_) (fun hc => ?_)
  · repeat (first | refine go_pure hM rfl ?_ | (refine go_get (fs := ?_) (v := ?_) hM rfl ?_ ?_ ?_; rotate_left 2; assumption; rfl) | refine go_ldc hM rfl ?_)
    exact go_zret hM rfl rfl (Or.inl rfl) ⟨Or.inr ⟨rfl, fun h9 => by have := h9.1; omega⟩, rfl, rfl⟩
  repeat (first | refine go_pure hM rfl ?_ | (refine go_get (fs := ?_) (v := ?_) hM rfl ?_ ?_ ?_; rotate_left 2; assumption; rfl) | refine go_ldc hM rfl ?_)
  refine go_icmp_gt hM rfl rs (by omega) (fun hc1 => ?_) (fun hc1 => ?_)
  · repeat (first | refine go_pure hM rfl ?_ | (refine go_get (fs := ?_) (v := ?_) hM rfl ?_ ?_ ?_; rotate_left 2; assumption; rfl) | refine go_ldc hM rfl ?_)
    exact go_zret hM rfl rfl (Or.inl rfl) ⟨Or.inr ⟨rfl, fun h9 => by have := h9.1; omega⟩, rfl, rfl⟩
  repeat (first | refine go_pure hM rfl ?_ | (refine go_get (fs := ?_) (v := ?_) hM rfl ?_ ?_ ?_; rotate_left 2; assumption; rfl) | refine go_ldc hM rfl ?_)
  refine go_icmp_lt hM rfl rn (by omega) (fun hc2 => ?_) (fun hc2 => ?_)
  · repeat (first | refine go_pure hM rfl ?_ | (refine go_get (fs := ?_) (v := ?_) hM rfl ?_ ?_ ?_; rotate_left 2; assumption; rfl) | refine go_ldc hM rfl ?_)
    exact go_zret hM rfl rfl (Or.inl rfl) ⟨Or.inr ⟨rfl, fun h9 => by have := h9.2.1; omega⟩, rfl, rfl⟩
  repeat (first | refine go_pure hM rfl ?_ | (refine go_get (fs := ?_) (v := ?_) hM rfl ?_ ?_ ?_; rotate_left 2; assumption; rfl) | refine go_ldc hM rfl ?_)
  refine go_icmp_gt hM rfl rn (by omega) (fun hc3 => ?_) (fun hc3 => ?_)
  · repeat (first | refine go_pure hM rfl ?_ | (refine go_get (fs := ?_) (v := ?_) hM rfl ?_ ?_ ?_; rotate_left 2; assumption; rfl) | refine go_ldc hM rfl ?_)
    exact go_zret hM rfl rfl (Or.inl rfl) ⟨Or.inr ⟨rfl, fun h9 => by have := h9.2.1; omega⟩, rfl, rfl⟩
  repeat (first | refine go_pure hM rfl ?_ | (refine go_get (fs := ?_) (v := ?_) hM rfl ?_ ?_ ?_; rotate_left 2; assumption; rfl) | refine go_ldc hM rfl ?_)
  have hm1 : 0 ≤ (n - 1) * st := Int.mul_nonneg (by omega) (by omega)
  have hm2 : (n - 1) * st ≤ 1999 * 2000 := Int.mul_le_mul (by omega) (by omega) (by omega) (by omega)
  have q := c_areFileBlocks (G := G) (N := N) (h := h) (x := x) (n := (n - 1) * st + 1) rx (by omega)
  by_cases hc4 : 0 ≤ x ∧ x < 65536 ∧ 1 ≤ (n - 1) * st + 1 ∧ x + ((n - 1) * st + 1) ≤ 65536
  · rw [if_pos hc4] at q
    refine go_cS hM rfl rfl rfl q rfl ?_
    refine go_if_eq hM rfl (by omega) (fun hc5 => absurd hc5 (by omega)) (fun _ => ?_)
    repeat (first | refine go_pure hM rfl ?_ | (refine go_get (fs := ?_) (v := ?_) hM rfl ?_ ?_ ?_; rotate_left 2; assumption; rfl) | refine go_ldc hM rfl ?_)
    exact go_zret hM rfl rfl (Or.inr rfl) ⟨Or.inl ⟨rfl, by omega, by omega, hc4.1, hc4.2.1, hc4.2.2.2⟩, rfl, rfl⟩
  · rw [if_neg hc4] at q
    refine go_cS hM rfl rfl rfl q rfl ?_
    refine go_if_eq hM rfl (by omega) (fun _ => ?_) (fun hc5 => absurd rfl hc5)
    repeat (first | refine go_pure hM rfl ?_ | (refine go_get (fs := ?_) (v := ?_) hM rfl ?_ ?_ ?_; rotate_left 2; assumption; rfl) | refine go_ldc hM rfl ?_)
    exact go_zret hM rfl rfl (Or.inl rfl) ⟨Or.inr ⟨rfl, fun h9 => hc4 ⟨h9.2.2.1, h9.2.2.2.1, by omega, h9.2.2.2.2⟩⟩, rfl, rfl⟩
end
/-- the answers, by the runs -/
def lookS (S : mS) (b : Int) : Int := if 0 ≤ lsR (ms S) b (mn S) ∧ b < ms S (lsR (ms S) b (mn S)).toNat + ml S (lsR (ms S) b (mn S)).toNat then mv S (lsR (ms S) b (mn S)).toNat + (b - ms S (lsR (ms S) b (mn S)).toNat) else -1
def wrtS (S : mS) (b : Int) : Int := if (0 ≤ lsR (ms S) b (mn S) ∧ b < ms S (lsR (ms S) b (mn S)).toNat + ml S (lsR (ms S) b (mn S)).toNat) ∧ mw S (lsR (ms S) b (mn S)).toNat = 1 then 1 else 0
def rchS (S : mS) (b : Int) : Int := (if 0 ≤ lsR (ms S) b (mn S) ∧ b < ms S (lsR (ms S) b (mn S)).toNat + ml S (lsR (ms S) b (mn S)).toNat then ms S (lsR (ms S) b (mn S)).toNat + ml S (lsR (ms S) b (mn S)).toNat else if lsR (ms S) b (mn S) + 1 < mn S then ms S (lsR (ms S) b (mn S) + 1).toNat else 65536) - b
section
variable {G : gG} {N : Option Nat} {A : cA} {h0 : gH} {SS : Nat → mS} {t : Nat} {b : Int}
theorem Cl.path (hc : Cl A SS) (ht : t < 4) (b : Int) : PathTo A t b (md (SS t)) (pW (SS t) (lsR (ms (SS t)) b (mn (SS t)))) (pP (SS t) (lsR (ms (SS t)) b (mn (SS t)))) := by
  obtain ⟨h1, h2, h3, -⟩ := hc.2.1 t ht
  obtain ⟨g1, g2, g3⟩ := lsR_spec h2 b
  exact path_of ht h1 h2 h3 g1 g2 g3
/-- the run found, or zeros -/
theorem Cl.run (hc : Cl A SS) (ht : t < 4) (b : Int) : (0 ≤ lsR (ms (SS t)) b (mn (SS t)) ∧ lsR (ms (SS t)) b (mn (SS t)) < mn (SS t) ∧ eF A (pW (SS t) (lsR (ms (SS t)) b (mn (SS t))) (md (SS t))) (pP (SS t) (lsR (ms (SS t)) b (mn (SS t))) (md (SS t))) = ms (SS t) (lsR (ms (SS t)) b (mn (SS t))).toNat ∧ eL A (pW (SS t) (lsR (ms (SS t)) b (mn (SS t))) (md (SS t))) (pP (SS t) (lsR (ms (SS t)) b (mn (SS t))) (md (SS t))) = ml (SS t) (lsR (ms (SS t)) b (mn (SS t))).toNat ∧ eV A (pW (SS t) (lsR (ms (SS t)) b (mn (SS t))) (md (SS t))) (pP (SS t) (lsR (ms (SS t)) b (mn (SS t))) (md (SS t))) = mv (SS t) (lsR (ms (SS t)) b (mn (SS t))).toNat ∧ eW A (pW (SS t) (lsR (ms (SS t)) b (mn (SS t))) (md (SS t))) (pP (SS t) (lsR (ms (SS t)) b (mn (SS t))) (md (SS t))) = mw (SS t) (lsR (ms (SS t)) b (mn (SS t))).toNat) ∨
    (lsR (ms (SS t)) b (mn (SS t)) = -1 ∧ eF A (pW (SS t) (lsR (ms (SS t)) b (mn (SS t))) (md (SS t))) (pP (SS t) (lsR (ms (SS t)) b (mn (SS t))) (md (SS t))) = 0 ∧ eL A (pW (SS t) (lsR (ms (SS t)) b (mn (SS t))) (md (SS t))) (pP (SS t) (lsR (ms (SS t)) b (mn (SS t))) (md (SS t))) = 0 ∧ eV A (pW (SS t) (lsR (ms (SS t)) b (mn (SS t))) (md (SS t))) (pP (SS t) (lsR (ms (SS t)) b (mn (SS t))) (md (SS t))) = 0 ∧ eW A (pW (SS t) (lsR (ms (SS t)) b (mn (SS t))) (md (SS t))) (pP (SS t) (lsR (ms (SS t)) b (mn (SS t))) (md (SS t))) = 0) := by
  obtain ⟨h1, h2, h3, -⟩ := hc.2.1 t ht
  obtain ⟨g1, g2, g3⟩ := lsR_spec h2 b
  by_cases h : 0 ≤ lsR (ms (SS t)) b (mn (SS t))
  · obtain ⟨e1, e2, e3, e4⟩ := run_at (A := A) ht h1 h2 h3 (i := lsR (ms (SS t)) b (mn (SS t))) ⟨h, g1.2⟩
    exact Or.inl ⟨h, g1.2, e1, e2, e3, e4⟩
  · have h9 : lsR (ms (SS t)) b (mn (SS t)) = -1 := by omega
    obtain ⟨e1, e2, e3, e4⟩ := run_no (A := A) (S := SS t)
    rw [h9]
    exact Or.inr ⟨rfl, e1, e2, e3, e4⟩
theorem s_volumeOf (hc : Cl A SS) (ht : t < 4) (hb : 0 ≤ b ∧ b ≤ 65535) : Rn G m_Tree_volumeOf [vR (517 + 6 * t), vI b] N (hpx A h0) 0 0 (fun v N' h' => v = some (vI (lookS (SS t) b)) ∧ N' = N ∧ ∃ A', Cl A' SS ∧ aM A' = aM A ∧ h' = hpx A' h0) gNo := by
  have q := c_volumeOf (G := G) (N := N) (h0 := h0) hc.1 ht (by omega) (hc.path ht b)
  refine Rn.imp q (fun v N' h' hq => ?_)
  obtain ⟨rfl, rfl, rfl⟩ := hq
  refine ⟨?_, rfl, _, Cl_fnd hc, rfl, rfl⟩
  rcases hc.run ht b with ⟨r1, r2, r3, r4, r5, r6⟩ | ⟨r1, r2, r3, r4, r5⟩
  · rw [r3, r4, r5]
    unfold lookS
    by_cases h9 : b < ms (SS t) (lsR (ms (SS t)) b (mn (SS t))).toNat + ml (SS t) (lsR (ms (SS t)) b (mn (SS t))).toNat
    · rw [if_pos h9, if_pos ⟨r1, h9⟩]
    · rw [if_neg h9, if_neg (fun q => h9 q.2)]
  · rw [r2, r3]
    unfold lookS
    rw [if_neg (by omega), if_neg (by omega)]
end
