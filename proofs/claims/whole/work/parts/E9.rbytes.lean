/-! the reference: bytes -/
section
variable {G : gG} {N : Option Nat} {h : gH} {R : rA} {SS : Nat → mS} {t m : Nat} {i x : Int}
theorem m_byteIn (hx : 0 ≤ x ∧ x ≤ 2147483647) (hi : 0 ≤ i ∧ i ≤ 3) : Rd G m_Mod_byteIn [vR 541, vI x, vI i] N (hrx R h) (some (vI (gBy x i))) N (hrx R h) := by
  refine Rn.of rfl rfl rfl ?_
  have hM := ok_Mod_byteIn
  repeat (first | refine go_pure hM rfl ?_ | refine go_get hM rfl hr_o rfl ?_ | refine go_ldc hM rfl ?_)
  have hc : i = 0 ∨ i = 1 ∨ i = 2 ∨ i = 3 := by omega
  rcases hc with rfl | rfl | rfl | rfl
  · refine go_ishr 0 hM rfl (by decide) (by omega) ?_
    repeat (first | refine go_pure hM rfl ?_ | refine go_get hM rfl hr_o rfl ?_ | refine go_ldc hM rfl ?_)
    refine go_iand (q := 256) 8 hM rfl (by decide) (by decide) (by decide) ?_
    exact go_iret hM rfl rfl ⟨by rw [gBy, if_pos rfl]; congr 2; omega, rfl, rfl⟩
  · refine go_ishr 8 hM rfl (by decide) (by omega) ?_
    repeat (first | refine go_pure hM rfl ?_ | refine go_get hM rfl hr_o rfl ?_ | refine go_ldc hM rfl ?_)
    refine go_iand (q := 256) 8 hM rfl (by decide) (by decide) (by decide) ?_
    exact go_iret hM rfl rfl ⟨by rw [gBy, if_neg (by decide), if_pos rfl]; congr 2, rfl, rfl⟩
  · refine go_ishr 16 hM rfl (by decide) (by omega) ?_
    repeat (first | refine go_pure hM rfl ?_ | refine go_get hM rfl hr_o rfl ?_ | refine go_ldc hM rfl ?_)
    refine go_iand (q := 256) 8 hM rfl (by decide) (by decide) (by decide) ?_
    exact go_iret hM rfl rfl ⟨by rw [gBy, if_neg (by decide), if_neg (by decide), if_pos rfl]; congr 2, rfl, rfl⟩
  · refine go_ishr 24 hM rfl (by decide) (by omega) ?_
    repeat (first | refine go_pure hM rfl ?_ | refine go_get hM rfl hr_o rfl ?_ | refine go_ldc hM rfl ?_)
    refine go_iand (q := 256) 8 hM rfl (by decide) (by decide) (by decide) ?_
    exact go_iret hM rfl rfl ⟨by rw [gBy, if_neg (by decide), if_neg (by decide), if_neg (by decide)]; congr 2, rfl, rfl⟩
def hdX (i n r d : Int) : Int := if i < 2 then 62218 else if i < 4 then n else if i < 6 then r else d
theorem m_headByte {n r d : Int} (hi : 0 ≤ i ∧ i < 8) (hn : 0 ≤ n ∧ n ≤ 100000) (hr : 0 ≤ r ∧ r ≤ 100000) (hd : 0 ≤ d ∧ d ≤ 100000) : Rd G m_Mod_headByte [vR 541, vI i, vI n, vI r, vI d] N (hrx R h) (some (vI (gBy (hdX i n r d) (i % 2)))) N (hrx R h) := by
  refine Rn.of rfl rfl rfl ?_
  have hM := ok_Mod_headByte
  have rx : 0 ≤ hdX i n r d ∧ hdX i n r d ≤ 2147483647 := by
    unfold hdX
    split
    · omega
    · split
      · omega
      · split <;> omega
  have go31 : ∀ z : Int, z = hdX i n r d → Go G m_Mod_headByte (gFin G (gEq (some (vI (gBy (hdX i n r d) (i % 2)))) N (hrx R h)) gNo) 31 [some (vR 541), some (vI i), some (vI n), some (vI r), some (vI d), none] [vI z] N (hrx R h) 0 0 := by
    intro z hz
    rw [hz]
    repeat (first | refine go_pure hM rfl ?_ | refine go_get hM rfl hr_o rfl ?_ | refine go_ldc hM rfl ?_)
    refine go_irem hM rfl (by omega) (by omega) ?_
    refine go_cV hM rfl rfl rfl hr_o rfl (m_byteIn rx (by omega)) rfl ?_
    exact go_iret hM rfl rfl ⟨rfl, rfl, rfl⟩
  repeat (first | refine go_pure hM rfl ?_ | refine go_get hM rfl hr_o rfl ?_ | refine go_ldc hM rfl ?_)
  refine go_icmp_ge hM rfl (by omega) (by omega) (fun h1 => ?_) (fun h1 => ?_)
  · repeat (first | refine go_pure hM rfl ?_ | refine go_get hM rfl hr_o rfl ?_ | refine go_ldc hM rfl ?_)
    refine go_icmp_ge hM rfl (by omega) (by omega) (fun h2 => ?_) (fun h2 => ?_)
    · repeat (first | refine go_pure hM rfl ?_ | refine go_get hM rfl hr_o rfl ?_ | refine go_ldc hM rfl ?_)
      refine go_icmp_ge hM rfl (by omega) (by omega) (fun h3 => ?_) (fun h3 => ?_)
      · have n1 := go31 d (by unfold hdX; rw [if_neg (by omega), if_neg (by omega), if_neg (by omega)])
        repeat (first | exact n1 | refine go_pure hM rfl ?_ | refine go_get hM rfl hr_o rfl ?_ | refine go_ldc hM rfl ?_)
      · have n1 := go31 r (by unfold hdX; rw [if_neg (by omega), if_neg (by omega), if_pos (by omega)])
        repeat (first | exact n1 | refine go_pure hM rfl ?_ | refine go_get hM rfl hr_o rfl ?_ | refine go_ldc hM rfl ?_)
    · have n1 := go31 n (by unfold hdX; rw [if_neg (by omega), if_pos (by omega)])
      repeat (first | exact n1 | refine go_pure hM rfl ?_ | refine go_get hM rfl hr_o rfl ?_ | refine go_ldc hM rfl ?_)
  · have n1 := go31 62218 (by unfold hdX; rw [if_pos (by omega)])
    repeat (first | exact n1 | refine go_pure hM rfl ?_ | refine go_get hM rfl hr_o rfl ?_ | refine go_ldc hM rfl ?_)
theorem gBy_0 (i : Int) : gBy 0 i = 0 := by
  unfold gBy
  split
  · rfl
  · split
    · rfl
    · split <;> rfl
set_option maxHeartbeats 2000000 in
theorem m_runByte (hr : RR R SS) (hn : mRn (SS t)) (ht : t < 4) {p : Nat} (hp : p < mn (SS t)) (hi : 0 ≤ i ∧ i < 12) : Rd G m_Mod_runByte [vR 541, vI ((bg SS t + p : Nat) : Int), vI i] N (hrx R h) (some (vI (gBy (it (SS t) 0 p (i / 4).toNat) (i % 4)))) N (hrx R h) := by
  refine Rn.of rfl rfl rfl ?_
  have hM := ok_Mod_runByte
  obtain ⟨r1, r2, r3⟩ := hr
  have bt := bg_le (SS := SS) ht
  obtain ⟨d1, d2, d3, d4⟩ := r3 t ht p hp
  have d1 : R.2.2 1 (bg SS t + p) = ms (SS t) p := d1
  have d2 : R.2.2 2 (bg SS t + p) = ml (SS t) p := d2
  have d3 : R.2.2 3 (bg SS t + p) = mv (SS t) p := d3
  have d4 : R.2.2 4 (bg SS t + p) = mw (SS t) p := d4
  have c0 := hn.1 p hp
  have tp : ((bg SS t + p : Nat) : Int).toNat = bg SS t + p := by omega
  have fin : ∀ z : Int, z = gBy (it (SS t) 0 p (i / 4).toNat) (i % 4) → Go G m_Mod_runByte (gFin G (gEq (some (vI (gBy (it (SS t) 0 p (i / 4).toNat) (i % 4)))) N (hrx R h)) gNo) 81 [some (vR 541), some (vI ((bg SS t + p : Nat) : Int)), some (vI i)] [vI z] N (hrx R h) 0 0 := by
    intro z hz
    rw [hz]
    exact go_iret hM rfl rfl ⟨rfl, rfl, rfl⟩
  repeat (first | refine go_pure hM rfl ?_ | refine go_get hM rfl hr_o rfl ?_ | refine go_ldc hM rfl ?_)
  refine go_icmp_ge hM rfl (by omega) (by omega) (fun h1 => ?_) (fun h1 => ?_)
  · repeat (first | refine go_pure hM rfl ?_ | refine go_get hM rfl hr_o rfl ?_ | refine go_ldc hM rfl ?_)
    refine go_icmp_ge hM rfl (by omega) (by omega) (fun h2 => ?_) (fun h2 => ?_)
    · repeat (first | refine go_pure hM rfl ?_ | refine go_get hM rfl hr_o rfl ?_ | refine go_ldc hM rfl ?_)
      refine go_icmp_ge hM rfl (by omega) (by omega) (fun h3 => ?_) (fun h3 => ?_)
      · repeat (first | refine go_pure hM rfl ?_ | refine go_get hM rfl hr_o rfl ?_ | refine go_ldc hM rfl ?_)
        refine go_iald hM rfl hr_V (by omega) (by omega) (by omega) ?_
        rw [tp, d3]
        repeat (first | refine go_pure hM rfl ?_ | refine go_get hM rfl hr_o rfl ?_ | refine go_ldc hM rfl ?_)
        refine go_cV hM rfl rfl rfl hr_o rfl (m_byteIn (by omega) (by omega)) rfl ?_
        refine fin _ ?_
        rw [show (i / 4).toNat = 2 by omega, show i % 4 = i - 8 by omega]
        rfl
      · have n1 := fin 0 (by
          rw [show (i / 4).toNat = 1 by omega]
          show (0 : Int) = gBy (ml (SS t) p + (1 - mw (SS t) p) * 32768) (i % 4)
          have e2 : i % 4 = 2 ∨ i % 4 = 3 := by omega
          rcases e2 with e2 | e2
          · rw [e2, gBy, if_neg (by decide), if_neg (by decide), if_pos rfl]
            rcases c0.2.2.2.1 with q | q <;> rw [q] at c0 ⊢ <;> omega
          · rw [e2, gBy, if_neg (by decide), if_neg (by decide), if_neg (by decide)]
            rcases c0.2.2.2.1 with q | q <;> rw [q] at c0 ⊢ <;> omega)
        repeat (first | exact n1 | refine go_pure hM rfl ?_ | refine go_get hM rfl hr_o rfl ?_ | refine go_ldc hM rfl ?_)
    · have tl : ∀ z : Int, z = (1 - mw (SS t) p) * 32768 → Go G m_Mod_runByte (gFin G (gEq (some (vI (gBy (it (SS t) 0 p (i / 4).toNat) (i % 4)))) N (hrx R h)) gNo) 47 [some (vR 541), some (vI ((bg SS t + p : Nat) : Int)), some (vI i)] [vI z, vI (ml (SS t) p), vR 541] N (hrx R h) 0 0 := by
        intro z hz
        have rz : 0 ≤ z ∧ z ≤ 32768 := by
          rw [hz]
          rcases c0.2.2.2.1 with q | q <;> rw [q] <;> omega
        repeat (first | refine go_pure hM rfl ?_ | refine go_get hM rfl hr_o rfl ?_ | refine go_ldc hM rfl ?_)
        refine go_cV hM rfl rfl rfl hr_o rfl (m_byteIn (by omega) (by omega)) rfl ?_
        have n1 := fin (gBy (ml (SS t) p + z) (i - 4)) (by
          rw [show (i / 4).toNat = 1 by omega, show i % 4 = i - 4 by omega, hz]
          rfl)
        repeat (first | exact n1 | refine go_pure hM rfl ?_ | refine go_get hM rfl hr_o rfl ?_ | refine go_ldc hM rfl ?_)
      repeat (first | refine go_pure hM rfl ?_ | refine go_get hM rfl hr_o rfl ?_ | refine go_ldc hM rfl ?_)
      refine go_iald hM rfl hr_L (by omega) (by omega) (by omega) ?_
      rw [tp, d2]
      repeat (first | refine go_pure hM rfl ?_ | refine go_get hM rfl hr_o rfl ?_ | refine go_ldc hM rfl ?_)
      refine go_zald hM rfl hr_W (by omega) (by omega) (by omega) ?_
      rw [tp, d4]
      refine go_if_eq hM rfl (by omega) (fun h3 => ?_) (fun h3 => ?_)
      · have n1 := tl 32768 (by rw [h3]; rfl)
        repeat (first | exact n1 | refine go_pure hM rfl ?_ | refine go_get hM rfl hr_o rfl ?_ | refine go_ldc hM rfl ?_)
      · have n1 := tl 0 (by rw [show mw (SS t) p = 1 by omega]; rfl)
        repeat (first | exact n1 | refine go_pure hM rfl ?_ | refine go_get hM rfl hr_o rfl ?_ | refine go_ldc hM rfl ?_)
  · repeat (first | refine go_pure hM rfl ?_ | refine go_get hM rfl hr_o rfl ?_ | refine go_ldc hM rfl ?_)
    refine go_iald hM rfl hr_S (by omega) (by omega) (by omega) ?_
    rw [tp, d1]
    repeat (first | refine go_pure hM rfl ?_ | refine go_get hM rfl hr_o rfl ?_ | refine go_ldc hM rfl ?_)
    refine go_cV hM rfl rfl rfl hr_o rfl (m_byteIn (by omega) (by omega)) rfl ?_
    have n1 := fin (gBy (ms (SS t) p) i) (by
      rw [show (i / 4).toNat = 0 by omega, show i % 4 = i by omega]
      rfl)
    repeat (first | exact n1 | refine go_pure hM rfl ?_ | refine go_get hM rfl hr_o rfl ?_ | refine go_ldc hM rfl ?_)
/-- the number of the first run below a node -/
theorem m_firstRun (hs : RS R SS m) (hr : RR R SS) (hg : Gd SS m) (ht : t < 4) {l p : Nat} (hl : l < md (SS t)) (hp : p < mK (SS t) l) : Rd G m_Mod_firstRun [vR 541, vI t, vI l, vI ((256 * l + oF (KS SS) l t + p : Nat) : Int)] N (hrx R h) (some (vI ((bg SS t + fr (mc (SS t)) (l + 1) p : Nat) : Int))) N (hrx R h) := by
  refine Rn.of rfl rfl rfl ?_
  have hM := ok_Mod_firstRun
  obtain ⟨s1, s2, s3, s4, s5⟩ := hs
  have hsh := (hg.2.1 t ht).1
  have hd5 := hsh.1
  obtain ⟨r1, r2, r3⟩ := hr
  have bt := bg_le (SS := SS) ht
  have b1 : R.2.2 0 t = ((bg SS t : Nat) : Int) := r2 t (by omega)
  have tt : ((t : Nat) : Int).toNat = t := by omega
  have kS : ∀ k, k < md (SS t) → KS SS t k = mK (SS t) k := fun k hk => if_pos hk
  have rdE : ∀ k q, k < md (SS t) → q < mK (SS t) k → R.2.2 8 (256 * k + oF (KS SS) k t + q) = (mc (SS t) k q : Int) ∧ 256 * k + oF (KS SS) k t + q < 1536 := by
    intro k q hk hq
    have h1 := oF_le (K := KS SS) (l := k) ht
    have h2 := hg.2.2.2.1 k
    have h3 := kS k hk
    exact ⟨(s3.2.2 t ht k (by omega) q (by omega)).2, by omega⟩
  have cnt : ∀ k, k ≤ md (SS t) → ∀ q, q ≤ mK (SS t) k → sm (mc (SS t) k) q ≤ mI (SS t) k := fun k hk q hq => by
    rw [← hsh.2.2.2.1 k hk]
    exact sm_mono hq
  have mI1 : ∀ k, mI (SS t) (k + 1) = mK (SS t) k := fun k => rfl
  have fin : ∀ (q j p0 : Nat) (i5 i6 : Int) (y7 : Option gV) (i4 : Int), p0 ≤ mK (SS t) 0 → i4 = ((256 * 0 + oF (KS SS) 0 t + p0 : Nat) : Int) → q + j = p0 → i6 = ((256 * 0 + oF (KS SS) 0 t + j : Nat) : Int) → i5 = ((bg SS t + sm (mc (SS t) 0) j : Nat) : Int) → Go G m_Mod_firstRun (gFin G (gEq (some (vI ((bg SS t + sm (mc (SS t) 0) p0 : Nat) : Int))) N (hrx R h)) gNo) 82 [some (vR 541), some (vI t), some (vI l), some (vI ((256 * l + oF (KS SS) l t + p : Nat) : Int)), some (vI i4), some (vI i5), some (vI i6), y7] [] N (hrx R h) 0 0 := by
    intro q
    induction q with
    | zero =>
      intro j p0 i5 i6 y7 i4 g0 g1 g2 g3 g4
      subst g1
      subst g3
      subst g4
      have g2 : j = p0 := by omega
      subst g2
      have h1 := oF_le (K := KS SS) (l := 0) ht
      have h2 := hg.2.2.2.1 0
      have h3 := kS 0 (by omega)
      repeat (first | refine go_pure hM rfl ?_ | refine go_get hM rfl hr_o rfl ?_ | refine go_ldc hM rfl ?_)
      refine go_icmp_ge hM rfl (by omega) (by omega) (fun _ => ?_) (fun h9 => absurd h9 (by omega))
      repeat (first | refine go_pure hM rfl ?_ | refine go_get hM rfl hr_o rfl ?_ | refine go_ldc hM rfl ?_)
      exact go_iret hM rfl rfl ⟨rfl, rfl, rfl⟩
    | succ q ih =>
      intro j p0 i5 i6 y7 i4 g0 g1 g2 g3 g4
      subst g1
      subst g3
      subst g4
      obtain ⟨ev, ei⟩ := rdE 0 j (by omega) (by omega)
      have h1 := oF_le (K := KS SS) (l := 0) ht
      have h2 := hg.2.2.2.1 0
      have h3 := kS 0 (by omega)
      have nx := ih (j + 1) p0 (((bg SS t + sm (mc (SS t) 0) j : Nat) : Int) + (mc (SS t) 0 j : Int)) (((256 * 0 + oF (KS SS) 0 t + j : Nat) : Int) + 1) y7 ((256 * 0 + oF (KS SS) 0 t + p0 : Nat) : Int) g0 rfl (by omega) (by omega) (by
        show _ = ((bg SS t + (sm (mc (SS t) 0) j + mc (SS t) 0 j) : Nat) : Int)
        omega)
      repeat (first | refine go_pure hM rfl ?_ | refine go_get hM rfl hr_o rfl ?_ | refine go_ldc hM rfl ?_)
      refine go_icmp_ge hM rfl (by omega) (by omega) (fun h9 => absurd h9 (by omega)) (fun _ => ?_)
      repeat (first | refine go_pure hM rfl ?_ | refine go_get hM rfl hr_o rfl ?_ | refine go_ldc hM rfl ?_)
      refine go_iald hM rfl hr_E (by omega) (by omega) (by omega) ?_
      rw [show ((256 * 0 + oF (KS SS) 0 t + j : Nat) : Int).toNat = 256 * 0 + oF (KS SS) 0 t + j by omega, ev]
      repeat (first | exact nx | refine go_pure hM rfl ?_ | refine go_get hM rfl hr_o rfl ?_ | refine go_ldc hM rfl ?_)
  have out : ∀ (k pk : Nat) (i5 i4 : Int) (y6 y7 : Option gV), k < md (SS t) → pk ≤ mK (SS t) k → i5 = k → i4 = ((256 * k + oF (KS SS) k t + pk : Nat) : Int) → Go G m_Mod_firstRun (gFin G (gEq (some (vI ((bg SS t + fr (mc (SS t)) (k + 1) pk : Nat) : Int))) N (hrx R h)) gNo) 6 [some (vR 541), some (vI t), some (vI l), some (vI ((256 * l + oF (KS SS) l t + p : Nat) : Int)), some (vI i4), some (vI i5), y6, y7] [] N (hrx R h) 0 0 := by
    intro k
    induction k with
    | zero =>
      intro pk i5 i4 y6 y7 g0 g1 g2 g3
      subst g2
      subst g3
      have lv := s3.lv (g2 := t) (l2 := 0) (by omega) (by omega)
      have n1 := fin pk 0 pk ((bg SS t : Nat) : Int) ((256 * 0 + oF (KS SS) 0 t : Nat) : Int) y7 _ g1 rfl (by omega) (by omega) (by
        show _ = ((bg SS t + 0 : Nat) : Int)
        omega)
      repeat (first | refine go_pure hM rfl ?_ | refine go_get hM rfl hr_o rfl ?_ | refine go_ldc hM rfl ?_)
      refine go_if_le hM rfl (by omega) (fun _ => ?_) (fun h9 => absurd (show ((0 : Nat) : Int) ≤ 0 by omega) h9)
      repeat (first | refine go_pure hM rfl ?_ | refine go_get hM rfl hr_o rfl ?_ | refine go_ldc hM rfl ?_)
      refine go_iald hM rfl hr_B (by omega) (by omega) (by omega) ?_
      rw [tt, b1]
      repeat (first | refine go_pure hM rfl ?_ | refine go_get hM rfl hr_o rfl ?_ | refine go_ldc hM rfl ?_)
      refine go_cV hM rfl rfl rfl hr_o rfl (m_levelOf (f := t) (l := 0) (by omega) (by omega)) rfl ?_
      rw [lv]
      repeat (first | exact n1 | refine go_pure hM rfl ?_ | refine go_get hM rfl hr_o rfl ?_ | refine go_ldc hM rfl ?_)
    | succ k ih =>
      intro pk i5 i4 y6 y7 g0 g1 g2 g3
      subst g2
      subst g3
      have lv := s3.lv (g2 := t) (l2 := k) (by omega) (by omega)
      have lv1 := s3.lv (g2 := t) (l2 := k + 1) (by omega) (by omega)
      have h1 := oF_le (K := KS SS) (l := k + 1) ht
      have h2 := hg.2.2.2.1 (k + 1)
      have h3 := kS (k + 1) g0
      have inner : ∀ (q j : Nat) (i6 i7 : Int), q + j = pk → i7 = ((256 * (k + 1) + oF (KS SS) (k + 1) t + j : Nat) : Int) → i6 = ((256 * k + oF (KS SS) k t + sm (mc (SS t) (k + 1)) j : Nat) : Int) → Go G m_Mod_firstRun (gFin G (gEq (some (vI ((bg SS t + fr (mc (SS t)) (k + 1 + 1) pk : Nat) : Int))) N (hrx R h)) gNo) 31 [some (vR 541), some (vI t), some (vI l), some (vI ((256 * l + oF (KS SS) l t + p : Nat) : Int)), some (vI ((256 * (k + 1) + oF (KS SS) (k + 1) t + pk : Nat) : Int)), some (vI ((k + 1 : Nat) : Int)), some (vI i6), some (vI i7)] [] N (hrx R h) 0 0 := by
        intro q
        induction q with
        | zero =>
          intro j i6 i7 e1 e2 e3
          subst e2
          subst e3
          have e1 : j = pk := by omega
          subst e1
          have cb := cnt (k + 1) (by omega) j g1
          rw [mI1] at cb
          have nx := ih (sm (mc (SS t) (k + 1)) j) (((k + 1 : Nat) : Int) + -1) ((256 * k + oF (KS SS) k t + sm (mc (SS t) (k + 1)) j : Nat) : Int) (some (vI ((256 * k + oF (KS SS) k t + sm (mc (SS t) (k + 1)) j : Nat) : Int))) (some (vI ((256 * (k + 1) + oF (KS SS) (k + 1) t + j : Nat) : Int))) (by omega) cb (by omega) rfl
          repeat (first | refine go_pure hM rfl ?_ | refine go_get hM rfl hr_o rfl ?_ | refine go_ldc hM rfl ?_)
          refine go_icmp_ge hM rfl (by omega) (by omega) (fun _ => ?_) (fun h9 => absurd h9 (by omega))
          repeat (first | exact nx | refine go_pure hM rfl ?_ | refine go_get hM rfl hr_o rfl ?_ | refine go_ldc hM rfl ?_)
        | succ q ih2 =>
          intro j i6 i7 e1 e2 e3
          subst e2
          subst e3
          obtain ⟨ev, ei⟩ := rdE (k + 1) j g0 (by omega)
          have nx := ih2 (j + 1) (((256 * k + oF (KS SS) k t + sm (mc (SS t) (k + 1)) j : Nat) : Int) + (mc (SS t) (k + 1) j : Int)) (((256 * (k + 1) + oF (KS SS) (k + 1) t + j : Nat) : Int) + 1) (by omega) (by omega) (by
            show _ = ((256 * k + oF (KS SS) k t + (sm (mc (SS t) (k + 1)) j + mc (SS t) (k + 1) j) : Nat) : Int)
            omega)
          repeat (first | refine go_pure hM rfl ?_ | refine go_get hM rfl hr_o rfl ?_ | refine go_ldc hM rfl ?_)
          refine go_icmp_ge hM rfl (by omega) (by omega) (fun h9 => absurd h9 (by omega)) (fun _ => ?_)
          repeat (first | refine go_pure hM rfl ?_ | refine go_get hM rfl hr_o rfl ?_ | refine go_ldc hM rfl ?_)
          refine go_iald hM rfl hr_E (by omega) (by omega) (by omega) ?_
          rw [show ((256 * (k + 1) + oF (KS SS) (k + 1) t + j : Nat) : Int).toNat = 256 * (k + 1) + oF (KS SS) (k + 1) t + j by omega, ev]
          repeat (first | exact nx | refine go_pure hM rfl ?_ | refine go_get hM rfl hr_o rfl ?_ | refine go_ldc hM rfl ?_)
      have n1 := inner pk 0 ((256 * k + oF (KS SS) k t : Nat) : Int) ((256 * (k + 1) + oF (KS SS) (k + 1) t : Nat) : Int) (by omega) (by omega) (by
        show _ = ((256 * k + oF (KS SS) k t + 0 : Nat) : Int)
        omega)
      repeat (first | refine go_pure hM rfl ?_ | refine go_get hM rfl hr_o rfl ?_ | refine go_ldc hM rfl ?_)
      refine go_if_le hM rfl (by omega) (fun h9 => absurd h9 (by omega)) (fun _ => ?_)
      repeat (first | refine go_pure hM rfl ?_ | refine go_get hM rfl hr_o rfl ?_ | refine go_ldc hM rfl ?_)
      rw [show ((k + 1 : Nat) : Int) - 1 = (k : Int) by omega]
      refine go_cV hM rfl rfl rfl hr_o rfl (m_levelOf (f := t) (l := k) (by omega) (by omega)) rfl ?_
      rw [lv]
      repeat (first | refine go_pure hM rfl ?_ | refine go_get hM rfl hr_o rfl ?_ | refine go_ldc hM rfl ?_)
      refine go_cV hM rfl rfl rfl hr_o rfl (m_levelOf (f := t) (l := k + 1) (by omega) (by omega)) rfl ?_
      rw [lv1]
      repeat (first | exact n1 | refine go_pure hM rfl ?_ | refine go_get hM rfl hr_o rfl ?_ | refine go_ldc hM rfl ?_)
  have n1 := out l p (l : Int) ((256 * l + oF (KS SS) l t + p : Nat) : Int) none none hl (by omega) rfl rfl
  repeat (first | exact n1 | refine go_pure hM rfl ?_ | refine go_get hM rfl hr_o rfl ?_ | refine go_ldc hM rfl ?_)
end
