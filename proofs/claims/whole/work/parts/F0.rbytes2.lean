/-! the reference: bytesOf, rootByte, nodeByte -/
section
variable {G : gG} {N : Option Nat} {h : gH} {R : rA} {SS : Nat → mS} {t m : Nat} {f b i x c r : Int}
set_option maxHeartbeats 2000000 in
theorem m_nodeEntryByte (hs : RS R SS m) (hr : RR R SS) (hg : Gd SS m) (ht : t < 4) {l p : Nat} (hl : l < md (SS t)) (hp : p < mK (SS t) l) (hi : 0 ≤ i ∧ i < 12) : Rd G m_Mod_nodeEntryByte [vR 541, vI t, vI l, vI ((256 * l + oF (KS SS) l t + p : Nat) : Int), vI i] N (hrx R h) (some (vI (gBy (it (SS t) (l + 1) p (i / 4).toNat) (i % 4)))) N (hrx R h) := by
  refine Rn.of rfl rfl rfl ?_
  have hM := ok_Mod_nodeEntryByte
  have hsh := (hg.2.1 t ht).1
  have hnn := (hg.2.1 t ht).2
  have hd5 := hsh.1
  have fr1 := m_firstRun (G := G) (N := N) (h := h) hs hr hg ht hl hp
  have npos := hsh.npos (by omega)
  have fb := fr_n hsh npos (l := l + 1) (a := p) (by omega) hp
  obtain ⟨r1, r2, r3⟩ := hr
  have bt := bg_le (SS := SS) ht
  have d1 : R.2.2 1 (bg SS t + fr (mc (SS t)) (l + 1) p) = ms (SS t) (fr (mc (SS t)) (l + 1) p) := (r3 t ht _ fb).1
  have c0 := hnn.1 _ fb
  have kS : KS SS t l = mK (SS t) l := if_pos hl
  have ev : R.2.2 7 (256 * l + oF (KS SS) l t + p) = (mb (SS t) l p : Int) := (hs.2.2.1.2.2 t ht l (by omega) p (by omega)).1
  have h1 := oF_le (K := KS SS) (l := l) ht
  have h2 := hg.2.2.2.1 l
  have bb := (hsh.2.2.2.2.1 l hl p hp).2.2
  have fin : ∀ z : Int, z = gBy (it (SS t) (l + 1) p (i / 4).toNat) (i % 4) → Go G m_Mod_nodeEntryByte (gFin G (gEq (some (vI (gBy (it (SS t) (l + 1) p (i / 4).toNat) (i % 4)))) N (hrx R h)) gNo) 52 [some (vR 541), some (vI t), some (vI l), some (vI ((256 * l + oF (KS SS) l t + p : Nat) : Int)), some (vI i)] [vI z] N (hrx R h) 0 0 := by
    intro z hz
    rw [hz]
    exact go_iret hM rfl rfl ⟨rfl, rfl, rfl⟩
  repeat (first | refine go_pure hM rfl ?_ | refine go_get hM rfl hr_o rfl ?_ | refine go_ldc hM rfl ?_)
  refine go_icmp_ge hM rfl (by omega) (by omega) (fun g1 => ?_) (fun g1 => ?_)
  · repeat (first | refine go_pure hM rfl ?_ | refine go_get hM rfl hr_o rfl ?_ | refine go_ldc hM rfl ?_)
    refine go_icmp_ge hM rfl (by omega) (by omega) (fun g2 => ?_) (fun g2 => ?_)
    · have n1 := fin 0 (by
        rw [show (i / 4).toNat = 2 by omega]
        exact (gBy_0 _).symm)
      repeat (first | exact n1 | refine go_pure hM rfl ?_ | refine go_get hM rfl hr_o rfl ?_ | refine go_ldc hM rfl ?_)
    · repeat (first | refine go_pure hM rfl ?_ | refine go_get hM rfl hr_o rfl ?_ | refine go_ldc hM rfl ?_)
      refine go_iald hM rfl hr_N (by omega) (by omega) (by omega) ?_
      rw [show ((256 * l + oF (KS SS) l t + p : Nat) : Int).toNat = 256 * l + oF (KS SS) l t + p by omega, ev]
      repeat (first | refine go_pure hM rfl ?_ | refine go_get hM rfl hr_o rfl ?_ | refine go_ldc hM rfl ?_)
      refine go_cV hM rfl rfl rfl hr_o rfl (m_byteIn (by omega) (by omega)) rfl ?_
      have n1 := fin (gBy (mb (SS t) l p : Int) (i - 4)) (by
        rw [show (i / 4).toNat = 1 by omega, show i % 4 = i - 4 by omega]
        rfl)
      repeat (first | exact n1 | refine go_pure hM rfl ?_ | refine go_get hM rfl hr_o rfl ?_ | refine go_ldc hM rfl ?_)
  · repeat (first | refine go_pure hM rfl ?_ | refine go_get hM rfl hr_o rfl ?_ | refine go_ldc hM rfl ?_)
    refine go_cV hM rfl rfl rfl hr_o rfl fr1 rfl ?_
    refine go_iald hM rfl hr_S (by omega) (by omega) (by omega) ?_
    rw [show ((bg SS t + fr (mc (SS t)) (l + 1) p : Nat) : Int).toNat = bg SS t + fr (mc (SS t)) (l + 1) p by omega, d1]
    repeat (first | refine go_pure hM rfl ?_ | refine go_get hM rfl hr_o rfl ?_ | refine go_ldc hM rfl ?_)
    refine go_cV hM rfl rfl rfl hr_o rfl (m_byteIn (by omega) (by omega)) rfl ?_
    have n1 := fin (gBy (ms (SS t) (fr (mc (SS t)) (l + 1) p)) i) (by
      rw [show (i / 4).toNat = 0 by omega, show i % 4 = i by omega]
      rfl)
    repeat (first | exact n1 | refine go_pure hM rfl ?_ | refine go_get hM rfl hr_o rfl ?_ | refine go_ldc hM rfl ?_)
/-- where the items of a node begin in the reference's rows -/
def fsO (SS : Nat → mS) (t l p : Nat) : Nat := match l with
  | 0 => bg SS t + sm (mc (SS t) 0) p
  | l + 1 => 256 * l + oF (KS SS) l t + sm (mc (SS t) (l + 1)) p
theorem head_by {n rr l : Nat} (hi : 0 ≤ i ∧ i < 8) (hn : n ≤ 255) (hr : rr ≤ 255) (hl : l ≤ 255) : gBy (if i / 4 = 0 then 62218 + (n : Int) * 2 ^ 16 else (rr : Int) + (l : Int) * 2 ^ 16) (i % 4) = gBy (hdX i n rr l) (i % 2) := by
  have hc : i = 0 ∨ i = 1 ∨ i = 2 ∨ i = 3 ∨ i = 4 ∨ i = 5 ∨ i = 6 ∨ i = 7 := by omega
  unfold hdX gBy
  rcases hc with rfl | rfl | rfl | rfl | rfl | rfl | rfl | rfl <;> simp <;> omega
set_option maxHeartbeats 4000000 in
theorem m_bytesOf (hs : RS R SS m) (hr : RR R SS) (hg : Gd SS m) (ht : t < 4) {l p rr : Nat} (hl : l ≤ md (SS t)) (hp : p < mK (SS t) l) (hrr : rr ≤ 84) (hi : 0 ≤ i ∧ i < 1024) : Rd G m_Mod_bytesOf [vR 541, vI t, vI i, vI (mc (SS t) l p), vI rr, vI l, vI ((fsO SS t l p : Nat) : Int)] N (hrx R h) (some (vI (nBy (SS t) l p rr i))) N (hrx R h) := by
  refine Rn.of rfl rfl rfl ?_
  have hM := ok_Mod_bytesOf
  have hsh := (hg.2.1 t ht).1
  have hnn := (hg.2.1 t ht).2
  have hd5 := hsh.1
  have hm := hg.1
  have cb : mc (SS t) l p ≤ 84 := by
    by_cases e : l < md (SS t)
    · have := (hsh.2.2.2.2.1 l e p hp).2.1
      omega
    · have e : l = md (SS t) := by omega
      subst e
      have := hsh.2.1
      rw [show p = 0 by omega]
      have := hsh.2.2.2.2.2.1
      omega
  have off := hsh.off hl hp
  repeat (first | refine go_pure hM rfl ?_ | refine go_get hM rfl hr_o rfl ?_ | refine go_ldc hM rfl ?_)
  refine go_icmp_ge hM rfl (by omega) (by omega) (fun g1 => ?_) (fun g1 => ?_)
  · -- behind the head
    have z0 : ¬ (12 ≤ i ∧ (i - 12) / 12 < mc (SS t) l p) → nBy (SS t) l p rr i = 0 := by
      intro hno
      unfold nBy nWb
      rw [if_neg (by omega), if_neg (by omega), if_neg (by omega), gBy_0]
    have go34 : ∀ k : Int, (k = (i - 12) / 12 ∧ 12 ≤ i) ∨ (k = mc (SS t) l p ∧ i < 12) → Go G m_Mod_bytesOf (gFin G (gEq (some (vI (nBy (SS t) l p rr i))) N (hrx R h)) gNo) 34 [some (vR 541), some (vI t), some (vI i), some (vI (mc (SS t) l p)), some (vI rr), some (vI l), some (vI ((fsO SS t l p : Nat) : Int)), none] [vI k] N (hrx R h) 0 0 := by
      intro k hk
      have kr : 0 ≤ k ∧ k ≤ 100 := by omega
      repeat (first | refine go_pure hM rfl ?_ | refine go_get hM rfl hr_o rfl ?_ | refine go_ldc hM rfl ?_)
      refine go_icmp_lt hM rfl (by omega) (by omega) (fun g2 => ?_) (fun g2 => ?_)
      · have hk : k = (i - 12) / 12 ∧ 12 ≤ i := by omega
        obtain ⟨j, hj⟩ : ∃ j : Nat, k = j := ⟨k.toNat, by omega⟩
        have val : nBy (SS t) l p rr i = gBy (it (SS t) l (sm (mc (SS t) l) p + j) (((i - 12) % 12) / 4).toNat) (((i - 12) % 12) % 4) := by
          unfold nBy nWb
          rw [if_neg (by omega), if_neg (by omega), if_pos (by omega), show ((i / 4 - 3) / 3).toNat = j by omega, show ((i / 4 - 3) % 3).toNat = (((i - 12) % 12) / 4).toNat by omega, show i % 4 = ((i - 12) % 12) % 4 by omega]
        repeat (first | refine go_pure hM rfl ?_ | refine go_get hM rfl hr_o rfl ?_ | refine go_ldc hM rfl ?_)
        refine go_if_ne hM rfl (by omega) (fun g3 => ?_) (fun g3 => ?_)
        · obtain ⟨l', rfl⟩ : ∃ l', l = l' + 1 := ⟨l - 1, by omega⟩
          have mi : mI (SS t) (l' + 1) = mK (SS t) l' := rfl
          have ne := m_nodeEntryByte (G := G) (N := N) (h := h) (i := (i - 12) % 12) hs hr hg ht (l := l') (p := sm (mc (SS t) (l' + 1)) p + j) (by omega) (by omega) (by omega)
          have ef : ((fsO SS t (l' + 1) p : Nat) : Int) + k = ((256 * l' + oF (KS SS) l' t + (sm (mc (SS t) (l' + 1)) p + j) : Nat) : Int) := by
            show ((256 * l' + oF (KS SS) l' t + sm (mc (SS t) (l' + 1)) p : Nat) : Int) + k = _
            omega
          repeat (first | refine go_pure hM rfl ?_ | refine go_get hM rfl hr_o rfl ?_ | refine go_ldc hM rfl ?_)
          refine go_irem hM rfl (by omega) (by omega) ?_
          rw [ef, show ((l' + 1 : Nat) : Int) - 1 = (l' : Int) by omega]
          refine go_cV hM rfl rfl rfl hr_o rfl ne rfl ?_
          exact go_iret hM rfl rfl ⟨by rw [val], rfl, rfl⟩
        · have l0 : l = 0 := by omega
          subst l0
          have mi : mI (SS t) 0 = mn (SS t) := rfl
          have rb := m_runByte (G := G) (N := N) (h := h) (i := (i - 12) % 12) hr hnn ht (p := sm (mc (SS t) 0) p + j) (by omega) (by omega)
          have ef : ((fsO SS t 0 p : Nat) : Int) + k = ((bg SS t + (sm (mc (SS t) 0) p + j) : Nat) : Int) := by
            show ((bg SS t + sm (mc (SS t) 0) p : Nat) : Int) + k = _
            omega
          repeat (first | refine go_pure hM rfl ?_ | refine go_get hM rfl hr_o rfl ?_ | refine go_ldc hM rfl ?_)
          refine go_irem hM rfl (by omega) (by omega) ?_
          rw [ef]
          refine go_cV hM rfl rfl rfl hr_o rfl rb rfl ?_
          repeat (first | refine go_pure hM rfl ?_ | refine go_get hM rfl hr_o rfl ?_ | refine go_ldc hM rfl ?_)
          exact go_iret hM rfl rfl ⟨by rw [val], rfl, rfl⟩
      · repeat (first | refine go_pure hM rfl ?_ | refine go_get hM rfl hr_o rfl ?_ | refine go_ldc hM rfl ?_)
        exact go_iret hM rfl rfl ⟨by rw [z0 (by omega)], rfl, rfl⟩
    repeat (first | refine go_pure hM rfl ?_ | refine go_get hM rfl hr_o rfl ?_ | refine go_ldc hM rfl ?_)
    refine go_icmp_ge hM rfl (by omega) (by omega) (fun g2 => ?_) (fun g2 => ?_)
    · have n1 := go34 ((i - 12) / 12) (Or.inl ⟨rfl, g2⟩)
      repeat (first | refine go_pure hM rfl ?_ | refine go_get hM rfl hr_o rfl ?_ | refine go_ldc hM rfl ?_)
      refine go_idiv hM rfl (by omega) (by omega) ?_
      exact n1
    · have n1 := go34 (mc (SS t) l p) (Or.inr ⟨rfl, by omega⟩)
      repeat (first | exact n1 | refine go_pure hM rfl ?_ | refine go_get hM rfl hr_o rfl ?_ | refine go_ldc hM rfl ?_)
  · repeat (first | refine go_pure hM rfl ?_ | refine go_get hM rfl hr_o rfl ?_ | refine go_ldc hM rfl ?_)
    refine go_cV hM rfl rfl rfl hr_o rfl (m_headByte (i := i) (n := (mc (SS t) l p : Int)) (r := (rr : Int)) (d := (l : Int)) (by omega) (by omega) (by omega) (by omega)) rfl ?_
    refine go_iret hM rfl rfl ⟨?_, rfl, rfl⟩
    rw [← head_by (i := i) (n := mc (SS t) l p) (rr := rr) (l := l) (by omega) (by omega) (by omega) (by omega)]
    unfold nBy nWb
    by_cases e : i / 4 = 0
    · rw [if_pos e, if_pos e]
    · rw [if_neg e, if_neg e, if_pos (by omega)]
end
