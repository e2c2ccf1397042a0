/-! what is asked of a file, by its runs -/
/-- the last run that begins at a block or before it, or -1 -/
def lsR (s : Nat → Int) (b : Int) : Nat → Int
  | 0 => -1
  | k + 1 => if s k ≤ b then (k : Int) else lsR s b k
theorem lsR_spec {S : mS} (hr : mRn S) (b : Int) : (-1 ≤ lsR (ms S) b (mn S) ∧ lsR (ms S) b (mn S) < mn S) ∧ (0 ≤ lsR (ms S) b (mn S) → ms S (lsR (ms S) b (mn S)).toNat ≤ b) ∧ (lsR (ms S) b (mn S) + 1 < mn S → b < ms S (lsR (ms S) b (mn S) + 1).toNat) := by
  have key : ∀ k, k ≤ mn S → (-1 ≤ lsR (ms S) b k ∧ lsR (ms S) b k < k) ∧ (0 ≤ lsR (ms S) b k → ms S (lsR (ms S) b k).toNat ≤ b) ∧ (lsR (ms S) b k + 1 < k → b < ms S (lsR (ms S) b k + 1).toNat) := by
    intro k
    induction k with
    | zero =>
      intro _
      refine ⟨by simp [lsR], fun h => ?_, fun h => ?_⟩
      · exact absurd h (by simp [lsR])
      · exact absurd h (by simp [lsR])
    | succ k ih =>
      intro hk
      obtain ⟨a1, a2, a3⟩ := ih (by omega)
      unfold lsR
      by_cases h : ms S k ≤ b
      · rw [if_pos h]
        refine ⟨by omega, fun _ => ?_, fun h9 => by omega⟩
        rw [show (k : Int).toNat = k by omega]
        exact h
      · rw [if_neg h]
        refine ⟨by omega, a2, fun h9 => ?_⟩
        by_cases h8 : lsR (ms S) b k + 1 < k
        · exact a3 h8
        · rw [show (lsR (ms S) b k + 1).toNat = k by omega]
          omega
  exact key (mn S) (Nat.le_refl _)
section
variable {A : cA} {S : mS} {t m : Nat} {b i : Int}
/-- the run found -/
theorem run_at (ht : t < 4) (hs : mSh S t m) (hr : mRn S) (ha : mAb A t S) (hi : 0 ≤ i ∧ i < mn S) : eF A (pW S i (md S)) (pP S i (md S)) = ms S i.toNat ∧ eL A (pW S i (md S)) (pP S i (md S)) = ml S i.toNat ∧ eV A (pW S i (md S)) (pP S i (md S)) = mv S i.toNat ∧ eW A (pW S i (md S)) (pP S i (md S)) = mw S i.toNat := by
  obtain ⟨a1, a2, a3⟩ := mQ_in hs (i := i.toNat) (l := 0) (by omega) (by omega)
  have a1 : mQ S i.toNat 1 < mK S 0 := a1
  have a2 : sm (mc S 0) (mQ S i.toNat 1) ≤ i.toNat := a2
  have a3 : i.toNat < sm (mc S 0) (mQ S i.toNat 1) + mc S 0 (mQ S i.toNat 1) := a3
  obtain ⟨b1, b2, b3⟩ := ha 0 (by omega) (mQ S i.toNat 1) a1
  have e1 : pW S i (md S) = mb S 0 (mQ S i.toNat 1) := by
    unfold pW
    rw [Nat.sub_self]
  have e2 : pP S i (md S) = ((i.toNat - sm (mc S 0) (mQ S i.toNat 1) : Nat) : Int) := by
    unfold pP
    rw [if_pos rfl]
    omega
  obtain ⟨c1, c2, c3⟩ := b3 (i.toNat - sm (mc S 0) (mQ S i.toNat 1)) (by omega)
  have e3 : sm (mc S 0) (mQ S i.toNat 1) + (i.toNat - sm (mc S 0) (mQ S i.toNat 1)) = i.toNat := by omega
  have c1 : aWf A (mb S 0 (mQ S i.toNat 1)) ((i.toNat - sm (mc S 0) (mQ S i.toNat 1)) * 3) = ms S i.toNat := by
    have := c1
    rw [e3] at this
    exact this
  have c2 : aWf A (mb S 0 (mQ S i.toNat 1)) ((i.toNat - sm (mc S 0) (mQ S i.toNat 1)) * 3 + 1) = ml S i.toNat + (1 - mw S i.toNat) * 32768 := by
    have := c2
    simp only at this
    rw [e3] at this
    exact this
  have c3 : aWf A (mb S 0 (mQ S i.toNat 1)) ((i.toNat - sm (mc S 0) (mQ S i.toNat 1)) * 3 + 2) = mv S i.toNat := by
    have := c3
    simp only at this
    rw [e3] at this
    exact this
  obtain ⟨r1, r2, r3, r4, r5, r6, r7⟩ := hr.1 i.toNat (by omega)
  generalize i.toNat - sm (mc S 0) (mQ S i.toNat 1) = j at *
  generalize mQ S i.toNat 1 = p at *
  have hin : 0 ≤ (j : Int) ∧ (j : Int) < aEn A (mb S 0 p) := by
    rw [b2]
    omega
  rw [e1, e2]
  have g0 : gWd (aWf A (mb S 0 p)) (aEn A (mb S 0 p)) j 0 = ms S i.toNat := by
    rw [gWd_in hin, show ((j : Int) * 3 + 0).toNat = j * 3 by omega]
    exact c1
  have g1 : gWd (aWf A (mb S 0 p)) (aEn A (mb S 0 p)) j 1 = ml S i.toNat + (1 - mw S i.toNat) * 32768 := by
    rw [gWd_in hin, show ((j : Int) * 3 + 1).toNat = j * 3 + 1 by omega]
    exact c2
  have g2 : gWd (aWf A (mb S 0 p)) (aEn A (mb S 0 p)) j 2 = mv S i.toNat := by
    rw [gWd_in hin, show ((j : Int) * 3 + 2).toNat = j * 3 + 2 by omega]
    exact c3
  refine ⟨g0, ?_, g2, ?_⟩
  · unfold eL
    rw [g1]
    unfold gLn
    rcases r4 with h | h <;> rw [h] at r5 ⊢ <;> split <;> omega
  · unfold eW
    rw [g1]
    rcases r4 with h | h
    · rw [if_neg (by rw [h]; omega), h]
    · rw [if_pos ⟨hin, by rw [h]; omega⟩, h]
/-- no run found reads as zeros -/
theorem run_no : eF A (pW S (-1) (md S)) (pP S (-1) (md S)) = 0 ∧ eL A (pW S (-1) (md S)) (pP S (-1) (md S)) = 0 ∧ eV A (pW S (-1) (md S)) (pP S (-1) (md S)) = 0 ∧ eW A (pW S (-1) (md S)) (pP S (-1) (md S)) = 0 := by
  have h : pP S (-1) (md S) < 0 := by
    unfold pP
    rw [if_pos rfl]
    omega
  generalize pP S (-1) (md S) = p at *
  refine ⟨?_, ?_, ?_, ?_⟩
  · unfold eF
    rw [gWd_out (by omega)]
  · unfold eL
    rw [gWd_out (by omega)]
    rfl
  · unfold eV
    rw [gWd_out (by omega)]
  · unfold eW
    rw [if_neg (by omega)]
/-- the places of the way -/
theorem pP_b (hs : mSh S t m) (hi : -1 ≤ i ∧ i < mn S) {k : Nat} (hk : k ≤ md S) : mQ S i.toNat (md S - k + 1) < mK S (md S - k) ∧ -1 ≤ pP S i k ∧ pP S i k + 1 ≤ mc S (md S - k) (mQ S i.toNat (md S - k + 1)) ∧ (k < md S → pP S i k = (mQ S i.toNat (md S - k) : Int) - sm (mc S (md S - k)) (mQ S i.toNat (md S - k + 1)) ∧ 0 ≤ pP S i k) := by
  by_cases hn : 0 < mn S
  · obtain ⟨a1, a2, a3⟩ := mQ_in hs (i := i.toNat) (l := md S - k) (by omega) (by omega)
    refine ⟨a1, ?_⟩
    unfold pP
    by_cases hkd : k = md S
    · rw [if_pos hkd]
      rw [hkd, Nat.sub_self] at a2 a3 ⊢
      have a2 : sm (mc S 0) (mQ S i.toNat 1) ≤ i.toNat := a2
      have a3 : i.toNat < sm (mc S 0) (mQ S i.toNat 1) + mc S 0 (mQ S i.toNat 1) := a3
      refine ⟨by omega, ?_, fun h => by omega⟩
      show i - _ + 1 ≤ ((mc S 0 (mQ S i.toNat 1) : Nat) : Int)
      omega
    · rw [if_neg hkd]
      exact ⟨by omega, by omega, fun _ => ⟨rfl, by omega⟩⟩
  · have hd0 : md S = 0 := by
      by_cases h9 : 0 < md S
      · exact absurd (hs.npos h9) hn
      · omega
    have hk0 : k = 0 := by omega
    have hK := hs.2.1
    have hi1 : i = -1 := by omega
    have hz : mQ S i.toNat 1 = 0 := by
      show lc (mc S 0) (mQ S i.toNat 0) (mK S 0) = 0
      rw [hd0] at hK
      rw [hK]
      unfold lc
      rw [if_pos (show sm (mc S 0) 0 ≤ mQ S i.toNat 0 from Nat.zero_le _)]
    have e0 : md S - k = 0 := by omega
    rw [e0]
    have hz' : mQ S i.toNat (0 + 1) = 0 := hz
    rw [hz']
    rw [hd0] at hK
    refine ⟨by omega, ?_, ?_, fun h => by omega⟩
    · unfold pP
      rw [if_pos (by omega), hz, hi1]
      exact Int.le_refl _
    · unfold pP
      rw [if_pos (by omega), hz, hi1]
      show (-1 : Int) - ((0 : Nat) : Int) + 1 ≤ _
      omega
/-- the first block of the run behind the one found -/
theorem nf_at (hs : mSh S t m) (ha : mAb A t S) (hi : -1 ≤ i ∧ i < mn S) : nf (fnd A t (pW S i) (pP S i) (md S + 1) (md S)) t (md S + 1) = if i + 1 < mn S then ms S (i + 1).toNat else 65536 := by
  have key : ∀ k, k ≤ md S → (∀ q : Nat, (q : Int) = sm (mc S (md S - k)) (mQ S i.toNat (md S - k + 1)) + pP S i k + 1 → ((fr (mc S) (md S - k) q : Nat) : Int) = i + 1) → nf (fnd A t (pW S i) (pP S i) (md S + 1) (md S)) t (k + 1) = if i + 1 < mn S then ms S (i + 1).toNat else 65536 := by
    intro k
    induction k with
    | zero =>
      intro hk hq
      obtain ⟨p1, p2, p3, p4⟩ := pP_b hs hi hk
      obtain ⟨b1, b2, b3⟩ := ha (md S - 0) (by omega) _ p1
      have ho := hs.off (show md S - 0 ≤ md S by omega) p1
      show (if 0 ≤ aPl (fnd A t (pW S i) (pP S i) (md S + 1) (md S)) t 0 + 1 ∧ aPl (fnd A t (pW S i) (pP S i) (md S + 1) (md S)) t 0 + 1 < aEn A (aWy (fnd A t (pW S i) (pP S i) (md S + 1) (md S)) t 0) then gWd (aWf A (aWy (fnd A t (pW S i) (pP S i) (md S + 1) (md S)) t 0)) (aEn A (aWy (fnd A t (pW S i) (pP S i) (md S + 1) (md S)) t 0)) (aPl (fnd A t (pW S i) (pP S i) (md S + 1) (md S)) t 0 + 1) 0 else 65536) = _
      rw [fnd_wy (Nat.zero_le _), fnd_pl (Nat.zero_le _)]
      have hq1 := hq (sm (mc S (md S - 0)) (mQ S i.toNat (md S - 0 + 1)) + (pP S i 0 + 1).toNat) (by omega)
      have e1 : pW S i 0 = mb S (md S - 0) (mQ S i.toNat (md S - 0 + 1)) := rfl
      rw [e1, b2]
      by_cases hc : 0 ≤ pP S i 0 + 1 ∧ pP S i 0 + 1 < mc S (md S - 0) (mQ S i.toNat (md S - 0 + 1))
      · rw [if_pos hc, gWd_in hc, show ((pP S i 0 + 1) * 3 + 0).toNat = (pP S i 0 + 1).toNat * 3 by omega, (b3 _ (by omega)).1]
        have hn : 0 < mn S := by
          by_cases hd : 0 < md S
          · exact hs.npos hd
          · have h8 : mI S (md S - 0) = mn S := by rw [show md S - 0 = 0 by omega]; rfl
            omega
        have h5 := fr_n hs hn (l := md S - 0) (by omega) (show sm (mc S (md S - 0)) (mQ S i.toNat (md S - 0 + 1)) + (pP S i 0 + 1).toNat < mI S (md S - 0) by omega)
        rw [if_pos (by omega)]
        congr 1
        omega
      · rw [if_neg hc]
        have e2 : sm (mc S (md S - 0)) (mQ S i.toNat (md S - 0 + 1)) + (pP S i 0 + 1).toNat = mI S (md S - 0) := by
          have h6 := hs.2.2.2.1 (md S - 0) (by omega)
          have h7 := hs.2.1
          rw [Nat.sub_zero] at *
          have h8 : mQ S i.toNat (md S + 1) = 0 := by omega
          rw [h7] at h6
          have h9 : sm (mc S (md S)) 1 = 0 + mc S (md S) 0 := rfl
          rw [h8] at p3 hc ⊢
          have h10 : sm (mc S (md S)) 0 = 0 := rfl
          omega
        rw [e2, fr_top hs _ (by omega)] at hq1
        rw [if_neg (by omega)]
    | succ k ih =>
      intro hk hq
      obtain ⟨p1, p2, p3, p4⟩ := pP_b hs hi hk
      obtain ⟨b1, b2, b3⟩ := ha (md S - (k + 1)) (by omega) _ p1
      have ho := hs.off (show md S - (k + 1) ≤ md S by omega) p1
      have hn : 0 < mn S := hs.npos (by omega)
      show (if 0 ≤ aPl (fnd A t (pW S i) (pP S i) (md S + 1) (md S)) t (k + 1) + 1 ∧ aPl (fnd A t (pW S i) (pP S i) (md S + 1) (md S)) t (k + 1) + 1 < aEn A (aWy (fnd A t (pW S i) (pP S i) (md S + 1) (md S)) t (k + 1)) then gWd (aWf A (aWy (fnd A t (pW S i) (pP S i) (md S + 1) (md S)) t (k + 1))) (aEn A (aWy (fnd A t (pW S i) (pP S i) (md S + 1) (md S)) t (k + 1))) (aPl (fnd A t (pW S i) (pP S i) (md S + 1) (md S)) t (k + 1) + 1) 0 else nf (fnd A t (pW S i) (pP S i) (md S + 1) (md S)) t (k + 1)) = _
      rw [fnd_wy hk, fnd_pl hk]
      have hq1 := hq (sm (mc S (md S - (k + 1))) (mQ S i.toNat (md S - (k + 1) + 1)) + (pP S i (k + 1) + 1).toNat) (by omega)
      have e1 : pW S i (k + 1) = mb S (md S - (k + 1)) (mQ S i.toNat (md S - (k + 1) + 1)) := rfl
      rw [e1, b2]
      by_cases hc : 0 ≤ pP S i (k + 1) + 1 ∧ pP S i (k + 1) + 1 < mc S (md S - (k + 1)) (mQ S i.toNat (md S - (k + 1) + 1))
      · rw [if_pos hc, gWd_in hc, show ((pP S i (k + 1) + 1) * 3 + 0).toNat = (pP S i (k + 1) + 1).toNat * 3 by omega, (b3 _ (by omega)).1]
        have h5 := fr_n hs hn (l := md S - (k + 1)) (by omega) (show sm (mc S (md S - (k + 1))) (mQ S i.toNat (md S - (k + 1) + 1)) + (pP S i (k + 1) + 1).toNat < mI S (md S - (k + 1)) by omega)
        rw [if_pos (by omega)]
        congr 1
        omega
      · rw [if_neg hc]
        refine ih (by omega) (fun q hq9 => ?_)
        obtain ⟨l, hl⟩ : ∃ l, md S - (k + 1) = l ∧ md S - k = l + 1 := ⟨md S - (k + 1), rfl, by omega⟩
        obtain ⟨hl1, hl2⟩ := hl
        have p5 := ((pP_b hs hi (show k ≤ md S by omega)).2.2.2 (by omega)).1
        rw [hl2] at p5 hq9 ⊢
        rw [hl1] at hq1 p3 hc
        have e2 : q = mQ S i.toNat (l + 1) + 1 := by omega
        have e3 : sm (mc S l) (mQ S i.toNat (l + 1)) + (pP S i (k + 1) + 1).toNat = sm (mc S l) (mQ S i.toNat (l + 1) + 1) := by
          show _ = sm (mc S l) (mQ S i.toNat (l + 1)) + mc S l (mQ S i.toNat (l + 1))
          omega
        rw [e2]
        show ((fr (mc S) l (sm (mc S l) (mQ S i.toNat (l + 1) + 1)) : Nat) : Int) = i + 1
        rw [← e3]
        exact hq1
  refine key (md S) (Nat.le_refl _) (fun q hq => ?_)
  rw [Nat.sub_self] at hq ⊢
  have e1 : pP S i (md S) = i - sm (mc S 0) (mQ S i.toNat 1) := by
    unfold pP
    rw [if_pos rfl]
  have hq : (q : Int) = sm (mc S 0) (mQ S i.toNat 1) + pP S i (md S) + 1 := hq
  show ((q : Nat) : Int) = i + 1
  omega
end
