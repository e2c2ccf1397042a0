/-! a run becomes another one, in its place -/
def sSet (S : mS) (i : Nat) (x n v w : Int) : mS := (mn S, gF (ms S) i x, gF (ml S) i n, gF (mv S) i v, gF (mw S) i w, md S, mK S, mb S, mc S)
section
variable {A : cA} {S : mS} {t m : Nat} {i : Nat} {x n v w : Int}
theorem fr_is (hs : mSh S t m) (hi : i < mn S) {l q : Nat} (hl : l ≤ md S + 1) (hq : q < mI S l) (h : fr (mc S) l q = i) : q = mQ S i l := by
  obtain ⟨c1, c2⟩ := mQ_fr hs hi l hl
  have hn : 0 < mn S := by omega
  rcases Nat.lt_trichotomy q (mQ S i l) with h1 | h1 | h1
  · have := fr_lt hs hn l hl q (mQ S i l) h1 (Nat.le_of_lt (mQ_lt hs hi l hl))
    omega
  · exact h1
  · have := fr_le hs hn (l := l) (a := mQ S i l + 1) (b := q) hl (by omega) (by omega)
    omega
theorem pW_n (S : mS) (i k : Nat) : pW S (i : Int) k = mb S (md S - k) (mQ S i (md S - k + 1)) := by
  unfold pW
  rw [show ((i : Nat) : Int).toNat = i by omega]
theorem pP_n (hs : mSh S t m) (hi : i < mn S) {k : Nat} (hk : k < md S) : pP S (i : Int) k = (mQ S i (md S - k - 1 + 1) : Int) - sm (mc S (md S - k)) (mQ S i (md S - k + 1)) := by
  unfold pP
  rw [if_neg (by omega), show ((i : Nat) : Int).toNat = i by omega, show md S - k - 1 + 1 = md S - k by omega]
theorem pP_d (S : mS) (i : Nat) : pP S (i : Int) (md S) = (i : Int) - sm (mc S 0) (mQ S i 1) := by
  unfold pP
  rw [if_pos rfl, show ((i : Nat) : Int).toNat = i by omega]
theorem gT3_at {f : Nat → Int} {k : Nat} {a b c : Int} : gT3 f k a b c k = a ∧ gT3 f k a b c (k + 1) = b ∧ gT3 f k a b c (k + 2) = c := by
  unfold gT3
  refine ⟨?_, ?_, ?_⟩
  · rw [gF_n (by omega), gF_n (by omega), gF_s]
  · rw [gF_n (by omega), gF_s]
  · rw [gF_s]
theorem gT3_n {f : Nat → Int} {k j : Nat} {a b c : Int} (h : j < k ∨ k + 2 < j) : gT3 f k a b c j = f j := by
  unfold gT3
  rw [gF_n (by omega), gF_n (by omega), gF_n (by omega)]
set_option maxHeartbeats 1000000 in
theorem ab_set (hs : mSh S t m) (hj : mInj S) (ha : mAb A t S) (hi : i < mn S) (hw : w = 0 ∨ w = 1) : mAb (srA (fnd A t (pW S i) (pP S i) (md S + 1) (md S)) t (md S) x n v w) t (sSet S i x n v w) := by
  obtain ⟨q1, q2, q3⟩ := mQ_in hs hi (Nat.zero_le (md S))
  have q1 : mQ S i 1 < mK S 0 := q1
  have q2 : sm (mc S 0) (mQ S i 1) ≤ i := q2
  have q3 : i < sm (mc S 0) (mQ S i 1) + mc S 0 (mQ S i 1) := q3
  have hn : 0 < mn S := by omega
  have eW : aWy (fnd A t (pW S i) (pP S i) (md S + 1) (md S)) t (md S) = mb S 0 (mQ S i 1) := by
    rw [fnd_wy (Nat.le_refl _), pW_n, Nat.sub_self]
  have eP : aPl (fnd A t (pW S i) (pP S i) (md S + 1) (md S)) t (md S) = (i : Int) - sm (mc S 0) (mQ S i 1) := by
    rw [fnd_pl (Nat.le_refl _), pP_d]
  have e0 : (aPl (fnd A t (pW S i) (pP S i) (md S + 1) (md S)) t (md S) * 3).toNat = (i - sm (mc S 0) (mQ S i 1)) * 3 := by
    rw [eP]
    omega
  unfold srA
  rw [e0, eW]
  refine rf_fix (S := sSet S i x n v w) (R := fun l => mQ S i (l + 1)) hj (mQ_way hs hi) (fun l hl => hs.pos hn (Nat.le_of_lt hl) (mQ_in hs hi (Nat.le_of_lt hl)).1) (md S) _ (Nat.le_refl _) (fun k hk => ?_) (fun k hk => ?_) (fun l hl p hp => ?_)
  · show aWy (fnd A t (pW S i) (pP S i) (md S + 1) (md S)) t k = _
    have hk : k ≤ md S := hk
    rw [fnd_wy hk, pW_n]
    rfl
  · show aPl (fnd A t (pW S i) (pP S i) (md S + 1) (md S)) t k = _
    have hk : k < md S := hk
    rw [fnd_pl (Nat.le_of_lt hk), pP_n hs hi hk]
    rfl
  · have hl : l ≤ md S := hl
    have hp : p < mK S l := hp
    obtain ⟨a, b, c⟩ := ha l hl p hp
    have ho := hs.off hl hp
    refine ⟨a, b, fun j hj9 => ?_⟩
    have hj9 : j < mc S l p := hj9
    obtain ⟨c1, c2, c3⟩ := c j hj9
    by_cases hlf : l = 0 ∧ p = mQ S i 1
    · obtain ⟨rfl, rfl⟩ := hlf
      have ew : ∀ y, aWf (sWf (fnd A t (pW S i) (pP S i) (md S + 1) (md S)) (mb S 0 (mQ S i 1)) (gT3 (aWf (fnd A t (pW S i) (pP S i) (md S + 1) (md S)) (mb S 0 (mQ S i 1))) ((i - sm (mc S 0) (mQ S i 1)) * 3) x (if w = 1 then n else n + 32768) v)) (mb S 0 (mQ S i 1)) y = gT3 (aWf A (mb S 0 (mQ S i 1))) ((i - sm (mc S 0) (mQ S i 1)) * 3) x (if w = 1 then n else n + 32768) v y := by
        intro y
        show gF (aWf A) (mb S 0 (mQ S i 1)) _ (mb S 0 (mQ S i 1)) y = _
        rw [gF_s]
        rfl
      show (_ → aWf (sWf _ _ _) (mb S 0 (mQ S i 1)) (j * 3) = gF (ms S) i x (sm (mc S 0) (mQ S i 1) + j)) ∧ aWf (sWf _ _ _) (mb S 0 (mQ S i 1)) (j * 3 + 1) = gF (ml S) i n (sm (mc S 0) (mQ S i 1) + j) + (1 - gF (mw S) i w (sm (mc S 0) (mQ S i 1) + j)) * 32768 ∧ aWf (sWf _ _ _) (mb S 0 (mQ S i 1)) (j * 3 + 2) = gF (mv S) i v (sm (mc S 0) (mQ S i 1) + j)
      rw [ew, ew, ew]
      by_cases hji : sm (mc S 0) (mQ S i 1) + j = i
      · have hjj : j = i - sm (mc S 0) (mQ S i 1) := by omega
        obtain ⟨g1, g2, g3⟩ := gT3_at (f := aWf A (mb S 0 (mQ S i 1))) (k := (i - sm (mc S 0) (mQ S i 1)) * 3) (a := x) (b := if w = 1 then n else n + 32768) (c := v)
        rw [hji, gF_s, gF_s, gF_s, gF_s, hjj]
        refine ⟨fun _ => g1, ?_, g3⟩
        rw [g2]
        rcases hw with h | h <;> rw [h]
        · rw [if_neg (by decide)]
          omega
        · rw [if_pos rfl]
          omega
      · rw [gF_n hji, gF_n hji, gF_n hji, gF_n hji, gT3_n (by omega), gT3_n (by omega), gT3_n (by omega)]
        exact ⟨fun _ => c1, c2, c3⟩
    · have hne : mb S l p ≠ mb S 0 (mQ S i 1) := fun q => hlf (hj l p 0 (mQ S i 1) hl hp (Nat.zero_le _) q1 q)
      have ew : aWf (sWf (fnd A t (pW S i) (pP S i) (md S + 1) (md S)) (mb S 0 (mQ S i 1)) (gT3 (aWf (fnd A t (pW S i) (pP S i) (md S + 1) (md S)) (mb S 0 (mQ S i 1))) ((i - sm (mc S 0) (mQ S i 1)) * 3) x (if w = 1 then n else n + 32768) v)) (mb S l p) = aWf A (mb S l p) := by
        show gF (aWf A) (mb S 0 (mQ S i 1)) _ (mb S l p) = _
        rw [gF_n hne]
      show (_ → aWf (sWf _ _ _) (mb S l p) (j * 3) = gF (ms S) i x (fr (mc S) l (sm (mc S l) p + j))) ∧ aWf (sWf _ _ _) (mb S l p) (j * 3 + 1) = _ ∧ aWf (sWf _ _ _) (mb S l p) (j * 3 + 2) = _
      rw [ew]
      cases l with
      | zero =>
        have hji : sm (mc S 0) p + j ≠ i := by
          intro q
          refine hlf ⟨rfl, ?_⟩
          exact lc_uniq (f := mc S 0) (K := mK S 0) (q := i) (by omega) (by omega) q2 q3
        show (_ → _ = gF (ms S) i x (sm (mc S 0) p + j)) ∧ _ = gF (ml S) i n (sm (mc S 0) p + j) + (1 - gF (mw S) i w (sm (mc S 0) p + j)) * 32768 ∧ _ = gF (mv S) i v (sm (mc S 0) p + j)
        rw [gF_n hji, gF_n hji, gF_n hji, gF_n hji]
        exact ⟨fun _ => c1, c2, c3⟩
      | succ l =>
        refine ⟨fun hex => ?_, c2, c3⟩
        have hji : fr (mc S) (l + 1) (sm (mc S (l + 1)) p + j) ≠ i := by
          intro q
          have e9 := fr_is hs hi (l := l + 1) (by omega) (show sm (mc S (l + 1)) p + j < mI S (l + 1) by omega) q
          obtain ⟨z1, z2, z3⟩ := mQ_in hs hi hl
          have e8 : p = mQ S i (l + 1 + 1) := lc_uniq (f := mc S (l + 1)) (K := mK S (l + 1)) (q := mQ S i (l + 1)) (by omega) (by omega) z2 z3
          refine hex ⟨?_, e8, ?_⟩
          · show md S - md S < l + 1
            omega
          · show sm (mc S (l + 1)) p + j = mQ S i (l + 1 - 1 + 1)
            rw [show l + 1 - 1 + 1 = l + 1 by omega]
            exact e9
        rw [gF_n hji]
        exact c1
end
