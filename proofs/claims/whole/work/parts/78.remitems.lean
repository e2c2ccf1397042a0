/-! the items when a run has gone; refreshFirsts from a level up -/
section
variable {S : mS} {t m i c : Nat}
theorem srm_old {y q : Nat} (hq : q < mK (sRm S i c) y) : ∃ r, r < mK S y ∧ mb (sRm S i c) y q = mb S y r ∧ (c ≤ y → r = q) ∧ (y < c → r = if q < mQ S i (y + 1) then q else q + 1) := by
  by_cases h : y < c
  · rw [srm_kl h] at hq
    rw [srm_bl h]
    by_cases h9 : q < mQ S i (y + 1)
    · exact ⟨q, by omega, del_lo h9, fun z => by omega, fun _ => (if_pos h9).symm⟩
    · exact ⟨q + 1, by omega, del_hi (by omega), fun z => by omega, fun _ => (if_neg h9).symm⟩
  · rw [srm_kh (by omega)] at hq
    rw [srm_bh (by omega)]
    exact ⟨q, hq, rfl, fun _ => rfl, fun z => absurd z h⟩
theorem srm_inj (hj : mInj S) : mInj (sRm S i c) := by
  intro k q k' q' hk hq hk' hq' e
  obtain ⟨r, a1, a2, a3, a4⟩ := srm_old hq
  obtain ⟨r', b1, b2, b3, b4⟩ := srm_old hq'
  rw [a2, b2] at e
  obtain ⟨rfl, rfl⟩ := hj k r k' r' hk a1 hk' b1 e
  refine ⟨rfl, ?_⟩
  by_cases h : k < c
  · have c1 := a4 h
    have c2 := b4 h
    split at c1 <;> split at c2 <;> omega
  · rw [← a3 (by omega), ← b3 (by omega)]
theorem srm_own (hs : mSh S t m) (hj : mInj S) (h : RmC S i c) (x : Nat) : Own (sRm S i c) x ↔ Own S x ∧ ∀ y, y < c → x ≠ mb S y (mQ S i (y + 1)) := by
  obtain ⟨hi, hc, h1, h2⟩ := h
  constructor
  · rintro ⟨y, z, h1, h2, h3⟩
    have h1 : y < md S := h1
    obtain ⟨r, a1, a2, a3, a4⟩ := srm_old h2
    refine ⟨⟨y, r, h1, a1, by rw [← a2, h3]⟩, fun y' hy' e => ?_⟩
    rw [← h3, a2] at e
    obtain ⟨e1, e2⟩ := hj _ _ _ _ (by omega) a1 (show y' ≤ md S by omega) (mQ_in hs hi (show y' ≤ md S by omega)).1 e
    subst e1
    have := a4 hy'
    split at this <;> omega
  · rintro ⟨⟨y, r, h1, h2, h3⟩, h4⟩
    by_cases h9 : y < c
    · have hne : r ≠ mQ S i (y + 1) := fun z => h4 y h9 (by rw [← h3, z])
      by_cases h8 : r < mQ S i (y + 1)
      · have := (mQ_in hs hi (show y ≤ md S by omega)).1
        exact ⟨y, r, h1, by rw [srm_kl h9]; omega, by rw [srm_bl h9, del_lo h8]; exact h3⟩
      · exact ⟨y, r - 1, h1, by rw [srm_kl h9]; omega, by rw [srm_bl h9, del_hi (by omega), show r - 1 + 1 = r by omega]; exact h3⟩
    · exact ⟨y, r, h1, by rw [srm_kh (by omega)]; exact h2, by rw [srm_bh (by omega)]; exact h3⟩
theorem srm_itl (hs : mSh S t m) (h : RmC S i c) {y x e : Nat} (hy : y ≤ c) (hx : x + 1 ≤ mI S y) : it (sRm S i c) y x e = it S y (if x < mQ S i y then x else x + 1) e := by
  have hh := h
  obtain ⟨hi, hc, h1, h2⟩ := h
  have hn : 0 < mn S := by omega
  obtain ⟨b1, b2⟩ := rm_one hs hi y (by omega) (fun z hz => h1 z (by omega))
  have hq := mQ_lt hs hi y (by omega)
  refine it_eq ?_ ?_ ?_
  · show delN (ms S) i (fr (mc (sRm S i c)) y x) = _
    rw [srm_frl hs hh y hy x hx]
    by_cases h9 : x < mQ S i y
    · have l1 := fr_lt hs hn y (by omega) x (mQ S i y) h9 (Nat.le_of_lt hq)
      rw [if_pos h9, if_pos h9, del_lo (by omega)]
    · have l1 := fr_le hs hn (l := y) (a := mQ S i y + 1) (b := x + 1) (by omega) (by omega) (by omega)
      rw [if_neg h9, if_neg h9, del_hi (by omega), show fr (mc S) y (x + 1) - 1 + 1 = fr (mc S) y (x + 1) by omega]
  · cases y with
    | zero =>
      show delN (ml S) i x + (1 - delN (mw S) i x) * 32768 = ml S (if x < i then x else x + 1) + (1 - mw S (if x < i then x else x + 1)) * 32768
      by_cases h9 : x < i
      · rw [if_pos h9, del_lo h9, del_lo h9]
      · rw [if_neg h9, del_hi (by omega), del_hi (by omega)]
    | succ y =>
      show ((mb (sRm S i c) y x : Nat) : Int) = ((mb S y (if x < mQ S i (y + 1) then x else x + 1) : Nat) : Int)
      rw [srm_bl (by omega)]
      by_cases h9 : x < mQ S i (y + 1)
      · rw [if_pos h9, del_lo h9]
      · rw [if_neg h9, del_hi (by omega)]
  · cases y with
    | zero =>
      show delN (mv S) i x = mv S (if x < i then x else x + 1)
      by_cases h9 : x < i
      · rw [if_pos h9, del_lo h9]
      · rw [if_neg h9, del_hi (by omega)]
    | succ y => rfl
theorem srm_ith (hs : mSh S t m) (h : RmC S i c) {y x e : Nat} (hy : c ≤ y) (hyd : y + 1 ≤ md S) (hx : x < mK S y) (he : ¬ (e = 0 ∧ x = mQ S i (y + 1))) : it (sRm S i c) (y + 1) x e = it S (y + 1) x e := by
  have hh := h
  obtain ⟨hi, hc, h1, h2⟩ := h
  have hn : 0 < mn S := by omega
  by_cases he0 : e = 0
  · subst he0
    show delN (ms S) i (fr (mc (sRm S i c)) (y + 1) x) = ms S (fr (mc S) (y + 1) x)
    rw [srm_frh hs hh y hy (by omega) x (by omega)]
    obtain ⟨c1, c2⟩ := mQ_fr hs hi (y + 1) (by omega)
    have hq := mQ_lt hs hi (y + 1) (by omega)
    by_cases h9 : x ≤ mQ S i (y + 1)
    · have l1 := fr_lt hs hn (y + 1) (by omega) x (mQ S i (y + 1)) (by omega) (Nat.le_of_lt hq)
      rw [if_pos h9, del_lo (by omega)]
    · have l1 := fr_le hs hn (l := y + 1) (a := mQ S i (y + 1) + 1) (b := x) (by omega) (by omega) (Nat.le_of_lt hx)
      rw [if_neg h9, del_hi (by omega), show fr (mc S) (y + 1) x - 1 + 1 = fr (mc S) (y + 1) x by omega]
  · unfold it
    rw [if_neg he0, if_neg he0]
    by_cases he1 : e = 1
    · rw [if_pos he1, if_pos he1]
      show ((mb (sRm S i c) y x : Nat) : Int) = _
      rw [srm_bh hy]
      rfl
    · rw [if_neg he1, if_neg he1]
      rfl
end
/-- what refreshFirsts mends, where the way is known from level md S - K up -/
theorem rf_fix2 {S : mS} {t : Nat} {R : Nat → Nat} (hj : mInj S) {K : Nat} (hKd : K ≤ md S) (hw1 : ∀ l, md S - K ≤ l → l ≤ md S → R l < mK S l) (hw2 : ∀ l, md S - K ≤ l → l < md S → sm (mc S (l + 1)) (R (l + 1)) ≤ R l ∧ R l < sm (mc S (l + 1)) (R (l + 1)) + mc S (l + 1) (R (l + 1))) (hpos : ∀ l, md S - K ≤ l → l < md S → 1 ≤ mc S l (R l)) : ∀ (k : Nat) (B : cA), k ≤ K → (∀ x, x ≤ K → aWy B t x = mb S (md S - x) (R (md S - x))) → (∀ x, x < K → aPl B t x = (R (md S - x - 1) : Int) - sm (mc S (md S - x)) (R (md S - x))) →
    (∀ l, l ≤ md S → ∀ p, p < mK S l → mNd B S l p (fun j => md S - k < l ∧ p = R l ∧ sm (mc S l) p + j = R (l - 1))) → mAb (rfA B t k) t S := by
  intro k
  induction k with
  | zero =>
    intro B _ _ _ h
    refine mNd_full.mpr (fun l hl p hp => ?_)
    obtain ⟨a, b, c⟩ := h l hl p hp
    exact ⟨a, b, fun j hj => ⟨fun _ => (c j hj).1 (fun q => by omega), (c j hj).2.1, (c j hj).2.2⟩⟩
  | succ k ih =>
    intro B hk hW hP h
    obtain ⟨L, hL, hL1⟩ : ∃ L, md S - (k + 1) = L ∧ md S - k = L + 1 := ⟨md S - (k + 1), rfl, by omega⟩
    have w1 : aWy B t k = mb S (L + 1) (R (L + 1)) := by rw [hW k (by omega), hL1]
    have w2 : aWy B t (k + 1) = mb S L (R L) := by rw [hW (k + 1) hk, hL]
    have p1 : aPl B t k = (R L : Int) - sm (mc S (L + 1)) (R (L + 1)) := by
      have := hP k (by omega)
      rw [hL1] at this
      exact this
    have r1 := hw1 (L + 1) (by omega) (by omega)
    have r2 := hw1 L (by omega) (by omega)
    obtain ⟨q1, q2⟩ := hw2 L (by omega) (by omega)
    obtain ⟨a1, b1, c1⟩ := h L (by omega) (R L) r2
    have hp1 := hpos L (by omega) (by omega)
    have key : gWd (aWf B (aWy B t (k + 1))) (aEn B (aWy B t (k + 1))) 0 0 = ms S (fr (mc S) (L + 1) (R L)) := by
      rw [w2, b1, gWd_in (by omega)]
      have := (c1 0 (by omega)).1 (fun q => by omega)
      exact this
    have e5 : (aPl B t k * 3).toNat = (R L - sm (mc S (L + 1)) (R (L + 1))) * 3 := by
      rw [p1]
      omega
    show mAb (rfA (sWf B (aWy B t k) (gF (aWf B (aWy B t k)) (aPl B t k * 3).toNat (gWd (aWf B (aWy B t (k + 1))) (aEn B (aWy B t (k + 1))) 0 0))) t k) t S
    rw [key, e5]
    refine ih _ (by omega) hW hP (fun l hl p hp => ?_)
    by_cases hlp : l = L + 1 ∧ p = R (L + 1)
    · obtain ⟨rfl, rfl⟩ := hlp
      obtain ⟨a, b, c⟩ := h (L + 1) hl _ hp
      refine ⟨a, b, fun j hj9 => ?_⟩
      have ew : ∀ x, aWf (sWf B (aWy B t k) (gF (aWf B (aWy B t k)) ((R L - sm (mc S (L + 1)) (R (L + 1))) * 3) (ms S (fr (mc S) (L + 1) (R L))))) (mb S (L + 1) (R (L + 1))) x = gF (aWf B (mb S (L + 1) (R (L + 1)))) ((R L - sm (mc S (L + 1)) (R (L + 1))) * 3) (ms S (fr (mc S) (L + 1) (R L))) x := by
        intro x
        rw [w1]
        show gF (aWf B) (mb S (L + 1) (R (L + 1))) _ (mb S (L + 1) (R (L + 1))) x = _
        rw [gF_s]
      rw [ew, ew, ew]
      refine ⟨fun _ => ?_, ?_, ?_⟩
      · by_cases hj2 : j = R L - sm (mc S (L + 1)) (R (L + 1))
        · rw [hj2, gF_s]
          congr 2
          omega
        · rw [gF_n (by omega)]
          exact (c j hj9).1 (fun q => hj2 (by have := q.2.2; rw [show L + 1 - 1 = L by omega] at this; omega))
      · rw [gF_n (by omega)]
        exact (c j hj9).2.1
      · rw [gF_n (by omega)]
        exact (c j hj9).2.2
    · have hne : mb S l p ≠ aWy B t k := by
        rw [w1]
        intro q
        exact hlp (hj l p (L + 1) (R (L + 1)) hl hp (by omega) r1 q)
      obtain ⟨a, b, c⟩ := h l hl p hp
      refine ⟨a, b, fun j hj9 => ?_⟩
      have ew : aWf (sWf B (aWy B t k) (gF (aWf B (aWy B t k)) ((R L - sm (mc S (L + 1)) (R (L + 1))) * 3) (ms S (fr (mc S) (L + 1) (R L))))) (mb S l p) = aWf B (mb S l p) := by
        show gF (aWf B) (aWy B t k) _ (mb S l p) = _
        rw [gF_n hne]
      rw [ew]
      refine ⟨fun hne2 => (c j hj9).1 (fun q => ?_), (c j hj9).2⟩
      obtain ⟨x1, x2, x3⟩ := q
      by_cases h9 : l = L + 1
      · exact hlp ⟨h9, by rw [x2, h9]⟩
      · exact hne2 ⟨by omega, x2, x3⟩
