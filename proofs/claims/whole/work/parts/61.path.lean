/-! the way that find goes is the way to the last run that begins at a block or before it -/
def pW (S : mS) (i : Int) (k : Nat) : Nat := mb S (md S - k) (mQ S i.toNat (md S - k + 1))
def pP (S : mS) (i : Int) (k : Nat) : Int := if k = md S then i - sm (mc S 0) (mQ S i.toNat 1) else (mQ S i.toNat (md S - k) : Int) - sm (mc S (md S - k)) (mQ S i.toNat (md S - k + 1))
section
variable {A : cA} {S : mS} {t m : Nat} {b : Int}
theorem mSh.Kpos (hs : mSh S t m) : ∀ k, k ≤ md S → 0 < mK S (md S - k) := by
  intro k
  induction k with
  | zero =>
    intro _
    have := hs.2.1
    rw [Nat.sub_zero]
    omega
  | succ k ih =>
    intro h
    have h1 := ih (by omega)
    have h2 := hs.2.2.2.1 (md S - k) (by omega)
    have e : md S - k = (md S - (k + 1)) + 1 := by omega
    have h3 : mI S (md S - k) = mK S (md S - (k + 1)) := by
      rw [e]
      rfl
    rw [h3] at h2
    have h4 : sm (mc S (md S - k)) 1 ≤ sm (mc S (md S - k)) (mK S (md S - k)) := sm_mono h1
    have h5 : sm (mc S (md S - k)) 1 = 0 + mc S (md S - k) 0 := rfl
    have h6 : 1 ≤ mc S (md S - k) 0 := by
      by_cases h7 : k = 0
      · subst h7
        rw [Nat.sub_zero]
        exact hs.2.2.2.2.2.2 (by omega)
      · exact (hs.2.2.2.2.1 (md S - k) (by omega) 0 h1).1
    omega
theorem mSh.npos (hs : mSh S t m) (hd : 0 < md S) : 0 < mn S := by
  have h1 := hs.Kpos (md S) (Nat.le_refl _)
  rw [Nat.sub_self] at h1
  have h2 := hs.2.2.2.1 0 (by omega)
  have h3 : mI S 0 = mn S := rfl
  have h4 : sm (mc S 0) 1 ≤ sm (mc S 0) (mK S 0) := sm_mono h1
  have h5 : sm (mc S 0) 1 = 0 + mc S 0 0 := rfl
  have h6 := (hs.2.2.2.2.1 0 hd 0 h1).1
  omega
theorem mSh.bl (hs : mSh S t m) (ht : t < 4) {l p : Nat} (hl : l ≤ md S) (hp : p < mK S l) : mb S l p < 260 := by
  by_cases h : l < md S
  · have := (hs.2.2.2.2.1 l h p hp).2.2.2
    omega
  · have : l = md S := by omega
    subst this
    have hp0 : p = 0 := by have := hs.2.1; omega
    rw [hp0, hs.2.2.1]
    omega
theorem mSh.off (hs : mSh S t m) {l p : Nat} (hl : l ≤ md S) (hp : p < mK S l) : sm (mc S l) p + mc S l p ≤ mI S l := by
  have h1 : sm (mc S l) (p + 1) ≤ sm (mc S l) (mK S l) := sm_mono hp
  rw [hs.2.2.2.1 l hl] at h1
  exact h1
theorem mQ_z (hs : mSh S t m) (hn : 0 < mn S) {l : Nat} (hl : l ≤ md S + 1) : mQ S 0 l = 0 := by
  have h1 := (mQ_fr hs hn l hl).1
  by_cases h : mQ S 0 l = 0
  · exact h
  · have h2 := fr_lt hs hn l hl 0 (mQ S 0 l) (by omega) (Nat.le_of_lt (mQ_lt hs hn l hl))
    rw [fr_0] at h2
    omega
theorem ab_srt (ht : t < 4) (hs : mSh S t m) (hr : mRn S) (ha : mAb A t S) {l p : Nat} (hl : l ≤ md S) (hp : p < mK S l) : gSrt (aWf A (mb S l p)) (aEn A (mb S l p)) := by
  intro x y hxy hy
  obtain ⟨h1, h2, h3⟩ := ha l hl p hp
  rw [h2] at hy
  have hy' : y < mc S l p := by omega
  rw [(h3 x (by omega)).1, (h3 y hy').1]
  have ho := hs.off hl hp
  have hn : 0 < mn S := by
    by_cases hz : 0 < mn S
    · exact hz
    · have hd0 : md S = 0 := by
        by_cases h9 : 0 < md S
        · exact absurd (hs.npos h9) hz
        · omega
      have hl0 : l = 0 := by omega
      subst hl0
      have h8 : mI S 0 = mn S := rfl
      omega
  by_cases he : x = y
  · subst he
    exact Int.le_refl _
  · have h4 := fr_lt hs hn l (by omega) (sm (mc S l) p + x) (sm (mc S l) p + y) (by omega) (by omega)
    have h5 := fr_n hs hn (l := l) (by omega) (show sm (mc S l) p + y < mI S l by omega)
    exact Int.le_of_lt (hr.lt h4 h5)
/-- the choice in a node of the way -/
theorem ab_lu (ht : t < 4) (hs : mSh S t m) (hr : mRn S) (ha : mAb A t S) {i l : Nat} (hi : i < mn S) (h1 : ms S i ≤ b) (h2 : i + 1 < mn S → b < ms S (i + 1)) (hl : l ≤ md S) : gLu (aWf A (mb S l (mQ S i (l + 1)))) b (aEn A (mb S l (mQ S i (l + 1)))).toNat = (mQ S i l : Int) - sm (mc S l) (mQ S i (l + 1)) := by
  obtain ⟨a1, a2, a3⟩ := mQ_in hs hi hl
  obtain ⟨b1, b2, b3⟩ := ha l hl _ a1
  obtain ⟨c1, c2⟩ := mQ_fr hs hi l (by omega)
  have ho := hs.off hl a1
  have hn : 0 < mn S := by omega
  generalize mQ S i (l + 1) = p at *
  generalize mQ S i l = q at *
  rw [b2]
  have e : ((mc S l p : Nat) : Int).toNat = mc S l p := by omega
  rw [e, gLu_eq (q - sm (mc S l) p + 1) (fun x hx => ?_) (mc S l p) (by omega) (fun x hx hx2 => ?_)]
  · omega
  · rw [(b3 x (by omega)).1]
    have h3 := fr_le hs hn (l := l) (a := sm (mc S l) p + x) (b := q) (by omega) (by omega) (by omega)
    by_cases h4 : fr (mc S) l (sm (mc S l) p + x) = i
    · rw [h4]
      exact h1
    · have := hr.lt (i := fr (mc S) l (sm (mc S l) p + x)) (j := i) (by omega) hi
      omega
  · rw [(b3 x hx2).1]
    have h3 := fr_le hs hn (l := l) (a := q + 1) (b := sm (mc S l) p + x) (by omega) (by omega) (by omega)
    have h4 := fr_n hs hn (l := l) (by omega) (show sm (mc S l) p + x < mI S l by omega)
    have h5 := h2 (by omega)
    by_cases h6 : fr (mc S) l (sm (mc S l) p + x) = i + 1
    · rw [h6]
      exact h5
    · have := hr.lt (i := i + 1) (j := fr (mc S) l (sm (mc S l) p + x)) (by omega) h4
      omega
/-- .. where no run begins so early -/
theorem ab_lu0 (hs : mSh S t m) (hr : mRn S) (ha : mAb A t S) {l : Nat} (h2 : 0 < mn S → b < ms S 0) (hl : l ≤ md S) (hp : 0 < mK S l) : gLu (aWf A (mb S l 0)) b (aEn A (mb S l 0)).toNat = -1 := by
  obtain ⟨b1, b2, b3⟩ := ha l hl 0 hp
  have ho := hs.off hl hp
  rw [b2]
  have e : ((mc S l 0 : Nat) : Int).toNat = mc S l 0 := by omega
  rw [e, gLu_eq 0 (fun x hx => absurd hx (by omega)) (mc S l 0) (by omega) (fun x _ hx2 => ?_)]
  · rfl
  · have hn : 0 < mn S := by
      by_cases hd : 0 < md S
      · exact hs.npos hd
      · have hl0 : l = 0 := by omega
        subst hl0
        have h8 : mI S 0 = mn S := rfl
        omega
    rw [(b3 x hx2).1]
    have h3 := h2 hn
    have h4 := fr_n hs hn (l := l) (by omega) (show sm (mc S l) 0 + x < mI S l by omega)
    by_cases h6 : fr (mc S) l (sm (mc S l) 0 + x) = 0
    · rw [h6]
      exact h3
    · have := hr.lt (i := 0) (j := fr (mc S) l (sm (mc S l) 0 + x)) (by omega) h4
      omega
theorem path_of (ht : t < 4) (hs : mSh S t m) (hr : mRn S) (ha : mAb A t S) {i : Int} (hi : -1 ≤ i ∧ i < mn S) (h1 : 0 ≤ i → ms S i.toNat ≤ b) (h2 : i + 1 < mn S → b < ms S (i + 1).toNat) : PathTo A t b (md S) (pW S i) (pP S i) := by
  have hQK : ∀ l, l ≤ md S → mQ S i.toNat (l + 1) < mK S l := by
    intro l hl
    by_cases hn : 0 < mn S
    · exact (mQ_in hs (i := i.toNat) (by omega) hl).1
    · have hd0 : md S = 0 := by
        by_cases h9 : 0 < md S
        · exact absurd (hs.npos h9) hn
        · omega
      have hl0 : l = 0 := by omega
      subst hl0
      have hk := hs.2.1
      rw [hd0] at hk
      show lc (mc S 0) (mQ S i.toNat 0) (mK S 0) < mK S 0
      rw [hk]
      unfold lc
      rw [if_pos (show sm (mc S 0) 0 ≤ mQ S i.toNat 0 from Nat.zero_le _)]
      exact Nat.zero_lt_one
  refine ⟨hs.1, ?_, fun k hk => ?_, fun k hk => ?_⟩
  · unfold pW
    rw [Nat.sub_zero]
    have h3 := hQK (md S) (Nat.le_refl _)
    have h4 := hs.2.1
    rw [show mQ S i.toNat (md S + 1) = 0 by omega]
    exact hs.2.2.1
  · have hl : md S - k ≤ md S := by omega
    have hq := hQK (md S - k) hl
    refine ⟨hs.bl ht hl hq, ?_, ab_srt ht hs hr ha hl hq, ?_⟩
    · have := (ha (md S - k) hl _ hq).1
      unfold pW
      rw [this]
      omega
    · by_cases hi0 : 0 ≤ i
      · have hii : i.toNat < mn S := by omega
        have e := ab_lu (b := b) ht hs hr ha hii (h1 hi0) (fun h9 => by have := h2 (by omega); rwa [show (i + 1).toNat = i.toNat + 1 by omega] at this) hl
        have a2 := (mQ_in hs hii hl).2.1
        unfold pW
        rw [e]
        unfold pP
        by_cases hkd : k = md S
        · rw [if_pos hkd, if_pos hkd, hkd, Nat.sub_self]
          show i - ((sm (mc S 0) (mQ S i.toNat 1) : Nat) : Int) = ((i.toNat : Nat) : Int) - ((sm (mc S 0) (mQ S i.toNat 1) : Nat) : Int)
          omega
        · rw [if_neg hkd, if_neg hkd, if_neg (by omega)]
      · have hi1 : i = -1 := by omega
        have hz : mQ S i.toNat (md S - k + 1) = 0 := by
          by_cases hn : 0 < mn S
          · rw [show i.toNat = 0 by omega]
            exact mQ_z hs hn (by omega)
          · have hd0 : md S = 0 := by
              by_cases h9 : 0 < md S
              · exact absurd (hs.npos h9) hn
              · omega
            have h3 := hQK (md S - k) hl
            have h4 := hs.2.1
            rw [show md S - k = md S by omega] at h3 ⊢
            omega
        have e := ab_lu0 (b := b) hs hr ha (fun h9 => by have := h2 (by omega); rwa [show (i + 1).toNat = 0 by omega] at this) hl (by omega : 0 < mK S (md S - k))
        unfold pW
        rw [hz, e]
        unfold pP
        by_cases hkd : k = md S
        · rw [if_pos hkd, if_pos hkd]
          rw [hkd, Nat.sub_self] at hz
          rw [hz, hi1]
          rfl
        · rw [if_neg hkd, if_neg hkd, if_pos (by omega), hz]
          have hn : 0 < mn S := hs.npos (by omega)
          rw [show i.toNat = 0 by omega, mQ_z hs hn (by omega)]
          rfl
  · obtain ⟨l, hl⟩ : ∃ l, md S - k = l + 1 := ⟨md S - k - 1, by omega⟩
    have hq := hQK (l + 1) (by omega)
    have hq2 := hQK l (by omega)
    have hn : 0 < mn S := hs.npos (by omega)
    obtain ⟨b1, b2, b3⟩ := ha (l + 1) (by omega) _ hq
    obtain ⟨a1, a2, a3⟩ := mQ_in hs (i := i.toNat) (by omega) (show l + 1 ≤ md S by omega)
    have e1 : pW S i k = mb S (l + 1) (mQ S i.toNat (l + 1 + 1)) := by
      unfold pW
      rw [hl]
    have e2 : pW S i (k + 1) = mb S l (mQ S i.toNat (l + 1)) := by
      unfold pW
      rw [show md S - (k + 1) = l by omega]
    have e3 : pP S i k = (mQ S i.toNat (l + 1) : Int) - sm (mc S (l + 1)) (mQ S i.toNat (l + 1 + 1)) := by
      unfold pP
      rw [if_neg (by omega), hl]
    rw [e1, e2, e3]
    refine ⟨?_, ?_⟩
    · rw [b2, gWd_in (by omega)]
      have e4 : (((mQ S i.toNat (l + 1) : Int) - sm (mc S (l + 1)) (mQ S i.toNat (l + 1 + 1))) * 3 + 1).toNat = (mQ S i.toNat (l + 1) - sm (mc S (l + 1)) (mQ S i.toNat (l + 1 + 1))) * 3 + 1 := by omega
      rw [e4, (b3 _ (by omega)).2.1]
      show ((mb S l (sm (mc S (l + 1)) (mQ S i.toNat (l + 1 + 1)) + (mQ S i.toNat (l + 1) - sm (mc S (l + 1)) (mQ S i.toNat (l + 1 + 1)))) : Nat) : Int) = _
      rw [show sm (mc S (l + 1)) (mQ S i.toNat (l + 1 + 1)) + (mQ S i.toNat (l + 1) - sm (mc S (l + 1)) (mQ S i.toNat (l + 1 + 1))) = mQ S i.toNat (l + 1) by omega]
    · have := (hs.2.2.2.2.1 l (by omega) _ hq2).2.2.2
      omega
end
