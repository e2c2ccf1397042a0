/-! a run goes out of the model -/
def delN {α : Type} (f : Nat → α) (p : Nat) : Nat → α := fun q => if q < p then f q else f (q + 1)
def decN (f : Nat → Nat) (p : Nat) : Nat → Nat := gF f p (f p - 1)
section
variable {α : Type} {f : Nat → Nat} {g : Nat → α} {p q : Nat}
theorem del_lo (h : q < p) : delN g p q = g q := if_pos h
theorem del_hi (h : p ≤ q) : delN g p q = g (q + 1) := if_neg (by omega)
theorem sm_del_lo (h : q ≤ p) : sm (delN f p) q = sm f q := sm_congr (fun x hx => del_lo (by omega))
theorem sm_del_hi : ∀ q, p ≤ q → sm (delN f p) q + f p = sm f (q + 1) := by
  intro q
  induction q with
  | zero =>
    intro h
    have : p = 0 := by omega
    subst this
    rfl
  | succ q ih =>
    intro h
    by_cases e : p = q + 1
    · subst e
      rw [sm_del_lo (Nat.le_refl _)]
      rfl
    · have := ih (by omega)
      show sm (delN f p) q + delN f p q + f p = sm f (q + 1) + f (q + 1)
      rw [del_hi (by omega)]
      omega
theorem dec_at : decN f p p = f p - 1 := gF_s _ _ _
theorem dec_n (h : q ≠ p) : decN f p q = f q := gF_n h
theorem sm_dec_lo (h : q ≤ p) : sm (decN f p) q = sm f q := sm_congr (fun x hx => dec_n (by omega))
theorem sm_dec_hi (h1 : 1 ≤ f p) : ∀ q, p < q → sm (decN f p) q + 1 = sm f q := by
  intro q
  induction q with
  | zero => intro h; omega
  | succ q ih =>
    intro h
    show sm (decN f p) q + decN f p q + 1 = sm f q + f q
    by_cases e : q = p
    · subst e
      rw [sm_dec_lo (Nat.le_refl _), dec_at]
      omega
    · have := ih (by omega)
      rw [dec_n e]
      omega
end
def sRm (S : mS) (i c : Nat) : mS := (mn S - 1, delN (ms S) i, delN (ml S) i, delN (mv S) i, delN (mw S) i, md S, (fun y => if y < c then mK S y - 1 else mK S y), (fun y => if y < c then delN (mb S y) (mQ S i (y + 1)) else mb S y), (fun y => if y < c then delN (mc S y) (mQ S i (y + 1)) else if y = c then decN (mc S y) (mQ S i (y + 1)) else mc S y))
/-- below level c the way has nodes of one entry, at level c one of more -/
def RmC (S : mS) (i c : Nat) : Prop := i < mn S ∧ c ≤ md S ∧ (∀ y, y < c → mc S y (mQ S i (y + 1)) = 1) ∧ 2 ≤ mc S c (mQ S i (c + 1))
section
variable {S : mS} {t m i c : Nat}
theorem srm_kl {y : Nat} (h : y < c) : mK (sRm S i c) y = mK S y - 1 := if_pos h
theorem srm_kh {y : Nat} (h : c ≤ y) : mK (sRm S i c) y = mK S y := if_neg (by omega)
theorem srm_bl {y : Nat} (h : y < c) : mb (sRm S i c) y = delN (mb S y) (mQ S i (y + 1)) := if_pos h
theorem srm_bh {y : Nat} (h : c ≤ y) : mb (sRm S i c) y = mb S y := if_neg (by omega)
theorem srm_cl {y : Nat} (h : y < c) : mc (sRm S i c) y = delN (mc S y) (mQ S i (y + 1)) := if_pos h
theorem srm_cc : mc (sRm S i c) c = decN (mc S c) (mQ S i (c + 1)) := by
  show (if c < c then _ else if c = c then _ else _) = _
  rw [if_neg (by omega), if_pos rfl]
theorem srm_ch {y : Nat} (h : c < y) : mc (sRm S i c) y = mc S y := by
  show (if y < c then _ else if y = c then _ else _) = _
  rw [if_neg (by omega), if_neg (by omega)]
theorem rm_sm (hs : mSh S t m) (hi : i < mn S) {y : Nat} (hy : y ≤ md S) (h1 : mc S y (mQ S i (y + 1)) = 1) : sm (mc S y) (mQ S i (y + 1)) = mQ S i y := by
  obtain ⟨a1, a2, a3⟩ := mQ_in hs hi hy
  omega
theorem rm_one (hs : mSh S t m) (hi : i < mn S) : ∀ y, y ≤ md S + 1 → (∀ z, z < y → mc S z (mQ S i (z + 1)) = 1) → fr (mc S) y (mQ S i y) = i ∧ fr (mc S) y (mQ S i y + 1) = i + 1 := by
  intro y
  induction y with
  | zero => intro _ _; exact ⟨rfl, rfl⟩
  | succ y ih =>
    intro hy h
    obtain ⟨a1, a2⟩ := ih (by omega) (fun z hz => h z (by omega))
    have e := rm_sm hs hi (show y ≤ md S by omega) (h y (by omega))
    refine ⟨?_, ?_⟩
    · show fr (mc S) y (sm (mc S y) (mQ S i (y + 1))) = i
      rw [e]
      exact a1
    · show fr (mc S) y (sm (mc S y) (mQ S i (y + 1)) + mc S y (mQ S i (y + 1))) = i + 1
      rw [e, h y (by omega)]
      exact a2
theorem srm_frl (hs : mSh S t m) (h : RmC S i c) : ∀ y, y ≤ c → ∀ x, x + 1 ≤ mI S y → fr (mc (sRm S i c)) y x = if x < mQ S i y then fr (mc S) y x else fr (mc S) y (x + 1) - 1 := by
  obtain ⟨hi, hc, h1, h2⟩ := h
  intro y
  induction y with
  | zero =>
    intro _ x _
    show x = if x < i then x else x + 1 - 1
    split <;> omega
  | succ y ih =>
    intro hy x hx
    have hx : x + 1 ≤ mK S y := hx
    have e := rm_sm hs hi (show y ≤ md S by omega) (h1 y (by omega))
    have o1 := h1 y (by omega)
    have hn : 0 < mn S := by omega
    have hK := hs.2.2.2.1 y (by omega)
    show fr (mc (sRm S i c)) y (sm (mc (sRm S i c) y) x) = if x < mQ S i (y + 1) then fr (mc S) y (sm (mc S y) x) else fr (mc S) y (sm (mc S y) (x + 1)) - 1
    rw [srm_cl (by omega)]
    by_cases h9 : x < mQ S i (y + 1)
    · have l1 := sm_lt (f := mc S y) (K := mK S y) (fun p hp => hs.pos hn (by omega) hp) h9 (Nat.le_of_lt (mQ_in hs hi (show y ≤ md S by omega)).1)
      have l2 : sm (mc S y) (mQ S i (y + 1)) ≤ sm (mc S y) (mK S y) := sm_mono (Nat.le_of_lt (mQ_in hs hi (show y ≤ md S by omega)).1)
      rw [if_pos h9, sm_del_lo (by omega), ih (by omega) _ (by omega), if_pos (by omega)]
    · have l1 := sm_del_hi (f := mc S y) (p := mQ S i (y + 1)) x (by omega)
      have l2 : sm (mc S y) (mQ S i (y + 1) + 1) ≤ sm (mc S y) (x + 1) := sm_mono (by omega)
      have l3 : sm (mc S y) (mQ S i (y + 1) + 1) = sm (mc S y) (mQ S i (y + 1)) + mc S y (mQ S i (y + 1)) := rfl
      have l4 : sm (mc S y) (x + 1) ≤ sm (mc S y) (mK S y) := sm_mono hx
      rw [if_neg h9, ih (by omega) _ (by omega), if_neg (by omega), show sm (delN (mc S y) (mQ S i (y + 1))) x + 1 = sm (mc S y) (x + 1) by omega]
theorem srm_frh (hs : mSh S t m) (h : RmC S i c) : ∀ y, c ≤ y → y ≤ md S → ∀ x, x ≤ mK S y → fr (mc (sRm S i c)) (y + 1) x = if x ≤ mQ S i (y + 1) then fr (mc S) (y + 1) x else fr (mc S) (y + 1) x - 1 := by
  have hall := h
  obtain ⟨hi, hc, h1, h2⟩ := h
  have hn : 0 < mn S := by omega
  intro y
  induction y with
  | zero =>
    intro hy _ x hx
    have hc0 : c = 0 := by omega
    subst hc0
    show sm (mc (sRm S i 0) 0) x = if x ≤ mQ S i 1 then sm (mc S 0) x else sm (mc S 0) x - 1
    rw [srm_cc]
    by_cases h9 : x ≤ mQ S i 1
    · rw [if_pos h9, sm_dec_lo h9]
    · have := sm_dec_hi (f := mc S 0) (p := mQ S i 1) (by have : 2 ≤ mc S 0 (mQ S i 1) := h2; omega) x (by omega)
      rw [if_neg h9]
      show sm (decN (mc S 0) (mQ S i 1)) x = _
      omega
  | succ y ih =>
    intro hy hyd x hx
    obtain ⟨a1, a2, a3⟩ := mQ_in hs hi hyd
    by_cases e : c = y + 1
    · subst e
      obtain ⟨b1, b2⟩ := rm_one hs hi (y + 1) (by omega) h1
      have hK := hs.2.2.2.1 (y + 1) hyd
      show fr (mc (sRm S i (y + 1))) (y + 1) (sm (mc (sRm S i (y + 1)) (y + 1)) x) = if x ≤ mQ S i (y + 1 + 1) then fr (mc S) (y + 1) (sm (mc S (y + 1)) x) else fr (mc S) (y + 1) (sm (mc S (y + 1)) x) - 1
      rw [srm_cc]
      by_cases h9 : x ≤ mQ S i (y + 1 + 1)
      · have l1 : sm (mc S (y + 1)) x ≤ sm (mc S (y + 1)) (mQ S i (y + 1 + 1)) := sm_mono h9
        have l2 := hs.off hyd a1
        rw [if_pos h9, sm_dec_lo h9, srm_frl hs hall (y + 1) (Nat.le_refl _) _ (by omega)]
        by_cases h8 : sm (mc S (y + 1)) x < mQ S i (y + 1)
        · rw [if_pos h8]
        · rw [if_neg h8, show sm (mc S (y + 1)) x = mQ S i (y + 1) by omega, b1, b2]
          omega
      · have l1 := sm_dec_hi (f := mc S (y + 1)) (p := mQ S i (y + 1 + 1)) (by omega) x (by omega)
        have l2 : sm (mc S (y + 1)) (mQ S i (y + 1 + 1) + 1) ≤ sm (mc S (y + 1)) x := sm_mono (by omega)
        have l3 : sm (mc S (y + 1)) (mQ S i (y + 1 + 1) + 1) = sm (mc S (y + 1)) (mQ S i (y + 1 + 1)) + mc S (y + 1) (mQ S i (y + 1 + 1)) := rfl
        have l4 : sm (mc S (y + 1)) x ≤ sm (mc S (y + 1)) (mK S (y + 1)) := sm_mono hx
        rw [if_neg h9, srm_frl hs hall (y + 1) (Nat.le_refl _) _ (by omega), if_neg (by omega), show sm (decN (mc S (y + 1)) (mQ S i (y + 1 + 1))) x + 1 = sm (mc S (y + 1)) x by omega]
    · show fr (mc (sRm S i c)) (y + 1) (sm (mc (sRm S i c) (y + 1)) x) = if x ≤ mQ S i (y + 1 + 1) then fr (mc S) (y + 1) (sm (mc S (y + 1)) x) else fr (mc S) (y + 1) (sm (mc S (y + 1)) x) - 1
      have hK := hs.2.2.2.1 (y + 1) hyd
      have hKy : mI S (y + 1) = mK S y := rfl
      have l4 : sm (mc S (y + 1)) x ≤ sm (mc S (y + 1)) (mK S (y + 1)) := sm_mono hx
      rw [srm_ch (by omega), ih (by omega) (by omega) _ (by omega)]
      by_cases h9 : x ≤ mQ S i (y + 1 + 1)
      · have l1 : sm (mc S (y + 1)) x ≤ sm (mc S (y + 1)) (mQ S i (y + 1 + 1)) := sm_mono h9
        rw [if_pos h9, if_pos (by omega)]
      · have l2 : sm (mc S (y + 1)) (mQ S i (y + 1 + 1) + 1) ≤ sm (mc S (y + 1)) x := sm_mono (by omega)
        have l3 : sm (mc S (y + 1)) (mQ S i (y + 1 + 1) + 1) = sm (mc S (y + 1)) (mQ S i (y + 1 + 1)) + mc S (y + 1) (mQ S i (y + 1 + 1)) := rfl
        rw [if_neg h9, if_neg (by omega)]
theorem srm_sh (hs : mSh S t m) (h : RmC S i c) : mSh (sRm S i c) t m := by
  obtain ⟨hi, hc, h1, h2⟩ := h
  have hs0 := hs
  obtain ⟨s1, s2, s3, s4, s5, s6, s7⟩ := hs
  refine ⟨s1, ?_, ?_, fun y hy => ?_, fun y hy q hq => ?_, ?_, fun hd => ?_⟩
  · show mK (sRm S i c) (md S) = 1
    rw [srm_kh hc]
    exact s2
  · show mb (sRm S i c) (md S) 0 = _
    rw [srm_bh hc]
    exact s3
  · have hy : y ≤ md S := hy
    obtain ⟨a1, a2, a3⟩ := mQ_in hs0 hi hy
    have e := s4 y hy
    have hI : y ≤ c → mI (sRm S i c) y = mI S y - 1 := by
      intro hyc
      cases y with
      | zero => rfl
      | succ y =>
        show mK (sRm S i c) y = mK S y - 1
        rw [srm_kl (by omega)]
    rcases Nat.lt_trichotomy y c with h9 | h9 | h9
    · rw [srm_cl h9, srm_kl h9, hI (by omega)]
      have := sm_del_hi (f := mc S y) (p := mQ S i (y + 1)) (mK S y - 1) (by omega)
      rw [show mK S y - 1 + 1 = mK S y by omega, h1 y h9, e] at this
      omega
    · subst h9
      rw [srm_cc, srm_kh (Nat.le_refl _), hI (Nat.le_refl _)]
      have := sm_dec_hi (f := mc S y) (p := mQ S i (y + 1)) (by omega) (mK S y) a1
      omega
    · rw [srm_ch h9, srm_kh (by omega), e]
      cases y with
      | zero => omega
      | succ y =>
        show mK S y = mK (sRm S i c) y
        rw [srm_kh (by omega)]
  · have hy : y < md S := hy
    rcases Nat.lt_trichotomy y c with h9 | h9 | h9
    · rw [srm_kl h9] at hq
      rw [srm_cl h9, srm_bl h9]
      by_cases h8 : q < mQ S i (y + 1)
      · rw [del_lo h8, del_lo h8]
        exact s5 y hy q (by omega)
      · rw [del_hi (by omega), del_hi (by omega)]
        exact s5 y hy (q + 1) (by omega)
    · subst h9
      rw [srm_kh (Nat.le_refl _)] at hq
      rw [srm_cc, srm_bh (Nat.le_refl _)]
      have w := s5 y hy q hq
      by_cases h8 : q = mQ S i (y + 1)
      · rw [h8, dec_at]
        rw [h8] at w
        omega
      · rw [dec_n h8]
        exact w
    · rw [srm_kh (by omega)] at hq
      rw [srm_ch h9, srm_bh (by omega)]
      exact s5 y hy q hq
  · show mc (sRm S i c) (md S) 0 ≤ 4
    by_cases h9 : c = md S
    · subst h9
      rw [srm_cc, mQ_top hs0 hi, dec_at]
      omega
    · rw [srm_ch (by omega)]
      exact s6
  · have hd : 0 < md S := hd
    show 1 ≤ mc (sRm S i c) (md S) 0
    by_cases h9 : c = md S
    · subst h9
      rw [mQ_top hs0 hi] at h2
      rw [srm_cc, mQ_top hs0 hi, dec_at]
      omega
    · rw [srm_ch (by omega)]
      exact s7 hd
end
