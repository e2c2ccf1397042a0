/-! .. where one changes, where one comes in -/
/-- what a run may be -/
def rOk (x n v w : Int) : Prop := 0 ≤ x ∧ 1 ≤ n ∧ x + n ≤ 65536 ∧ (w = 0 ∨ w = 1) ∧ n ≤ 32767 + w ∧ 1 ≤ v ∧ v + n ≤ 16777217
section
variable {S : mS} {q p j : Nat} {x n v w : Int}
theorem sset_rn (hr : mRn S) (ho : rOk x n v w) (h1 : ∀ i, i + 1 = q → ms S i + ml S i ≤ x) (h2 : q + 1 < mn S → x + n ≤ ms S (q + 1)) : mRn (sSet S q x n v w) := by
  refine ⟨fun i hi => ?_, fun i hi => ?_⟩
  · have hi : i < mn S := hi
    show 0 ≤ gF (ms S) q x i ∧ 1 ≤ gF (ml S) q n i ∧ gF (ms S) q x i + gF (ml S) q n i ≤ 65536 ∧ (gF (mw S) q w i = 0 ∨ gF (mw S) q w i = 1) ∧ gF (ml S) q n i ≤ 32767 + gF (mw S) q w i ∧ 1 ≤ gF (mv S) q v i ∧ gF (mv S) q v i + gF (ml S) q n i ≤ 16777217
    by_cases h : i = q
    · rw [h, gF_s, gF_s, gF_s, gF_s]
      exact ho
    · rw [gF_n h, gF_n h, gF_n h, gF_n h]
      exact hr.1 i hi
  · have hi : i + 1 < mn S := hi
    show gF (ms S) q x i + gF (ml S) q n i ≤ gF (ms S) q x (i + 1)
    by_cases h : i = q
    · rw [h, gF_s, gF_s, gF_n (by omega)]
      exact h2 (by omega)
    · rw [gF_n h, gF_n h]
      by_cases h3 : i + 1 = q
      · rw [h3, gF_s]
        exact h1 i h3
      · rw [gF_n h3]
        exact hr.2 i hi
theorem sin_rn (hr : mRn S) (hj : j ≤ mn S) (ho : rOk x n v w) (h1 : ∀ i, i + 1 = j → ms S i + ml S i ≤ x) (h2 : j < mn S → x + n ≤ ms S j) : mRn (sIn S j p x n v w) := by
  refine ⟨fun i hi => ?_, fun i hi => ?_⟩
  · have hi : i < mn S + 1 := hi
    show 0 ≤ insN (ms S) j x i ∧ 1 ≤ insN (ml S) j n i ∧ insN (ms S) j x i + insN (ml S) j n i ≤ 65536 ∧ (insN (mw S) j w i = 0 ∨ insN (mw S) j w i = 1) ∧ insN (ml S) j n i ≤ 32767 + insN (mw S) j w i ∧ 1 ≤ insN (mv S) j v i ∧ insN (mv S) j v i + insN (ml S) j n i ≤ 16777217
    rcases Nat.lt_trichotomy i j with h | h | h
    · rw [insN_lo h, insN_lo h, insN_lo h, insN_lo h]
      exact hr.1 i (by omega)
    · rw [h, insN_at, insN_at, insN_at, insN_at]
      exact ho
    · obtain ⟨k, rfl⟩ : ∃ k, i = k + 1 := ⟨i - 1, by omega⟩
      rw [insN_hi (by omega), insN_hi (by omega), insN_hi (by omega), insN_hi (by omega)]
      exact hr.1 k (by omega)
  · have hi : i + 1 < mn S + 1 := hi
    show insN (ms S) j x i + insN (ml S) j n i ≤ insN (ms S) j x (i + 1)
    rcases Nat.lt_trichotomy i j with h | h | h
    · rw [insN_lo h, insN_lo h]
      by_cases h3 : i + 1 = j
      · rw [h3, insN_at]
        exact h1 i h3
      · rw [insN_lo (by omega)]
        exact hr.2 i (by omega)
    · rw [h, insN_at, insN_at, insN_hi (Nat.le_refl _)]
      exact h2 (by omega)
    · obtain ⟨k, rfl⟩ : ∃ k, i = k + 1 := ⟨i - 1, by omega⟩
      rw [insN_hi (by omega), insN_hi (by omega), insN_hi (by omega)]
      exact hr.2 k (by omega)
end
