/-! the runs stay runs -/
section
variable {S : mS} {q c : Nat}
theorem srm_rn (hr : mRn S) : mRn (sRm S q c) := by
  refine ⟨fun i hi => ?_, fun i hi => ?_⟩
  · have hi : i < mn S - 1 := hi
    show 0 ≤ delN (ms S) q i ∧ 1 ≤ delN (ml S) q i ∧ delN (ms S) q i + delN (ml S) q i ≤ 65536 ∧ (delN (mw S) q i = 0 ∨ delN (mw S) q i = 1) ∧ delN (ml S) q i ≤ 32767 + delN (mw S) q i ∧ 1 ≤ delN (mv S) q i ∧ delN (mv S) q i + delN (ml S) q i ≤ 16777217
    by_cases h : i < q
    · rw [del_lo h, del_lo h, del_lo h, del_lo h]
      exact hr.1 i (by omega)
    · rw [del_hi (by omega), del_hi (by omega), del_hi (by omega), del_hi (by omega)]
      exact hr.1 (i + 1) (by omega)
  · have hi : i + 1 < mn S - 1 := hi
    show delN (ms S) q i + delN (ml S) q i ≤ delN (ms S) q (i + 1)
    by_cases h : i + 1 < q
    · rw [del_lo (by omega), del_lo (by omega), del_lo h]
      exact hr.2 i (by omega)
    · by_cases h2 : i < q
      · rw [del_lo h2, del_lo h2, del_hi (by omega)]
        exact hr.mono (by omega) (by omega)
      · rw [del_hi (by omega), del_hi (by omega), del_hi (by omega)]
        exact hr.2 (i + 1) (by omega)
end
