/-! a cell of the class becomes another one -/
section
variable {A A' : cA} {h0 : gH} {i t a : Nat}
theorem hpx_congr (hP : a = 2 → ePo A' = ePo A) (hN : ∀ j, j < 256 → a = 4 + 2 * j → eNd A' j = eNd A j) (hW : ∀ j, j < 256 → a = 5 + 2 * j → eWd A' j = eWd A j) (hT : ∀ t r, t < 4 → r < 6 → a = 517 + 6 * t + r → hpT A' t r = hpT A t r) : hpx A' h0 a = hpx A h0 a := by
  unfold hpx
  by_cases c1 : 541 ≤ a
  · rw [if_pos c1, if_pos c1]
  rw [if_neg c1, if_neg c1]
  by_cases c2 : a = 0
  · rw [if_pos c2, if_pos c2]
  rw [if_neg c2, if_neg c2]
  by_cases c3 : a = 1
  · rw [if_pos c3, if_pos c3]
  rw [if_neg c3, if_neg c3]
  by_cases c4 : a = 2
  · rw [if_pos c4, if_pos c4, hP c4]
  rw [if_neg c4, if_neg c4]
  by_cases c5 : a = 3
  · rw [if_pos c5, if_pos c5]
  rw [if_neg c5, if_neg c5]
  by_cases c6 : a < 516
  · rw [if_pos c6, if_pos c6]
    by_cases c7 : a % 2 = 0
    · rw [if_pos c7, if_pos c7, hN ((a - 4) / 2) (by omega) (by omega)]
    · rw [if_neg c7, if_neg c7, hW ((a - 4) / 2) (by omega) (by omega)]
  rw [if_neg c6, if_neg c6]
  by_cases c8 : a = 516
  · rw [if_pos c8, if_pos c8]
  rw [if_neg c8, if_neg c8, hT ((a - 517) / 6) ((a - 517) % 6) (by omega) (by omega) (by omega)]
theorem hpT_congr (r : Nat) (h1 : eTr A' t = eTr A t) (h2 : r = 1 → eNd A' (256 + t) = eNd A (256 + t)) (h3 : r = 2 → eWd A' (256 + t) = eWd A (256 + t)) (h4 : aWy A' t = aWy A t) (h5 : aPl A' t = aPl A t) (h6 : aFs A' t = aFs A t) : hpT A' t r = hpT A t r := by
  unfold hpT
  by_cases c1 : r = 0
  · rw [if_pos c1, if_pos c1, h1]
  rw [if_neg c1, if_neg c1]
  by_cases c2 : r = 1
  · rw [if_pos c2, if_pos c2, h2 c2]
  rw [if_neg c2, if_neg c2]
  by_cases c3 : r = 2
  · rw [if_pos c3, if_pos c3, h3 c3]
  rw [if_neg c3, if_neg c3, h4, h5, h6]
theorem up_nd {x y z : Int} (hi : i < 260) : gU (hpx A h0) (oA i) (gNd (nNo i) (aRm A i : Int) x y z (wA i)) = hpx (sNd A i x y z) h0 := by
  have hne : ∀ j, j ≠ i → eNd (sNd A i x y z) j = eNd A j := fun j hj => by
    show gNd (nNo j) (aRm A j : Int) (gF (aTk A) i x j) (gF (aDp A) i y j) (gF (aEn A) i z j) (wA j) = eNd A j
    rw [gF_n hj, gF_n hj, gF_n hj]
  funext a
  unfold gU
  by_cases ha : a = oA i
  · rw [if_pos ha, ha, hp_nd hi]
    show _ = some (gNd (nNo i) (aRm A i : Int) (gF (aTk A) i x i) (gF (aDp A) i y i) (gF (aEn A) i z i) (wA i))
    rw [gF_s, gF_s, gF_s]
  · rw [if_neg ha]
    refine (hpx_congr (A := A) (A' := sNd A i x y z) (fun _ => rfl) (fun j hj e => hne j (fun q => ha ?_)) (fun j hj e => rfl) (fun t r ht hr e => hpT_congr (A := A) (A' := sNd A i x y z) r rfl (fun q => hne _ (fun q2 => ha ?_)) (fun q => rfl) rfl rfl rfl)).symm
    · subst q
      rw [e]
      exact (if_pos hj).symm
    · rw [← q2, e, q]
      unfold oA
      rw [if_neg (by omega)]
      omega
theorem up_wd {f : Nat → Int} (hi : i < 260) : gU (hpx A h0) (wA i) (gIA (aRm A i * 3) f) = hpx (sWf A i f) h0 := by
  have hne : ∀ j, j ≠ i → eWd (sWf A i f) j = eWd A j := fun j hj => by
    show gIA (aRm A j * 3) (gF (aWf A) i f j) = eWd A j
    rw [gF_n hj]
  funext a
  unfold gU
  by_cases ha : a = wA i
  · rw [if_pos ha, ha, hp_wd hi]
    show _ = some (gIA (aRm A i * 3) (gF (aWf A) i f i))
    rw [gF_s]
  · rw [if_neg ha]
    refine (hpx_congr (A := A) (A' := sWf A i f) (fun _ => rfl) (fun j hj e => rfl) (fun j hj e => hne j (fun q => ha ?_)) (fun t r ht hr e => hpT_congr (A := A) (A' := sWf A i f) r rfl (fun q => rfl) (fun q => hne _ (fun q2 => ha ?_)) rfl rfl rfl)).symm
    · subst q
      rw [e]
      unfold wA oA
      rw [if_pos hj]
      omega
    · rw [← q2, e, q]
      unfold wA oA
      rw [if_neg (by omega)]
      omega
theorem up_tr {r b m w l f : Int} (ht : t < 4) : gU (hpx A h0) (517 + 6 * t) (.inr (2, [vR (oA (256 + t)), vI r, vI b, vI m, vI w, vI l, vR 2, vR (520 + 6 * t), vR (521 + 6 * t), vI f, vR (522 + 6 * t)])) = hpx (sTr A t r b m w l f) h0 := by
  have hne : ∀ j, j ≠ t → eTr (sTr A t r b m w l f) j = eTr A j := fun j hj => by
    show (.inr (2, [vR (oA (256 + j)), vI (gF (aRu A) t r j), vI (gF (aBl A) t b j), vI (gF (aMa A) t m j), vI (gF (aMw A) t w j), vI (gF (aLb A) t l j), vR 2, vR (520 + 6 * j), vR (521 + 6 * j), vI (gF (aLf A) t f j), vR (522 + 6 * j)]) : gE) = eTr A j
    rw [gF_n hj, gF_n hj, gF_n hj, gF_n hj, gF_n hj, gF_n hj]
  funext a
  unfold gU
  by_cases ha : a = 517 + 6 * t
  · rw [if_pos ha, ha, hp_tr ht]
    show _ = some (.inr (2, [vR (oA (256 + t)), vI (gF (aRu A) t r t), vI (gF (aBl A) t b t), vI (gF (aMa A) t m t), vI (gF (aMw A) t w t), vI (gF (aLb A) t l t), vR 2, vR (520 + 6 * t), vR (521 + 6 * t), vI (gF (aLf A) t f t), vR (522 + 6 * t)]) : gE)
    rw [gF_s, gF_s, gF_s, gF_s, gF_s, gF_s]
  · rw [if_neg ha]
    refine (hpx_congr (A := A) (A' := sTr A t r b m w l f) (fun _ => rfl) (fun j hj e => rfl) (fun j hj e => rfl) (fun t9 r9 ht9 hr9 e => ?_)).symm
    by_cases h9 : t9 = t
    · subst h9
      have hr0 : ¬ r9 = 0 := by omega
      unfold hpT
      rw [if_neg hr0, if_neg hr0]
      rfl
    · exact hpT_congr (A := A) (A' := sTr A t r b m w l f) r9 (hne _ h9) (fun q => rfl) (fun q => rfl) rfl rfl rfl
theorem up_po {x : Int} : gU (hpx A h0) 2 (.inr (1, [vI x, vR 3])) = hpx (sLe A x) h0 := by
  funext a
  unfold gU
  by_cases ha : a = 2
  · rw [if_pos ha, ha, hp_po]
    rfl
  · rw [if_neg ha]
    exact (hpx_congr (A := A) (A' := sLe A x) (fun q => absurd q ha) (fun j hj e => rfl) (fun j hj e => rfl) (fun t9 r9 ht9 hr9 e => rfl)).symm
theorem up_wy {f : Nat → Nat} (ht : t < 4) : gU (hpx A h0) (520 + 6 * t) (eRf f) = hpx (sWy A t f) h0 := by
  funext a
  unfold gU
  by_cases ha : a = 520 + 6 * t
  · rw [if_pos ha, ha, hp_wy ht]
    show _ = some (eRf (gF (aWy A) t f t))
    rw [gF_s]
  · rw [if_neg ha]
    refine (hpx_congr (A := A) (A' := sWy A t f) (fun _ => rfl) (fun j hj e => rfl) (fun j hj e => rfl) (fun t9 r9 ht9 hr9 e => ?_)).symm
    by_cases h9 : t9 = t
    · subst h9
      have hr0 : ¬ r9 = 3 := by omega
      unfold hpT
      rw [if_neg hr0, if_neg hr0]
      rfl
    · exact hpT_congr (A := A) (A' := sWy A t f) r9 rfl (fun q => rfl) (fun q => rfl) (gF_n h9) rfl rfl
theorem up_pl {f : Nat → Int} (ht : t < 4) : gU (hpx A h0) (521 + 6 * t) (gIA 6 f) = hpx (sPl A t f) h0 := by
  funext a
  unfold gU
  by_cases ha : a = 521 + 6 * t
  · rw [if_pos ha, ha, hp_pl ht]
    show _ = some (gIA 6 (gF (aPl A) t f t))
    rw [gF_s]
  · rw [if_neg ha]
    refine (hpx_congr (A := A) (A' := sPl A t f) (fun _ => rfl) (fun j hj e => rfl) (fun j hj e => rfl) (fun t9 r9 ht9 hr9 e => ?_)).symm
    by_cases h9 : t9 = t
    · subst h9
      have hr0 : ¬ r9 = 4 := by omega
      unfold hpT
      rw [if_neg hr0, if_neg hr0]
      rfl
    · exact hpT_congr (A := A) (A' := sPl A t f) r9 rfl (fun q => rfl) (fun q => rfl) rfl (gF_n h9) rfl
theorem up_fs {f : Nat → Nat} (ht : t < 4) : gU (hpx A h0) (522 + 6 * t) (eRf f) = hpx (sFs A t f) h0 := by
  funext a
  unfold gU
  by_cases ha : a = 522 + 6 * t
  · rw [if_pos ha, ha, hp_fs ht]
    show _ = some (eRf (gF (aFs A) t f t))
    rw [gF_s]
  · rw [if_neg ha]
    refine (hpx_congr (A := A) (A' := sFs A t f) (fun _ => rfl) (fun j hj e => rfl) (fun j hj e => rfl) (fun t9 r9 ht9 hr9 e => ?_)).symm
    by_cases h9 : t9 = t
    · subst h9
      unfold hpT
      by_cases d0 : r9 = 0
      · rw [if_pos d0, if_pos d0]
        rfl
      rw [if_neg d0, if_neg d0]
      by_cases d1 : r9 = 1
      · rw [if_pos d1, if_pos d1]
        rfl
      rw [if_neg d1, if_neg d1]
      by_cases d2 : r9 = 2
      · rw [if_pos d2, if_pos d2]
        rfl
      rw [if_neg d2, if_neg d2]
      by_cases d3 : r9 = 3
      · rw [if_pos d3, if_pos d3]
        rfl
      rw [if_neg d3, if_neg d3]
      by_cases d4 : r9 = 4
      · rw [if_pos d4, if_pos d4]
        rfl
      omega
    · exact hpT_congr (A := A) (A' := sFs A t f) r9 rfl (fun q => rfl) (fun q => rfl) rfl rfl (gF_n h9)
/-- a reference is put into a row of six -/
theorem eRf_set {f : Nat → Nat} {k : Nat} (hk : k < 6) : (.inl (2, 6, .inr (.inr (gF (fun k => if k < 6 then some (oA (f k)) else none) k (some (oA i))))) : gE) = eRf (gF f k i) := by
  congr 5
  funext q
  by_cases hq : q = k
  · subst hq
    rw [gF_s, if_pos hk, gF_s]
  · rw [gF_n hq, gF_n hq]
end
