/-! Node's methods over the class's cells -/
def aOk (A : cA) : Prop := 5 ≤ aM A ∧ aM A ≤ 84 ∧ ∀ i, i < 260 → (0 ≤ aEn A i ∧ aEn A i ≤ aRm A i) ∧ (0 ≤ aDp A i ∧ aDp A i ≤ 5) ∧ ∀ q, 0 ≤ aWf A i q ∧ aWf A i q ≤ 16777216
theorem aOk.rm {A : cA} (h : aOk A) (i : Nat) : 4 ≤ (aRm A i : Int) ∧ (aRm A i : Int) ≤ 84 := by
  unfold aRm
  have := h.1
  have := h.2.1
  split <;> omega
theorem aOk.wd {A : cA} (h : aOk A) {i : Nat} (hi : i < 260) (p k : Int) : 0 ≤ gWd (aWf A i) (aEn A i) p k ∧ gWd (aWf A i) (aEn A i) p k ≤ 16777216 := by
  unfold gWd
  split
  · exact (h.2.2 i hi).2.2 _
  · omega
theorem wA_ne {i : Nat} : oA i ≠ wA i := by
  unfold wA
  omega
theorem oA_inj {i j : Nat} (hi : i < 260) (hj : j < 260) (h : oA i = oA j) : i = j := by
  unfold oA at h
  split at h <;> split at h <;> omega
theorem oA_wA {i j : Nat} (hi : i < 260) (hj : j < 260) : oA i ≠ wA j := by
  unfold wA oA
  split <;> split <;> omega
section
variable {G : gG} {N : Option Nat} {A : cA} {h0 : gH} {i : Nat} {p : Int}
theorem p_isFull (ok : aOk A) (hi : i < 260) : Rd G m_Node_isFull [vR (oA i)] N (hpx A h0) (some (vI (if (aRm A i : Int) ≤ aEn A i then 1 else 0))) N (hpx A h0) := c_isFull (hp_nd hi) (ok.rm i) (ok.2.2 i hi).1
theorem p_hasEntry (ok : aOk A) (hi : i < 260) (rp : (-2147483648 ≤ p ∧ p ≤ 2147483647)) : Rd G m_Node_hasEntry [vR (oA i), vI p] N (hpx A h0) (some (vI (if 0 ≤ p ∧ p < aEn A i then 1 else 0))) N (hpx A h0) := c_hasEntry (hp_nd hi) (ok.rm i) (ok.2.2 i hi).1 rp
theorem p_firstAt (ok : aOk A) (hi : i < 260) (rp : (-2147483648 ≤ p ∧ p ≤ 2147483647)) : Rd G m_Node_firstAt [vR (oA i), vI p] N (hpx A h0) (some (vI (gWd (aWf A i) (aEn A i) p 0))) N (hpx A h0) := c_firstAt (hp_nd hi) (hp_wd hi) (by omega) (ok.rm i) (ok.2.2 i hi).1 rp
theorem p_belowAt (ok : aOk A) (hi : i < 260) (rp : (-2147483648 ≤ p ∧ p ≤ 2147483647)) : Rd G m_Node_belowAt [vR (oA i), vI p] N (hpx A h0) (some (vI (gWd (aWf A i) (aEn A i) p 1))) N (hpx A h0) := c_belowAt (hp_nd hi) (hp_wd hi) (by omega) (ok.rm i) (ok.2.2 i hi).1 rp
theorem p_volumeAt (ok : aOk A) (hi : i < 260) (rp : (-2147483648 ≤ p ∧ p ≤ 2147483647)) : Rd G m_Node_volumeAt [vR (oA i), vI p] N (hpx A h0) (some (vI (gWd (aWf A i) (aEn A i) p 2))) N (hpx A h0) := c_volumeAt (hp_nd hi) (hp_wd hi) (by omega) (ok.rm i) (ok.2.2 i hi).1 rp
theorem p_lengthAt (ok : aOk A) (hi : i < 260) (rp : (-2147483648 ≤ p ∧ p ≤ 2147483647)) : Rd G m_Node_lengthAt [vR (oA i), vI p] N (hpx A h0) (some (vI (gLn (gWd (aWf A i) (aEn A i) p 1)))) N (hpx A h0) := c_lengthAt (hp_nd hi) (hp_wd hi) (by omega) (ok.rm i) (ok.2.2 i hi).1 rp (by have := ok.wd hi p 1; omega)
theorem p_isWrittenAt (ok : aOk A) (hi : i < 260) (rp : (-2147483648 ≤ p ∧ p ≤ 2147483647)) : Rd G m_Node_isWrittenAt [vR (oA i), vI p] N (hpx A h0) (some (vI (if (0 ≤ p ∧ p < aEn A i) ∧ gWd (aWf A i) (aEn A i) p 1 ≤ 32768 then 1 else 0))) N (hpx A h0) := c_isWrittenAt (hp_nd hi) (hp_wd hi) (by omega) (ok.rm i) (ok.2.2 i hi).1 rp (by have := ok.wd hi p 1; omega)
theorem p_lastUpTo {b : Int} (ok : aOk A) (hi : i < 260) (rb : (-2147483648 ≤ b ∧ b ≤ 2147483647)) (hs : ∀ x y : Nat, x ≤ y → (y : Int) < aEn A i → aWf A i (x * 3) ≤ aWf A i (y * 3)) : Rd G m_Node_lastUpTo [vR (oA i), vI b] N (hpx A h0) (some (vI (gLu (aWf A i) b (aEn A i).toNat))) N (hpx A h0) := c_lastUpTo (hp_nd hi) (hp_wd hi) (by omega) (ok.rm i) (ok.2.2 i hi).1 rb (fun q => by have := (ok.2.2 i hi).2.2 q; omega) hs
theorem p_byteAt (ok : aOk A) (hi : i < 260) (hp : 0 ≤ p ∧ p ≤ 1023) : Rd G m_Node_byteAt [vR (oA i), vI p] N (hpx A h0) (some (vI (gBy (gWb (aWf A i) (aRm A i) (aDp A i) (aEn A i) (p / 4)) (p % 4)))) N (hpx A h0) := c_byteAt (hp_nd hi) (hp_wd hi) (by omega) (ok.rm i) (ok.2.2 i hi).1 (ok.2.2 i hi).2.1 hp (fun q => by have := (ok.2.2 i hi).2.2 q; omega)
theorem p_setFirst {x : Int} (ok : aOk A) (hi : i < 260) (hp : 0 ≤ p ∧ p < aEn A i) : Rd G m_Node_setFirst [vR (oA i), vI p, vI x] N (hpx A h0) none N (hpx (sWf A i (gF (aWf A i) (p * 3).toNat x)) h0) := by
  have q := c_setFirst (G := G) (N := N) (x := x) (hp_nd (A := A) (h0 := h0) hi) (hp_wd hi) (by omega) (ok.rm i) (ok.2.2 i hi).1 (by have := ok.rm i; have := (ok.2.2 i hi).1; omega) hp
  rw [up_wd hi] at q
  exact q
theorem p_setEntry {x y z : Int} (ok : aOk A) (hi : i < 260) (hp : 0 ≤ p ∧ p < aEn A i) : Rd G m_Node_setEntry [vR (oA i), vI p, vI x, vI y, vI z] N (hpx A h0) none N (hpx (sWf A i (gT3 (aWf A i) (p * 3).toNat x y z)) h0) := by
  have q := c_setEntry (G := G) (N := N) (x := x) (y := y) (z := z) (hp_nd (A := A) (h0 := h0) hi) (hp_wd hi) (by omega) (ok.rm i) (ok.2.2 i hi).1 wA_ne (by have := ok.rm i; have := (ok.2.2 i hi).1; omega) hp
  rw [up_wd hi] at q
  exact q
theorem p_insert {x y z : Int} (ok : aOk A) (hi : i < 260) (hp : 0 ≤ p ∧ p ≤ aEn A i) (hf : aEn A i < aRm A i) : Rd G m_Node_insert [vR (oA i), vI p, vI x, vI y, vI z] N (hpx A h0) none none (hpx (sNd (sWf A i (gIns (aWf A i) (aEn A i) p x y z)) i (aTk A i) (aDp A i) (aEn A i + 1)) h0) := by
  have q := c_insert (G := G) (N := N) (x := x) (y := y) (z := z) (hp_nd (A := A) (h0 := h0) hi) (hp_wd hi) (by omega) (ok.rm i) (ok.2.2 i hi).1 wA_ne hp hf
  rw [up_wd hi] at q
  have e : ∀ A' : cA, aRm A' i = aRm A i → gU (hpx A' h0) (oA i) (gNd (nNo i) (aRm A i : Int) (aTk A i) (aDp A i) (aEn A i + 1) (wA i)) = hpx (sNd A' i (aTk A i) (aDp A i) (aEn A i + 1)) h0 := fun A' h9 => by rw [← h9]; exact up_nd hi
  rw [e (sWf A i _) rfl] at q
  exact q
theorem p_remove (ok : aOk A) (hi : i < 260) (hp : 0 ≤ p ∧ p < aEn A i) : Rd G m_Node_remove [vR (oA i), vI p] N (hpx A h0) none none (hpx (sNd (sWf A i (gRem (aWf A i) (aEn A i) p)) i (aTk A i) (aDp A i) (aEn A i - 1)) h0) := by
  have q := c_remove (G := G) (N := N) (hp_nd (A := A) (h0 := h0) hi) (hp_wd hi) (by omega) (ok.rm i) (ok.2.2 i hi).1 wA_ne hp
  rw [up_wd hi] at q
  have e : ∀ A' : cA, aRm A' i = aRm A i → gU (hpx A' h0) (oA i) (gNd (nNo i) (aRm A i : Int) (aTk A i) (aDp A i) (aEn A i - 1) (wA i)) = hpx (sNd A' i (aTk A i) (aDp A i) (aEn A i - 1)) h0 := fun A' h9 => by rw [← h9]; exact up_nd hi
  rw [e (sWf A i _) rfl] at q
  exact q
theorem p_moveTail {j : Nat} (ok : aOk A) (hi : i < 260) (hj : j < 260) (hij : i ≠ j) (hp : 0 ≤ p ∧ p ≤ aEn A i) (hm : aEn A i - p ≤ aRm A j) : Rd G m_Node_moveTail [vR (oA i), vI p, vR (oA j)] N (hpx A h0) none none (hpx (sNd (sNd (sWf A j (gCp (aWf A i) (aWf A j) (p * 3).toNat 0 ((aEn A i - p) * 3).toNat)) j (aTk A j) (aDp A i) (aEn A i - p)) i (aTk A i) (aDp A i) p) h0) := by
  have q := c_moveTail (G := G) (N := N) (hp_nd (A := A) (h0 := h0) hi) (hp_wd hi) (by omega) (ok.rm i) (ok.2.2 i hi).1 (hp_nd hj) (hp_wd hj) (by omega) (ok.rm j) wA_ne (fun h9 => hij (oA_inj hi hj h9)) (oA_wA hi hj) wA_ne (oA_wA hj hi) hp hm
  rw [up_wd hj] at q
  have e : ∀ (A' : cA) (x y z : Int) (k : Nat), k < 260 → aRm A' k = aRm A k → gU (hpx A' h0) (oA k) (gNd (nNo k) (aRm A k : Int) x y z (wA k)) = hpx (sNd A' k x y z) h0 := fun A' x y z k hk h9 => by rw [← h9]; exact up_nd hk
  rw [e (sWf A j _) _ _ _ j hj rfl, e (sNd (sWf A j _) j _ _ _) _ _ _ i hi rfl] at q
  exact q
end
