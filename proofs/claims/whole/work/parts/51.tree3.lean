/-! Tree: changes of nodes, by name; what stays in order -/
def insA (A : cA) (i : Nat) (p x y z : Int) : cA := sNd (sWf A i (gIns (aWf A i) (aEn A i) p x y z)) i (aTk A i) (aDp A i) (aEn A i + 1)
def remA (A : cA) (i : Nat) (p : Int) : cA := sNd (sWf A i (gRem (aWf A i) (aEn A i) p)) i (aTk A i) (aDp A i) (aEn A i - 1)
def mvA (A : cA) (i : Nat) (p : Int) (j : Nat) : cA := sNd (sNd (sWf A j (gCp (aWf A i) (aWf A j) (p * 3).toNat 0 ((aEn A i - p) * 3).toNat)) j (aTk A j) (aDp A i) (aEn A i - p)) i (aTk A i) (aDp A i) p
def cbA (A : cA) (t i : Nat) (x : Int) : cA := sTr A t (aRu A t) (aBl A t + x) (aMa A t) (aMw A t) (if aDp A i = 0 then aLb A t + x else aLb A t) (aLf A t)
def gbA (A : cA) (t i : Nat) : cA := sLe (sNd (cbA A t i (-1)) i 0 (aDp A i) 0) (aLe A + 1)
theorem aOk_sWf {A : cA} {i : Nat} {f : Nat → Int} (ok : aOk A) (hf : ∀ q, 0 ≤ f q ∧ f q ≤ 16777216) : aOk (sWf A i f) := by
  refine ⟨ok.1, ok.2.1, fun j hj => ⟨(ok.2.2 j hj).1, (ok.2.2 j hj).2.1, fun q => ?_⟩⟩
  show 0 ≤ gF (aWf A) i f j q ∧ gF (aWf A) i f j q ≤ 16777216
  by_cases h : j = i
  · subst h
    rw [gF_s]
    exact hf q
  · rw [gF_n h]
    exact (ok.2.2 j hj).2.2 q
theorem aOk_sNd {A : cA} {i : Nat} {x y z : Int} (ok : aOk A) (hy : 0 ≤ y ∧ y ≤ 5) (hz : 0 ≤ z ∧ z ≤ aRm A i) : aOk (sNd A i x y z) := by
  refine ⟨ok.1, ok.2.1, fun j hj => ?_⟩
  show (0 ≤ gF (aEn A) i z j ∧ gF (aEn A) i z j ≤ aRm A j) ∧ (0 ≤ gF (aDp A) i y j ∧ gF (aDp A) i y j ≤ 5) ∧ _
  by_cases h : j = i
  · subst h
    rw [gF_s, gF_s]
    exact ⟨hz, hy, (ok.2.2 j hj).2.2⟩
  · rw [gF_n h, gF_n h]
    exact ok.2.2 j hj
theorem gCp_r {f g : Nat → Int} {a b n : Nat} (hf : ∀ q, 0 ≤ f q ∧ f q ≤ 16777216) (hg : ∀ q, 0 ≤ g q ∧ g q ≤ 16777216) (q : Nat) : 0 ≤ gCp f g a b n q ∧ gCp f g a b n q ≤ 16777216 := by
  unfold gCp
  split
  · exact hf _
  · exact hg _
theorem gF_r {f : Nat → Int} {k : Nat} {x : Int} (hf : ∀ q, 0 ≤ f q ∧ f q ≤ 16777216) (hx : 0 ≤ x ∧ x ≤ 16777216) (q : Nat) : 0 ≤ gF f k x q ∧ gF f k x q ≤ 16777216 := by
  unfold gF
  split
  · exact hx
  · exact hf _
theorem gT3_r {f : Nat → Int} {k : Nat} {x y z : Int} (hf : ∀ q, 0 ≤ f q ∧ f q ≤ 16777216) (hx : 0 ≤ x ∧ x ≤ 16777216) (hy : 0 ≤ y ∧ y ≤ 16777216) (hz : 0 ≤ z ∧ z ≤ 16777216) (q : Nat) : 0 ≤ gT3 f k x y z q ∧ gT3 f k x y z q ≤ 16777216 := gF_r (gF_r (gF_r hf hx) hy) hz q
theorem aOk_ins {A : cA} {i : Nat} {p x y z : Int} (ok : aOk A) (hi : i < 260) (hf : aEn A i < aRm A i) (hx : 0 ≤ x ∧ x ≤ 16777216) (hy : 0 ≤ y ∧ y ≤ 16777216) (hz : 0 ≤ z ∧ z ≤ 16777216) : aOk (insA A i p x y z) := by
  have h1 := ok.2.2 i hi
  refine aOk_sNd (aOk_sWf ok (gT3_r (gCp_r h1.2.2 h1.2.2) hx hy hz)) h1.2.1 ?_
  show 0 ≤ aEn A i + 1 ∧ aEn A i + 1 ≤ aRm A i
  omega
theorem aOk_rem {A : cA} {i : Nat} {p : Int} (ok : aOk A) (hi : i < 260) (hf : 0 < aEn A i) : aOk (remA A i p) := by
  have h1 := ok.2.2 i hi
  refine aOk_sNd (aOk_sWf ok (gCp_r h1.2.2 h1.2.2)) h1.2.1 ?_
  show 0 ≤ aEn A i - 1 ∧ aEn A i - 1 ≤ aRm A i
  omega
theorem aOk_mv {A : cA} {i j : Nat} {p : Int} (ok : aOk A) (hi : i < 260) (hj : j < 260) (hp : 0 ≤ p ∧ p ≤ aEn A i) (hm : aEn A i - p ≤ aRm A j) : aOk (mvA A i p j) := by
  have h1 := ok.2.2 i hi
  have h2 := ok.2.2 j hj
  refine aOk_sNd (aOk_sNd (aOk_sWf ok (gCp_r h1.2.2 h2.2.2)) h1.2.1 ?_) h1.2.1 ?_
  · show 0 ≤ aEn A i - p ∧ aEn A i - p ≤ aRm A j
    omega
  · show 0 ≤ p ∧ p ≤ aRm A i
    omega
theorem aOk_cb {A : cA} {t i : Nat} {x : Int} (ok : aOk A) : aOk (cbA A t i x) := ok
theorem aOk_gb {A : cA} {t i : Nat} (ok : aOk A) (hi : i < 260) : aOk (gbA A t i) := by
  have h1 := ok.2.2 i hi
  have h2 := ok.rm i
  have h3 : aOk (sNd (cbA A t i (-1)) i 0 (aDp A i) 0) := aOk_sNd (A := cbA A t i (-1)) ok h1.2.1 (by show (0 : Int) ≤ 0 ∧ (0 : Int) ≤ aRm A i; omega)
  exact h3
section
variable {G : gG} {N : Option Nat} {A : cA} {h0 : gH} {t l : Nat}
theorem c_Tree_giveBack {i : Nat} (ok : aOk A) (ht : t < 4) (hi : i < 260) (h1 : aTk A i = 1) : Rd G m_Tree_giveBack [vR (517 + 6 * t), vR (oA i)] N (hpx A h0) none N (hpx (gbA A t i) h0) := by
  refine Rn.of rfl rfl rfl ?_
  have hM := ok_Tree_giveBack
  repeat (first | refine go_pure hM rfl ?_ | (refine go_get (fs := ?_) (v := ?_) hM rfl ?_ ?_ ?_; rotate_left 2; assumption; rfl) | refine go_ldc hM rfl ?_)
  refine go_cV hM rfl rfl rfl (hp_tr ht) rfl (c_countBlock ok ht hi) rfl ?_
  have k1 := hp_tr (A := cbA A t i (-1)) (h0 := h0) ht
  have k1' : hpx (sTr A t (aRu A t) (aBl A t + -1) (aMa A t) (aMw A t) (if aDp A i = 0 then aLb A t + -1 else aLb A t) (aLf A t)) h0 (517 + 6 * t) = some (eTr (cbA A t i (-1)) t) := k1
  repeat (first | refine go_pure hM rfl ?_ | (refine go_get (fs := ?_) (v := ?_) hM rfl ?_ ?_ ?_; rotate_left 2; assumption; rfl) | refine go_ldc hM rfl ?_)
  refine go_cV hM rfl rfl rfl (hp_po (A := cbA A t i (-1))) rfl (c_Pool_giveBack (A := cbA A t i (-1)) hi h1) rfl ?_
  exact go_vret hM rfl rfl ⟨rfl, rfl, rfl⟩
/-- the lowest level with room, below a level -/
def lwr (A : cA) (t : Nat) : Nat → Int
  | 0 => -1
  | k + 1 => if (aRm A (aWy A t k) : Int) ≤ aEn A (aWy A t k) then lwr A t k else k
set_option maxHeartbeats 1000000 in
theorem c_levelWithRoom (ok : aOk A) (ht : t < 4) (hl : aLf A t = (l : Int)) (hl6 : l < 6) (hw : ∀ k, k ≤ l → aWy A t k < 260) : Rd G m_Tree_levelWithRoom [vR (517 + 6 * t)] N (hpx A h0) (some (vI (lwr A t (l + 1)))) N (hpx A h0) := by
  refine Rn.of rfl rfl rfl ?_
  have hM := ok_Tree_levelWithRoom
  have k1 := hp_tr (A := A) (h0 := h0) ht
  have k2 := hp_wy (A := A) (h0 := h0) ht
  have loop : ∀ (k : Nat), k ≤ l + 1 → lwr A t k = lwr A t (l + 1) → Go G m_Tree_levelWithRoom (gFin G (gEq (some (vI (lwr A t (l + 1)))) N (hpx A h0)) gNo) 5 [some (vR (517 + 6 * t)), some (vI ((k : Int) - 1))] [] N (hpx A h0) 0 0 := by
    intro k
    induction k with
    | zero =>
      intro h1 h2
      repeat (first | refine go_pure hM rfl ?_ | (refine go_get (fs := ?_) (v := ?_) hM rfl ?_ ?_ ?_; rotate_left 2; assumption; rfl) | refine go_ldc hM rfl ?_)
      refine go_if_lt hM rfl (by omega) (fun hc => ?_) (fun hc => absurd hc (by omega))
      repeat (first | refine go_pure hM rfl ?_ | (refine go_get (fs := ?_) (v := ?_) hM rfl ?_ ?_ ?_; rotate_left 2; assumption; rfl) | refine go_ldc hM rfl ?_)
      exact go_iret hM rfl rfl ⟨by rw [← h2]; rfl, rfl, rfl⟩
    | succ k ih =>
      intro h1 h2
      have e0 : ((k + 1 : Nat) : Int) - 1 = k := by omega
      rw [e0]
      have w1 := hw k (by omega)
      have e1 : (k : Int).toNat = k := by omega
      repeat (first | refine go_pure hM rfl ?_ | (refine go_get (fs := ?_) (v := ?_) hM rfl ?_ ?_ ?_; rotate_left 2; assumption; rfl) | refine go_ldc hM rfl ?_)
      refine go_if_lt hM rfl (by omega) (fun hc => absurd hc (by omega)) (fun hc => ?_)
      repeat (first | refine go_pure hM rfl ?_ | (refine go_get (fs := ?_) (v := ?_) hM rfl ?_ ?_ ?_; rotate_left 2; assumption; rfl) | refine go_ldc hM rfl ?_)
      refine go_aaldS (r := oA (aWy A t k)) hM rfl k2 rfl (by omega) (by omega) (by omega) (by rw [e1]; exact if_pos (by omega)) ?_
      have q := p_isFull (G := G) (N := N) (h0 := h0) ok w1
      have h3 : lwr A t (k + 1) = if (aRm A (aWy A t k) : Int) ≤ aEn A (aWy A t k) then lwr A t k else k := rfl
      by_cases hc : (aRm A (aWy A t k) : Int) ≤ aEn A (aWy A t k)
      · rw [if_pos hc] at q h3
        refine go_cV hM rfl rfl rfl (hp_nd w1) rfl q rfl ?_
        refine go_if_eq hM rfl (by omega) (fun hc2 => absurd hc2 (by omega)) (fun hc2 => ?_)
        refine go_pure hM rfl ?_
        have e2 : (k : Int) + (-1) = (k : Int) - 1 := by omega
        rw [e2]
        repeat (first | exact ih (by omega) (h3.symm.trans h2) | refine go_pure hM rfl ?_ | (refine go_get (fs := ?_) (v := ?_) hM rfl ?_ ?_ ?_; rotate_left 2; assumption; rfl) | refine go_ldc hM rfl ?_)
      · rw [if_neg hc] at q h3
        refine go_cV hM rfl rfl rfl (hp_nd w1) rfl q rfl ?_
        refine go_if_eq hM rfl (by omega) (fun hc2 => ?_) (fun hc2 => absurd rfl hc2)
        repeat (first | refine go_pure hM rfl ?_ | (refine go_get (fs := ?_) (v := ?_) hM rfl ?_ ?_ ?_; rotate_left 2; assumption; rfl) | refine go_ldc hM rfl ?_)
        exact go_iret hM rfl rfl ⟨by rw [← h2, h3], rfl, rfl⟩
  have e0 : ((l + 1 : Nat) : Int) - 1 = l := by omega
  have l0 := loop (l + 1) (by omega) rfl
  rw [e0] at l0
  refine go_pure hM rfl ?_
  refine go_get hM rfl k1 rfl ?_
  rw [hl]
  repeat (first | exact l0 | refine go_pure hM rfl ?_ | (refine go_get (fs := ?_) (v := ?_) hM rfl ?_ ?_ ?_; rotate_left 2; assumption; rfl) | refine go_ldc hM rfl ?_)
/-- where the nodes begin is told above them, up from a level -/
def rfA (A : cA) (t : Nat) : Nat → cA
  | 0 => A
  | k + 1 => rfA (sWf A (aWy A t k) (gF (aWf A (aWy A t k)) (aPl A t k * 3).toNat (gWd (aWf A (aWy A t (k + 1))) (aEn A (aWy A t (k + 1))) 0 0))) t k
theorem aOk_rf {t : Nat} : ∀ (k : Nat) {A : cA}, aOk A → (∀ j, j ≤ k → aWy A t j < 260) → aOk (rfA A t k) := by
  intro k
  induction k with
  | zero => intro A ok _; exact ok
  | succ k ih =>
    intro A ok hw
    exact ih (A := sWf A (aWy A t k) _) (aOk_sWf ok (gF_r (ok.2.2 _ (hw k (by omega))).2.2 (ok.wd (hw (k + 1) (by omega)) 0 0))) (fun j hj => hw j (by omega))
set_option maxHeartbeats 1000000 in
theorem c_refreshFirsts (ht : t < 4) (hl6 : l < 6) (ok0 : aOk A) (hw0 : ∀ k, k ≤ l → aWy A t k < 260) (hp0 : ∀ k, k < l → 0 ≤ aPl A t k ∧ aPl A t k < aEn A (aWy A t k)) : Rd G m_Tree_refreshFirsts [vR (517 + 6 * t), vI l] N (hpx A h0) none N (hpx (rfA A t l) h0) := by
  refine Rn.of rfl rfl rfl ?_
  have hM := ok_Tree_refreshFirsts
  have loop : ∀ (k : Nat) (B : cA), k < 6 → aOk B → (∀ j, j ≤ k → aWy B t j < 260) → (∀ j, j < k → 0 ≤ aPl B t j ∧ aPl B t j < aEn B (aWy B t j)) → rfA B t k = rfA A t l → Go G m_Tree_refreshFirsts (gFin G (gEq none N (hpx (rfA A t l) h0)) gNo) 2 [some (vR (517 + 6 * t)), some (vI l), some (vI k)] [] N (hpx B h0) 0 0 := by
    intro k
    induction k with
    | zero =>
      intro B _ ok hw hp he
      repeat (first | refine go_pure hM rfl ?_ | (refine go_get (fs := ?_) (v := ?_) hM rfl ?_ ?_ ?_; rotate_left 2; assumption; rfl) | refine go_ldc hM rfl ?_)
      refine go_if_le hM rfl (by omega) (fun hc => ?_) (fun hc => absurd hc (by omega))
      refine go_vret hM rfl rfl ⟨rfl, rfl, ?_⟩
      rw [← he]
      rfl
    | succ k ih =>
      intro B hk6 ok hw hp he
      have k1 := hp_tr (A := B) (h0 := h0) ht
      have k2 := hp_wy (A := B) (h0 := h0) ht
      have k3 := hp_pl (A := B) (h0 := h0) ht
      have w1 := hw k (by omega)
      have w2 := hw (k + 1) (by omega)
      have p1 := hp k (by omega)
      have e0 : ((k + 1 : Nat) : Int) - 1 = k := by omega
      have e1 : (k : Int).toNat = k := by omega
      have e2 : ((k + 1 : Nat) : Int).toNat = k + 1 := by omega
      have r1 := ok.2.2 _ w1
      have r2 := ok.rm (aWy B t k)
      repeat (first | refine go_pure hM rfl ?_ | (refine go_get (fs := ?_) (v := ?_) hM rfl ?_ ?_ ?_; rotate_left 2; assumption; rfl) | refine go_ldc hM rfl ?_)
      refine go_if_le hM rfl (by omega) (fun hc => absurd hc (by omega)) (fun hc => ?_)
      repeat (first | refine go_pure hM rfl ?_ | (refine go_get (fs := ?_) (v := ?_) hM rfl ?_ ?_ ?_; rotate_left 2; assumption; rfl) | refine go_ldc hM rfl ?_)
      rw [e0]
      refine go_aaldS (r := oA (aWy B t k)) hM rfl k2 rfl (by omega) (by omega) (by omega) (by rw [e1]; exact if_pos (by omega)) ?_
      repeat (first | refine go_pure hM rfl ?_ | (refine go_get (fs := ?_) (v := ?_) hM rfl ?_ ?_ ?_; rotate_left 2; assumption; rfl) | refine go_ldc hM rfl ?_)
      rw [e0]
      refine go_iald hM rfl k3 (by omega) (by omega) (by omega) ?_
      rw [e1]
      repeat (first | refine go_pure hM rfl ?_ | (refine go_get (fs := ?_) (v := ?_) hM rfl ?_ ?_ ?_; rotate_left 2; assumption; rfl) | refine go_ldc hM rfl ?_)
      refine go_aaldS (r := oA (aWy B t (k + 1))) hM rfl k2 rfl (by omega) (by omega) (by omega) (by rw [e2]; exact if_pos (by omega)) ?_
      repeat (first | refine go_pure hM rfl ?_ | (refine go_get (fs := ?_) (v := ?_) hM rfl ?_ ?_ ?_; rotate_left 2; assumption; rfl) | refine go_ldc hM rfl ?_)
      refine go_cV hM rfl rfl rfl (hp_nd w2) rfl (p_firstAt ok w2 (by omega)) rfl ?_
      refine go_cV hM rfl rfl rfl (hp_nd w1) rfl (p_setFirst ok w1 p1) rfl ?_
      refine go_pure hM rfl ?_
      have e3 : ((k + 1 : Nat) : Int) + (-1) = k := by omega
      rw [e3]
      have ok2 : aOk (sWf B (aWy B t k) (gF (aWf B (aWy B t k)) (aPl B t k * 3).toNat (gWd (aWf B (aWy B t (k + 1))) (aEn B (aWy B t (k + 1))) 0 0))) := aOk_sWf ok (gF_r r1.2.2 (ok.wd w2 0 0))
      repeat (first | exact ih (sWf B (aWy B t k) _) (by omega) ok2 (fun j hj => hw j (by omega)) (fun j hj => hp j (by omega)) he | refine go_pure hM rfl ?_ | (refine go_get (fs := ?_) (v := ?_) hM rfl ?_ ?_ ?_; rotate_left 2; assumption; rfl) | refine go_ldc hM rfl ?_)
  repeat (first | exact loop l A hl6 ok0 hw0 hp0 rfl | refine go_pure hM rfl ?_ | (refine go_get (fs := ?_) (v := ?_) hM rfl ?_ ?_ ?_; rotate_left 2; assumption; rfl) | refine go_ldc hM rfl ?_)
/-- the run found is another one -/
def srA (A : cA) (t l : Nat) (x n v w : Int) : cA := rfA (sWf A (aWy A t l) (gT3 (aWf A (aWy A t l)) (aPl A t l * 3).toNat x (if w = 1 then n else n + 32768) v)) t l
theorem c_setRun {x n v w : Int} (ok : aOk A) (ht : t < 4) (hl : aLf A t = (l : Int)) (hl6 : l < 6) (hw : ∀ k, k ≤ l → aWy A t k < 260) (hp : ∀ k, k ≤ l → 0 ≤ aPl A t k ∧ aPl A t k < aEn A (aWy A t k)) (hx : 0 ≤ x ∧ x ≤ 65536) (hn : 0 ≤ n ∧ n ≤ 32768) (hv : 0 ≤ v ∧ v ≤ 16777216) (hww : w = 0 ∨ w = 1) : Rd G m_Tree_setRun [vR (517 + 6 * t), vI x, vI n, vI v, vI w] N (hpx A h0) none N (hpx (srA A t l x n v w) h0) := by
  refine Rn.of rfl rfl rfl ?_
  have hM := ok_Tree_setRun
  have w1 := hw l (Nat.le_refl l)
  have p1 := hp l (Nat.le_refl l)
  have r1 := ok.2.2 _ w1
  have k1 := hp_tr (A := A) (h0 := h0) ht
  have k2 := hp_wy (A := A) (h0 := h0) ht
  have k3 := hp_pl (A := A) (h0 := h0) ht
  have e9 : (aLf A t).toNat = l := by omega
  repeat (first | refine go_pure hM rfl ?_ | (refine go_get (fs := ?_) (v := ?_) hM rfl ?_ ?_ ?_; rotate_left 2; assumption; rfl) | refine go_ldc hM rfl ?_)
  refine go_aaldS (r := oA (aWy A t l)) hM rfl k2 rfl (by omega) (by omega) (by omega) (by rw [e9]; exact if_pos hl6) ?_
  repeat (first | refine go_pure hM rfl ?_ | (refine go_get (fs := ?_) (v := ?_) hM rfl ?_ ?_ ?_; rotate_left 2; assumption; rfl) | refine go_ldc hM rfl ?_)
  refine go_iald hM rfl k3 (by omega) (by omega) (by omega) ?_
  rw [e9]
  repeat (first | refine go_pure hM rfl ?_ | (refine go_get (fs := ?_) (v := ?_) hM rfl ?_ ?_ ?_; rotate_left 2; assumption; rfl) | refine go_ldc hM rfl ?_)
  refine go_cS hM rfl rfl rfl (c_marked hww) rfl ?_
  repeat (first | refine go_pure hM rfl ?_ | (refine go_get (fs := ?_) (v := ?_) hM rfl ?_ ?_ ?_; rotate_left 2; assumption; rfl) | refine go_ldc hM rfl ?_)
  refine go_cV hM rfl rfl rfl (hp_nd w1) rfl (p_setEntry ok w1 p1) rfl ?_
  have ok2 : aOk (sWf A (aWy A t l) (gT3 (aWf A (aWy A t l)) (aPl A t l * 3).toNat x (if w = 1 then n else n + 32768) v)) := aOk_sWf ok (gT3_r r1.2.2 (by omega) (by split <;> omega) hv)
  have j1 := hp_tr (A := sWf A (aWy A t l) (gT3 (aWf A (aWy A t l)) (aPl A t l * 3).toNat x (if w = 1 then n else n + 32768) v)) (h0 := h0) ht
  refine go_pure hM rfl ?_
  refine go_pure hM rfl ?_
  refine go_get hM rfl j1 rfl ?_
  have e8 : aLf (sWf A (aWy A t l) (gT3 (aWf A (aWy A t l)) (aPl A t l * 3).toNat x (if w = 1 then n else n + 32768) v)) t = (l : Int) := hl
  rw [e8]
  refine go_cV hM rfl rfl rfl j1 rfl (c_refreshFirsts (A := sWf A (aWy A t l) _) ht hl6 ok2 hw (fun k hk => hp k (by omega))) rfl ?_
  exact go_vret hM rfl rfl ⟨rfl, rfl, rfl⟩
end
