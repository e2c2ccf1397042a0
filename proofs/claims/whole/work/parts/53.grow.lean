/-! Tree: a root grows, a block is split -/
/-- another way, other places, other new blocks, another leaf -/
def fH (A : cA) (t : Nat) (f : Nat → Nat) (g : Nat → Int) (q : Nat → Nat) (x : Int) : cA := (aTk A, aDp A, aEn A, aWf A, aRu A, aBl A, aMa A, aMw A, aLb A, gF (aLf A) t x, gF (aWy A) t f, gF (aPl A) t g, gF (aFs A) t q, aLe A, aM A)
section
variable {A : cA} {t : Nat} {f f' : Nat → Nat} {g g' : Nat → Int} {q q' : Nat → Nat} {x y : Int}
theorem fH_0 : fH A t (aWy A t) (aPl A t) (aFs A t) (aLf A t) = A := by
  unfold fH
  rw [gF_same, gF_same, gF_same, gF_same]
theorem fH_wy : aWy (fH A t f g q x) t = f := gF_s _ _ _
theorem fH_pl : aPl (fH A t f g q x) t = g := gF_s _ _ _
theorem fH_fs : aFs (fH A t f g q x) t = q := gF_s _ _ _
theorem fH_lf : aLf (fH A t f g q x) t = x := gF_s _ _ _
theorem sWy_fH : sWy (fH A t f g q x) t f' = fH A t f' g q x := by
  show (aTk A, aDp A, aEn A, aWf A, aRu A, aBl A, aMa A, aMw A, aLb A, gF (aLf A) t x, gF (gF (aWy A) t f) t f', gF (aPl A) t g, gF (aFs A) t q, aLe A, aM A) = _
  rw [gF_uu]
  rfl
theorem sPl_fH : sPl (fH A t f g q x) t g' = fH A t f g' q x := by
  show (aTk A, aDp A, aEn A, aWf A, aRu A, aBl A, aMa A, aMw A, aLb A, gF (aLf A) t x, gF (aWy A) t f, gF (gF (aPl A) t g) t g', gF (aFs A) t q, aLe A, aM A) = _
  rw [gF_uu]
  rfl
theorem sFs_fH : sFs (fH A t f g q x) t q' = fH A t f g q' x := by
  show (aTk A, aDp A, aEn A, aWf A, aRu A, aBl A, aMa A, aMw A, aLb A, gF (aLf A) t x, gF (aWy A) t f, gF (aPl A) t g, gF (gF (aFs A) t q) t q', aLe A, aM A) = _
  rw [gF_uu]
  rfl
theorem sLf_fH : sLf (fH A t f g q x) t y = fH A t f g q y := by
  show (aTk A, aDp A, aEn A, aWf A, gF (aRu A) t (aRu A t), gF (aBl A) t (aBl A t), gF (aMa A) t (aMa A t), gF (aMw A) t (aMw A t), gF (aLb A) t (aLb A t), gF (gF (aLf A) t x) t y, gF (aWy A) t f, gF (aPl A) t g, gF (aFs A) t q, aLe A, aM A) = _
  rw [gF_uu, gF_same, gF_same, gF_same, gF_same, gF_same]
  rfl
end
/-- what lies at 1 .. l lies one further, from k + 1 on -/
def shf {α : Type} (f : Nat → α) (k l : Nat) : Nat → α := fun j => if k + 1 < j ∧ j ≤ l + 1 then f (j - 1) else f j
theorem shf_0 {α : Type} (f : Nat → α) (l : Nat) : shf f l l = f := by
  funext j
  unfold shf
  rw [if_neg (by omega)]
theorem shf_s {α : Type} (f : Nat → α) {k l : Nat} (hk : k + 1 ≤ l) : gF (shf f (k + 1) l) (k + 2) (f (k + 1)) = shf f k l := by
  funext j
  unfold gF shf
  by_cases h1 : j = k + 2
  · rw [if_pos h1, if_pos (by omega), h1]
    rfl
  · rw [if_neg h1]
    by_cases h2 : k + 1 + 1 < j ∧ j ≤ l + 1
    · rw [if_pos h2, if_pos (by omega)]
    · rw [if_neg h2, if_neg (by omega)]
theorem shf_lo {α : Type} (f : Nat → α) {k l j : Nat} (hj : j ≤ k + 1) : shf f k l j = f j := if_neg (by omega)
def gw2 (B : cA) (t l b : Nat) : cA := fH B t (gF (shf (aWy B t) 0 l) 1 b) (gF (gF (shf (aPl B t) 0 l) 1 (aPl B t 0)) 0 0) (shf (aFs B t) 0 l) (l + 1)
section
variable {G : gG} {N : Option Nat} {A B : cA} {h0 : gH} {t l b : Nat}
/-- the tree's row with another leaf -/
theorem up_lf {x : Int} (ht : t < 4) : gU (hpx A h0) (517 + 6 * t) (.inr (2, [vR (oA (256 + t)), vI (aRu A t), vI (aBl A t), vI (aMa A t), vI (aMw A t), vI (aLb A t), vR 2, vR (520 + 6 * t), vR (521 + 6 * t), vI x, vR (522 + 6 * t)])) = hpx (sLf A t x) h0 := up_tr ht
set_option maxHeartbeats 4000000 in
theorem c_grow2 (ht : t < 4) (hl5 : l < 5) (hl : aLf B t = (l : Int)) (hw : ∀ k, k ≤ l → aWy B t k < 260) (hf : ∀ k, k ≤ l → aFs B t k < 260) (hb : b < 260) : Go G m_Tree_growRoot (gFin G (gEq none N (hpx (gw2 B t l b) h0)) gNo) 53 [some (vR (517 + 6 * t)), some (vR (oA b)), none] [] N (hpx B h0) 0 0 := by
  have hM := ok_Tree_growRoot
  have loop : ∀ (k : Nat), k ≤ l → Go G m_Tree_growRoot (gFin G (gEq none N (hpx (gw2 B t l b) h0)) gNo) 58 [some (vR (517 + 6 * t)), some (vR (oA b)), some (vI k)] [] N (hpx (fH B t (shf (aWy B t) k l) (shf (aPl B t) k l) (shf (aFs B t) k l) l) h0) 0 0 := by
    intro k
    induction k with
    | zero =>
      intro h1
      generalize hC : fH B t (shf (aWy B t) 0 l) (shf (aPl B t) 0 l) (shf (aFs B t) 0 l) l = C
      have cw : aWy C t = shf (aWy B t) 0 l := by rw [← hC]; exact fH_wy
      have cp : aPl C t = shf (aPl B t) 0 l := by rw [← hC]; exact fH_pl
      have k1 := hp_tr (A := C) (h0 := h0) ht
      have k2 := hp_wy (A := C) (h0 := h0) ht
      repeat (first | refine go_pure hM rfl ?_ | (refine go_get (fs := ?_) (v := ?_) hM rfl ?_ ?_ ?_; rotate_left 2; assumption; rfl) | refine go_ldc hM rfl ?_)
      refine go_if_le hM rfl (by omega) (fun hc => ?_) (fun hc => absurd hc (by omega))
      repeat (first | refine go_pure hM rfl ?_ | (refine go_get (fs := ?_) (v := ?_) hM rfl ?_ ?_ ?_; rotate_left 2; assumption; rfl) | refine go_ldc hM rfl ?_)
      refine go_aast hM rfl k2 rfl (hp_nd hb) rfl (by omega) (by omega) (by omega) ?_
      have e1 : ((1 : Int)).toNat = 1 := rfl
      rw [e1, eRf_set (by omega), up_wy ht]
      generalize hC1 : sWy C t (gF (aWy C t) 1 b) = C1
      have e2 : C1 = fH B t (gF (shf (aWy B t) 0 l) 1 b) (shf (aPl B t) 0 l) (shf (aFs B t) 0 l) l := by rw [← hC1, cw, ← hC, sWy_fH]
      have cp1 : aPl C1 t = shf (aPl B t) 0 l := by rw [e2]; exact fH_pl
      have j1 := hp_tr (A := C1) (h0 := h0) ht
      have j3 := hp_pl (A := C1) (h0 := h0) ht
      repeat (first | refine go_pure hM rfl ?_ | (refine go_get (fs := ?_) (v := ?_) hM rfl ?_ ?_ ?_; rotate_left 2; assumption; rfl) | refine go_ldc hM rfl ?_)
      refine go_iald hM rfl j3 (by omega) (by omega) (by omega) ?_
      refine go_iast hM rfl j3 (by omega) (by omega) (by omega) ?_
      have e3 : ((0 : Int)).toNat = 0 := rfl
      rw [e1, e3, up_pl ht]
      generalize hC2 : sPl C1 t (gF (aPl C1 t) 1 (aPl C1 t 0)) = C2
      have e4 : C2 = fH B t (gF (shf (aWy B t) 0 l) 1 b) (gF (shf (aPl B t) 0 l) 1 (aPl B t 0)) (shf (aFs B t) 0 l) l := by rw [← hC2, cp1, e2, sPl_fH]; rfl
      have cp2 : aPl C2 t = gF (shf (aPl B t) 0 l) 1 (aPl B t 0) := by rw [e4]; exact fH_pl
      have i1 := hp_tr (A := C2) (h0 := h0) ht
      have i3 := hp_pl (A := C2) (h0 := h0) ht
      repeat (first | refine go_pure hM rfl ?_ | (refine go_get (fs := ?_) (v := ?_) hM rfl ?_ ?_ ?_; rotate_left 2; assumption; rfl) | refine go_ldc hM rfl ?_)
      refine go_iast hM rfl i3 (by omega) (by omega) (by omega) ?_
      rw [e3, up_pl ht]
      generalize hC3 : sPl C2 t (gF (aPl C2 t) 0 0) = C3
      have e5 : C3 = fH B t (gF (shf (aWy B t) 0 l) 1 b) (gF (gF (shf (aPl B t) 0 l) 1 (aPl B t 0)) 0 0) (shf (aFs B t) 0 l) l := by rw [← hC3, cp2, e4, sPl_fH]
      have cl3 : aLf C3 t = (l : Int) := by rw [e5]; exact fH_lf
      have m1 := hp_tr (A := C3) (h0 := h0) ht
      repeat (first | refine go_pure hM rfl ?_ | (refine go_get (fs := ?_) (v := ?_) hM rfl ?_ ?_ ?_; rotate_left 2; assumption; rfl) | refine go_ldc hM rfl ?_)
      refine go_put hM rfl m1 rfl rfl ?_
      rw [up_lf ht, cl3]
      refine go_vret hM rfl rfl ⟨rfl, rfl, ?_⟩
      rw [e5, sLf_fH]
      rfl
    | succ k ih =>
      intro h1
      generalize hC : fH B t (shf (aWy B t) (k + 1) l) (shf (aPl B t) (k + 1) l) (shf (aFs B t) (k + 1) l) l = C
      have cw : aWy C t = shf (aWy B t) (k + 1) l := by rw [← hC]; exact fH_wy
      have w1 := hw (k + 1) h1
      have f1 := hf (k + 1) h1
      have k1 := hp_tr (A := C) (h0 := h0) ht
      have k2 := hp_wy (A := C) (h0 := h0) ht
      have e1 : ((k + 1 : Nat) : Int).toNat = k + 1 := by omega
      have e2 : (((k + 1 : Nat) : Int) + 1).toNat = k + 2 := by omega
      repeat (first | refine go_pure hM rfl ?_ | (refine go_get (fs := ?_) (v := ?_) hM rfl ?_ ?_ ?_; rotate_left 2; assumption; rfl) | refine go_ldc hM rfl ?_)
      refine go_if_le hM rfl (by omega) (fun hc => absurd hc (by omega)) (fun hc => ?_)
      repeat (first | refine go_pure hM rfl ?_ | (refine go_get (fs := ?_) (v := ?_) hM rfl ?_ ?_ ?_; rotate_left 2; assumption; rfl) | refine go_ldc hM rfl ?_)
      refine go_aaldS (r := oA (aWy B t (k + 1))) hM rfl k2 rfl (by omega) (by omega) (by omega) (by rw [e1, cw]; show (if k + 1 < 6 then some (oA (shf (aWy B t) (k + 1) l (k + 1))) else none) = _; rw [if_pos (by omega), shf_lo _ (by omega)]) ?_
      refine go_aast hM rfl k2 rfl (hp_nd w1) rfl (by omega) (by omega) (by omega) ?_
      rw [e2, eRf_set (by omega), up_wy ht]
      generalize hC1 : sWy C t (gF (aWy C t) (k + 2) (aWy B t (k + 1))) = C1
      have e3 : C1 = fH B t (shf (aWy B t) k l) (shf (aPl B t) (k + 1) l) (shf (aFs B t) (k + 1) l) l := by rw [← hC1, cw, shf_s _ h1, ← hC, sWy_fH]
      have cp1 : aPl C1 t = shf (aPl B t) (k + 1) l := by rw [e3]; exact fH_pl
      have j1 := hp_tr (A := C1) (h0 := h0) ht
      have j3 := hp_pl (A := C1) (h0 := h0) ht
      repeat (first | refine go_pure hM rfl ?_ | (refine go_get (fs := ?_) (v := ?_) hM rfl ?_ ?_ ?_; rotate_left 2; assumption; rfl) | refine go_ldc hM rfl ?_)
      refine go_iald hM rfl j3 (by omega) (by omega) (by omega) ?_
      refine go_iast hM rfl j3 (by omega) (by omega) (by omega) ?_
      rw [e1, e2, up_pl ht]
      generalize hC2 : sPl C1 t (gF (aPl C1 t) (k + 2) (aPl C1 t (k + 1))) = C2
      have e4 : C2 = fH B t (shf (aWy B t) k l) (shf (aPl B t) k l) (shf (aFs B t) (k + 1) l) l := by rw [← hC2, cp1, shf_lo _ (by omega), shf_s _ h1, e3, sPl_fH]
      have cf2 : aFs C2 t = shf (aFs B t) (k + 1) l := by rw [e4]; exact fH_fs
      have i1 := hp_tr (A := C2) (h0 := h0) ht
      have i3 := hp_fs (A := C2) (h0 := h0) ht
      repeat (first | refine go_pure hM rfl ?_ | (refine go_get (fs := ?_) (v := ?_) hM rfl ?_ ?_ ?_; rotate_left 2; assumption; rfl) | refine go_ldc hM rfl ?_)
      refine go_aaldS (r := oA (aFs B t (k + 1))) hM rfl i3 rfl (by omega) (by omega) (by omega) (by rw [e1, cf2]; show (if k + 1 < 6 then some (oA (shf (aFs B t) (k + 1) l (k + 1))) else none) = _; rw [if_pos (by omega), shf_lo _ (by omega)]) ?_
      refine go_aast hM rfl i3 rfl (hp_nd f1) rfl (by omega) (by omega) (by omega) ?_
      rw [e2, eRf_set (by omega), up_fs ht]
      have e5 : sFs C2 t (gF (aFs C2 t) (k + 2) (aFs B t (k + 1))) = fH B t (shf (aWy B t) k l) (shf (aPl B t) k l) (shf (aFs B t) k l) l := by rw [cf2, shf_s _ h1, e4, sFs_fH]
      rw [e5]
      refine go_pure hM rfl ?_
      have e6 : ((k + 1 : Nat) : Int) + (-1) = k := by omega
      rw [e6]
      repeat (first | exact ih (by omega) | refine go_pure hM rfl ?_ | (refine go_get (fs := ?_) (v := ?_) hM rfl ?_ ?_ ?_; rotate_left 2; assumption; rfl) | refine go_ldc hM rfl ?_)
  have l0 := loop l (Nat.le_refl l)
  rw [shf_0, shf_0, shf_0, ← hl, fH_0] at l0
  have k1 := hp_tr (A := B) (h0 := h0) ht
  repeat (first | exact l0 | refine go_pure hM rfl ?_ | (refine go_get (fs := ?_) (v := ?_) hM rfl ?_ ?_ ?_; rotate_left 2; assumption; rfl) | refine go_ldc hM rfl ?_)
/-- the root's row goes into the new block, the root has one entry -/
def gwB (A : cA) (t b : Nat) : cA := cbA (mvA A (256 + t) 0 b) t b 1
def gwC (A : cA) (t b : Nat) : cA := sNd (gwB A t b) (256 + t) (aTk (gwB A t b) (256 + t)) (aDp (gwB A t b) b + 1) (aEn (gwB A t b) (256 + t))
def gw1 (A : cA) (t b : Nat) : cA := insA (gwC A t b) (256 + t) 0 (gWd (aWf (gwC A t b) b) (aEn (gwC A t b) b) 0 0) (nNo b) 0
theorem mv_en {p : Int} {i j : Nat} : aEn (mvA A i p j) i = p := gF_s _ _ _
theorem mv_dpj {p : Int} {i j : Nat} (h : j ≠ i) : aDp (mvA A i p j) j = aDp A i := by
  show gF (gF (aDp A) j (aDp A i)) i (aDp A i) j = _
  rw [gF_n h, gF_s]
theorem nNo_r {i : Nat} (h : i < 260) : 0 ≤ nNo i ∧ nNo i ≤ 255 := by
  unfold nNo
  split <;> omega
set_option maxHeartbeats 4000000 in
theorem c_growRoot (ok : aOk A) (ht : t < 4) (hl5 : l < 5) (hl : aLf A t = (l : Int)) (hw : ∀ k, k ≤ l → aWy A t k < 260) (hf : ∀ k, k ≤ l → aFs A t k < 260) (hb : aFs A t 0 = b) (hb2 : b < 256) (hd : aDp A (256 + t) ≤ 4) : Rd G m_Tree_growRoot [vR (517 + 6 * t)] N (hpx A h0) none none (hpx (gw2 (gw1 A t b) t l b) h0) := by
  refine Rn.of rfl rfl rfl ?_
  have hM := ok_Tree_growRoot
  have k1 := hp_tr (A := A) (h0 := h0) ht
  have k2 := hp_fs (A := A) (h0 := h0) ht
  have hr : 256 + t < 260 := by omega
  have hne : 256 + t ≠ b := by omega
  have e4 : aRm A (256 + t) = 4 := if_neg (by omega)
  have r1 := ok.2.2 _ hr
  have r2 := ok.rm b
  have r3 := nNo_r (i := b) (by omega)
  have okM : aOk (mvA A (256 + t) 0 b) := aOk_mv ok hr (by omega) (by omega) (by omega)
  have okB : aOk (gwB A t b) := okM
  have enB : aEn (gwB A t b) (256 + t) = 0 := mv_en
  have dpB : aDp (gwB A t b) b = aDp A (256 + t) := mv_dpj (Ne.symm hne)
  have rmB : aRm (gwB A t b) (256 + t) = 4 := e4
  have okC : aOk (gwC A t b) := aOk_sNd okB (by rw [dpB]; omega) (by rw [enB, rmB]; omega)
  have enC : aEn (gwC A t b) (256 + t) = 0 := by
    show gF (aEn (gwB A t b)) (256 + t) (aEn (gwB A t b) (256 + t)) (256 + t) = 0
    rw [gF_s, enB]
  have rmC : aRm (gwC A t b) (256 + t) = 4 := e4
  repeat (first | refine go_pure hM rfl ?_ | (refine go_get (fs := ?_) (v := ?_) hM rfl ?_ ?_ ?_; rotate_left 2; assumption; rfl) | refine go_ldc hM rfl ?_)
  refine go_aaldS (r := oA b) hM rfl k2 rfl (by omega) (by omega) (by omega) (by rw [← hb]; exact if_pos (by decide)) ?_
  repeat (first | refine go_pure hM rfl ?_ | (refine go_get (fs := ?_) (v := ?_) hM rfl ?_ ?_ ?_; rotate_left 2; assumption; rfl) | refine go_ldc hM rfl ?_)
  refine go_cV hM rfl rfl rfl (hp_nd hr) rfl (p_moveTail ok hr (by omega : b < 260) hne (by omega) (by omega)) rfl ?_
  repeat (first | refine go_pure hM rfl ?_ | (refine go_get (fs := ?_) (v := ?_) hM rfl ?_ ?_ ?_; rotate_left 2; assumption; rfl) | refine go_ldc hM rfl ?_)
  refine go_cV hM rfl rfl rfl (hp_tr ht) rfl (c_countBlock (A := mvA A (256 + t) 0 b) (i := b) okM ht (by omega)) rfl ?_
  have j1 : hpx (sTr (mvA A (256 + t) 0 b) t (aRu (mvA A (256 + t) 0 b) t) (aBl (mvA A (256 + t) 0 b) t + 1) (aMa (mvA A (256 + t) 0 b) t) (aMw (mvA A (256 + t) 0 b) t) (if aDp (mvA A (256 + t) 0 b) b = 0 then aLb (mvA A (256 + t) 0 b) t + 1 else aLb (mvA A (256 + t) 0 b) t) (aLf (mvA A (256 + t) 0 b) t)) h0 = hpx (gwB A t b) h0 := rfl
  rw [j1]
  have i1 := hp_tr (A := gwB A t b) (h0 := h0) ht
  have i2 := hp_nd (A := gwB A t b) (h0 := h0) (i := b) (by omega)
  have i3 := hp_nd (A := gwB A t b) (h0 := h0) hr
  repeat (first | refine go_pure hM rfl ?_ | (refine go_get (fs := ?_) (v := ?_) hM rfl ?_ ?_ ?_; rotate_left 2; assumption; rfl) | refine go_ldc hM rfl ?_)
  refine go_put hM rfl i3 rfl rfl ?_
  rw [up_nd hr]
  have j2 : hpx (sNd (gwB A t b) (256 + t) (aTk (gwB A t b) (256 + t)) (aDp (gwB A t b) b + 1) (aEn (gwB A t b) (256 + t))) h0 = hpx (gwC A t b) h0 := rfl
  rw [j2]
  have m1 := hp_tr (A := gwC A t b) (h0 := h0) ht
  have m2 := hp_nd (A := gwC A t b) (h0 := h0) (i := b) (by omega)
  have m3 := hp_nd (A := gwC A t b) (h0 := h0) hr
  repeat (first | refine go_pure hM rfl ?_ | (refine go_get (fs := ?_) (v := ?_) hM rfl ?_ ?_ ?_; rotate_left 2; assumption; rfl) | refine go_ldc hM rfl ?_)
  refine go_cV hM rfl rfl rfl m2 rfl (p_firstAt okC (by omega) (by omega)) rfl ?_
  repeat (first | refine go_pure hM rfl ?_ | (refine go_get (fs := ?_) (v := ?_) hM rfl ?_ ?_ ?_; rotate_left 2; assumption; rfl) | refine go_ldc hM rfl ?_)
  refine go_cV hM rfl rfl rfl m3 rfl (p_insert okC hr (by omega) (by rw [enC, rmC]; omega)) rfl ?_
  exact c_grow2 (B := gw1 A t b) ht hl5 ((gF_s (aLf A) t (aLf A t)).trans hl) hw hf (by omega)
/-- a block is split -/
def spB (A : cA) (t k : Nat) : cA := cbA (mvA A (aWy A t k) (((aRm A (aWy A t k) : Int) + 1) / 2) (aFs A t k)) t (aFs A t k) 1
def spC (A : cA) (t k : Nat) : cA := insA (spB A t k) (aWy A t (k - 1)) (aPl A t (k - 1) + 1) (gWd (aWf (spB A t k) (aFs A t k)) (aEn (spB A t k) (aFs A t k)) 0 0) (nNo (aFs A t k)) 0
def spA (A : cA) (t k : Nat) : cA := if ((aRm A (aWy A t k) : Int) + 1) / 2 < aPl A t k + 1 then fH (spC A t k) t (gF (aWy A t) k (aFs A t k)) (gF (gF (aPl A t) k (aPl A t k - ((aRm A (aWy A t k) : Int) + 1) / 2)) (k - 1) (aPl A t (k - 1) + 1)) (aFs A t) (aLf A t) else spC A t k
set_option maxHeartbeats 4000000 in
theorem c_splitBlock {k o b q : Nat} (ok : aOk A) (ht : t < 4) (hk : 1 ≤ k ∧ k < 6) (ho : aWy A t k = o) (ho2 : o < 256) (hb : aFs A t k = b) (hb2 : b < 256) (hob : o ≠ b) (hq : aWy A t (k - 1) = q) (hq2 : q < 260) (hqo : q ≠ o) (hqb : q ≠ b) (hfull : aEn A o = aRm A o) (hroom : aEn A q < aRm A q) (hpk : -1 ≤ aPl A t k ∧ aPl A t k < aRm A o) (hpq : 0 ≤ aPl A t (k - 1) ∧ aPl A t (k - 1) < aEn A q) : Rd G m_Tree_splitBlock [vR (517 + 6 * t), vI k] N (hpx A h0) none none (hpx (spA A t k) h0) := by
  refine Rn.of rfl rfl rfl ?_
  have hM := ok_Tree_splitBlock
  have k1 := hp_tr (A := A) (h0 := h0) ht
  have k2 := hp_wy (A := A) (h0 := h0) ht
  have k3 := hp_fs (A := A) (h0 := h0) ht
  have k4 := hp_nd (A := A) (h0 := h0) (i := o) (by omega)
  have e1 : (k : Int).toNat = k := by omega
  have e0 : ((k : Int) - 1).toNat = k - 1 := by omega
  have r1 := ok.2.2 o (by omega)
  have r2 := ok.rm o
  have r5 := ok.rm b
  have r6 := ok.rm q
  have r7 := ok.2.2 q hq2
  have r3 := nNo_r (i := b) (by omega)
  have rob : aRm A o = aRm A b := by
    unfold aRm
    rw [if_pos ho2, if_pos hb2]
  obtain ⟨hf, hhf⟩ : ∃ hf : Int, ((aRm A o : Int) + 1) / 2 = hf := ⟨_, rfl⟩
  have okM : aOk (mvA A o hf b) := aOk_mv ok (by omega) (by omega) (by omega) (by omega)
  have hB : spB A t k = cbA (mvA A o hf b) t b 1 := by
    unfold spB
    rw [ho, hb, hhf]
  have okB : aOk (spB A t k) := by
    rw [hB]
    exact okM
  have enq : aEn (spB A t k) q = aEn A q := by
    rw [hB]
    show gF (gF (aEn A) b (aEn A o - hf)) o hf q = _
    rw [gF_n hqo, gF_n hqb]
  have rmq : aRm (spB A t k) q = aRm A q := by
    rw [hB]
    rfl
  repeat (first | refine go_pure hM rfl ?_ | (refine go_get (fs := ?_) (v := ?_) hM rfl ?_ ?_ ?_; rotate_left 2; assumption; rfl) | refine go_ldc hM rfl ?_)
  refine go_aaldS (r := oA o) hM rfl k2 rfl (by omega) (by omega) (by omega) (by rw [e1, ho]; exact if_pos (by omega)) ?_
  repeat (first | refine go_pure hM rfl ?_ | (refine go_get (fs := ?_) (v := ?_) hM rfl ?_ ?_ ?_; rotate_left 2; assumption; rfl) | refine go_ldc hM rfl ?_)
  refine go_aaldS (r := oA b) hM rfl k3 rfl (by omega) (by omega) (by omega) (by rw [e1, hb]; exact if_pos (by omega)) ?_
  repeat (first | refine go_pure hM rfl ?_ | (refine go_get (fs := ?_) (v := ?_) hM rfl ?_ ?_ ?_; rotate_left 2; assumption; rfl) | refine go_ldc hM rfl ?_)
  refine go_idiv hM rfl (by omega) (by omega) ?_
  rw [hhf]
  repeat (first | refine go_pure hM rfl ?_ | (refine go_get (fs := ?_) (v := ?_) hM rfl ?_ ?_ ?_; rotate_left 2; assumption; rfl) | refine go_ldc hM rfl ?_)
  refine go_cV hM rfl rfl rfl k4 rfl (p_moveTail ok (by omega : o < 260) (by omega : b < 260) hob (by omega) (by omega)) rfl ?_
  repeat (first | refine go_pure hM rfl ?_ | (refine go_get (fs := ?_) (v := ?_) hM rfl ?_ ?_ ?_; rotate_left 2; assumption; rfl) | refine go_ldc hM rfl ?_)
  refine go_cV hM rfl rfl rfl (hp_tr ht) rfl (c_countBlock (A := mvA A o hf b) (i := b) okM ht (by omega)) rfl ?_
  have j1 : hpx (sTr (mvA A o hf b) t (aRu (mvA A o hf b) t) (aBl (mvA A o hf b) t + 1) (aMa (mvA A o hf b) t) (aMw (mvA A o hf b) t) (if aDp (mvA A o hf b) b = 0 then aLb (mvA A o hf b) t + 1 else aLb (mvA A o hf b) t) (aLf (mvA A o hf b) t)) h0 = hpx (spB A t k) h0 := by rw [hB]; rfl
  rw [j1]
  have wB : aWy (spB A t k) t = aWy A t := by rw [hB]; rfl
  have pB : aPl (spB A t k) t = aPl A t := by rw [hB]; rfl
  have i1 := hp_tr (A := spB A t k) (h0 := h0) ht
  have i2 := hp_wy (A := spB A t k) (h0 := h0) ht
  have i3 := hp_pl (A := spB A t k) (h0 := h0) ht
  have i4 := hp_nd (A := spB A t k) (h0 := h0) (i := b) (by omega)
  have i5 := hp_nd (A := spB A t k) (h0 := h0) hq2
  rw [wB] at i2
  rw [pB] at i3
  repeat (first | refine go_pure hM rfl ?_ | (refine go_get (fs := ?_) (v := ?_) hM rfl ?_ ?_ ?_; rotate_left 2; assumption; rfl) | refine go_ldc hM rfl ?_)
  refine go_aaldS (r := oA q) hM rfl i2 rfl (by omega) (by omega) (by omega) (by rw [e0, hq]; exact if_pos (by omega)) ?_
  repeat (first | refine go_pure hM rfl ?_ | (refine go_get (fs := ?_) (v := ?_) hM rfl ?_ ?_ ?_; rotate_left 2; assumption; rfl) | refine go_ldc hM rfl ?_)
  refine go_iald hM rfl i3 (by omega) (by omega) (by omega) ?_
  rw [e0]
  repeat (first | refine go_pure hM rfl ?_ | (refine go_get (fs := ?_) (v := ?_) hM rfl ?_ ?_ ?_; rotate_left 2; assumption; rfl) | refine go_ldc hM rfl ?_)
  refine go_cV hM rfl rfl rfl i4 rfl (p_firstAt okB (by omega) (by omega)) rfl ?_
  repeat (first | refine go_pure hM rfl ?_ | (refine go_get (fs := ?_) (v := ?_) hM rfl ?_ ?_ ?_; rotate_left 2; assumption; rfl) | refine go_ldc hM rfl ?_)
  refine go_cV hM rfl rfl rfl i5 rfl (p_insert okB hq2 (by rw [enq]; omega) (by rw [enq, rmq]; exact hroom)) rfl ?_
  have hC : spC A t k = insA (spB A t k) q (aPl A t (k - 1) + 1) (gWd (aWf (spB A t k) b) (aEn (spB A t k) b) 0 0) (nNo b) 0 := by
    unfold spC
    rw [hq, hb]
  have j2 : hpx (sNd (sWf (spB A t k) q (gIns (aWf (spB A t k) q) (aEn (spB A t k) q) (aPl A t (k - 1) + 1) (gWd (aWf (spB A t k) b) (aEn (spB A t k) b) 0 0) (nNo b) 0)) q (aTk (spB A t k) q) (aDp (spB A t k) q) (aEn (spB A t k) q + 1)) h0 = hpx (spC A t k) h0 := by rw [hC]; rfl
  rw [j2]
  have wC : aWy (spC A t k) t = aWy A t := by rw [hC]; exact wB
  have pC : aPl (spC A t k) t = aPl A t := by rw [hC]; exact pB
  have fC : aFs (spC A t k) t = aFs A t := by rw [hC, hB]; rfl
  have lC : aLf (spC A t k) t = aLf A t := by rw [hC, hB]; exact gF_s _ _ _
  have m1 := hp_tr (A := spC A t k) (h0 := h0) ht
  have m2 := hp_wy (A := spC A t k) (h0 := h0) ht
  have m3 := hp_pl (A := spC A t k) (h0 := h0) ht
  repeat (first | refine go_pure hM rfl ?_ | (refine go_get (fs := ?_) (v := ?_) hM rfl ?_ ?_ ?_; rotate_left 2; assumption; rfl) | refine go_ldc hM rfl ?_)
  refine go_iald hM rfl m3 (by omega) (by omega) (by omega) ?_
  rw [e1, pC]
  repeat (first | refine go_pure hM rfl ?_ | (refine go_get (fs := ?_) (v := ?_) hM rfl ?_ ?_ ?_; rotate_left 2; assumption; rfl) | refine go_ldc hM rfl ?_)
  have spE : spA A t k = if hf < aPl A t k + 1 then fH (spC A t k) t (gF (aWy A t) k b) (gF (gF (aPl A t) k (aPl A t k - hf)) (k - 1) (aPl A t (k - 1) + 1)) (aFs A t) (aLf A t) else spC A t k := by
    unfold spA
    rw [ho, hb, hhf]
  refine go_icmp_le hM rfl (by omega) (by omega) (fun hc => ?_) (fun hc => ?_)
  · rw [if_neg (by omega)] at spE
    exact go_vret hM rfl rfl ⟨rfl, rfl, by rw [spE]⟩
  · rw [if_pos (by omega)] at spE
    have hD : spC A t k = fH (spC A t k) t (aWy A t) (aPl A t) (aFs A t) (aLf A t) := by
      rw [← wC, ← pC, ← fC, ← lC, fH_0]
    repeat (first | refine go_pure hM rfl ?_ | (refine go_get (fs := ?_) (v := ?_) hM rfl ?_ ?_ ?_; rotate_left 2; assumption; rfl) | refine go_ldc hM rfl ?_)
    refine go_aast (i := (k : Int)) hM rfl m2 rfl (hp_nd (i := b) (by omega)) rfl (by omega) (by omega) (by omega) ?_
    rw [e1, eRf_set (by omega), up_wy ht]
    generalize hC1 : sWy (spC A t k) t (gF (aWy (spC A t k) t) k b) = C1
    have e3 : C1 = fH (spC A t k) t (gF (aWy A t) k b) (aPl A t) (aFs A t) (aLf A t) := by
      rw [← hC1, wC]
      conv => lhs; rw [hD]
      rw [sWy_fH]
    have cp1 : aPl C1 t = aPl A t := by rw [e3]; exact fH_pl
    have n1 := hp_tr (A := C1) (h0 := h0) ht
    have n3 := hp_pl (A := C1) (h0 := h0) ht
    repeat (first | refine go_pure hM rfl ?_ | (refine go_get (fs := ?_) (v := ?_) hM rfl ?_ ?_ ?_; rotate_left 2; assumption; rfl) | refine go_ldc hM rfl ?_)
    refine go_dup2 hM rfl ?_
    refine go_iald hM rfl n3 (by omega) (by omega) (by omega) ?_
    repeat (first | refine go_pure hM rfl ?_ | (refine go_get (fs := ?_) (v := ?_) hM rfl ?_ ?_ ?_; rotate_left 2; assumption; rfl) | refine go_ldc hM rfl ?_)
    refine go_iast hM rfl n3 (by omega) (by omega) (by omega) ?_
    rw [e1, up_pl ht]
    generalize hC2 : sPl C1 t (gF (aPl C1 t) k (aPl C1 t k - hf)) = C2
    have e4 : C2 = fH (spC A t k) t (gF (aWy A t) k b) (gF (aPl A t) k (aPl A t k - hf)) (aFs A t) (aLf A t) := by rw [← hC2, cp1, e3, sPl_fH]
    have cp2 : aPl C2 t = gF (aPl A t) k (aPl A t k - hf) := by rw [e4]; exact fH_pl
    have o1 := hp_tr (A := C2) (h0 := h0) ht
    have o3 := hp_pl (A := C2) (h0 := h0) ht
    repeat (first | refine go_pure hM rfl ?_ | (refine go_get (fs := ?_) (v := ?_) hM rfl ?_ ?_ ?_; rotate_left 2; assumption; rfl) | refine go_ldc hM rfl ?_)
    refine go_dup2 hM rfl ?_
    refine go_iald hM rfl o3 (by omega) (by omega) (by omega) ?_
    repeat (first | refine go_pure hM rfl ?_ | (refine go_get (fs := ?_) (v := ?_) hM rfl ?_ ?_ ?_; rotate_left 2; assumption; rfl) | refine go_ldc hM rfl ?_)
    refine go_iast hM rfl o3 (by omega) (by omega) (by omega) ?_
    rw [e0, up_pl ht]
    refine go_vret hM rfl rfl ⟨rfl, rfl, ?_⟩
    rw [spE, cp2, e4, sPl_fH, gF_n (by omega)]
end
