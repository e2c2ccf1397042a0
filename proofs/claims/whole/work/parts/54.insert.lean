/-! Tree.insertRun -/
def leastFree (A : cA) (b : Nat) : Prop := (1 ≤ b ∧ b < 256) ∧ aTk A b = 0 ∧ ∀ j, 1 ≤ j → j < b → aTk A j = 1
/-- a block is taken for a level -/
def tk1 (A : cA) (t k b : Nat) : cA := sFs (sLe (sNd A b 1 (aDp A b) (aEn A b)) (aLe A - 1)) t (gF (aFs A t) k b)
/-- .. for n levels, from l up -/
def tkS (A : cA) (t : Nat) (bs : Nat → Nat) (l : Nat) : Nat → cA
  | 0 => A
  | n + 1 => tk1 (tkS A t bs l n) t (l - n) (bs (l - n))
/-- n blocks are split, from level k down -/
def spS (A : cA) (t k : Nat) : Nat → cA
  | 0 => A
  | n + 1 => spA (spS A t k n) t (k + n)
def SplitOk (A : cA) (t k : Nat) : Prop := aOk A ∧ (1 ≤ k ∧ k < 6) ∧ aWy A t k < 256 ∧ aFs A t k < 256 ∧ aWy A t k ≠ aFs A t k ∧ aWy A t (k - 1) < 260 ∧ aWy A t (k - 1) ≠ aWy A t k ∧ aWy A t (k - 1) ≠ aFs A t k ∧ aEn A (aWy A t k) = aRm A (aWy A t k) ∧ aEn A (aWy A t (k - 1)) < aRm A (aWy A t (k - 1)) ∧ (-1 ≤ aPl A t k ∧ aPl A t k < aRm A (aWy A t k)) ∧ (0 ≤ aPl A t (k - 1) ∧ aPl A t (k - 1) < aEn A (aWy A t (k - 1)))
/-- the new entry, and what is told above it -/
def irI (A : cA) (t l : Nat) (x n v w : Int) : cA := insA A (aWy A t l) (aPl A t l + 1) x (if w = 1 then n else n + 32768) v
def irF (A : cA) (t l : Nat) (x n v w : Int) : cA := sTr (rfA (irI A t l x n v w) t l) t (aRu A t + 1) (aBl A t) (aMa A t) (aMw A t) (aLb A t) (aLf A t)
def LeafOk (A : cA) (t l : Nat) : Prop := aOk A ∧ l < 6 ∧ aLf A t = (l : Int) ∧ (∀ k, k ≤ l → aWy A t k < 260) ∧ (∀ k, k < l → 0 ≤ aPl A t k ∧ aPl A t k < aEn A (aWy A t k) ∧ aWy A t k ≠ aWy A t l) ∧ aEn A (aWy A t l) < aRm A (aWy A t l) ∧ (-1 ≤ aPl A t l ∧ aPl A t l < aEn A (aWy A t l))
theorem rf_ru {t : Nat} : ∀ (k : Nat) (A : cA), aRu (rfA A t k) = aRu A ∧ aBl (rfA A t k) = aBl A ∧ aMa (rfA A t k) = aMa A ∧ aMw (rfA A t k) = aMw A ∧ aLb (rfA A t k) = aLb A ∧ aLf (rfA A t k) = aLf A ∧ aWy (rfA A t k) = aWy A ∧ aPl (rfA A t k) = aPl A ∧ aFs (rfA A t k) = aFs A ∧ aEn (rfA A t k) = aEn A ∧ aDp (rfA A t k) = aDp A ∧ aTk (rfA A t k) = aTk A ∧ aLe (rfA A t k) = aLe A ∧ aM (rfA A t k) = aM A := by
  intro k
  induction k with
  | zero => intro A; exact ⟨rfl, rfl, rfl, rfl, rfl, rfl, rfl, rfl, rfl, rfl, rfl, rfl, rfl, rfl⟩
  | succ k ih => intro A; exact ih _
section
variable {G : gG} {N : Option Nat} {A B : cA} {h0 : gH} {t l : Nat} {x n v w : Int}
theorem sp_lf {k : Nat} : aLf (spA A t k) t = aLf A t := by
  have h1 : aLf (spC A t k) t = aLf A t := gF_s _ _ _
  unfold spA
  split
  · exact fH_lf
  · exact h1
theorem sps_lf {k : Nat} : ∀ m, aLf (spS A t k m) t = aLf A t := by
  intro m
  induction m with
  | zero => rfl
  | succ m ih => exact sp_lf.trans ih
set_option maxHeartbeats 4000000 in
/-- the splits, the entry, the firsts, one run more -/
theorem c_ins_tail {r : Nat} (ht : t < 4) (hr : r ≤ l) (hl6 : l < 6) (hl : aLf B t = (l : Int)) (hs : ∀ m, m < l - r → SplitOk (spS B t (r + 1) m) t (r + 1 + m)) (hf : LeafOk (spS B t (r + 1) (l - r)) t l) (hx : 0 ≤ x ∧ x ≤ 65536) (hn : 0 ≤ n ∧ n ≤ 32768) (hv : 0 ≤ v ∧ v ≤ 16777216) (hw : w = 0 ∨ w = 1) (y : Option gV) : Go G m_Tree_insertRun (gFin G (gEq none none (hpx (irF (spS B t (r + 1) (l - r)) t l x n v w) h0)) gNo) 68 [some (vR (517 + 6 * t)), some (vI x), some (vI n), some (vI v), some (vI w), some (vI r), y] [] none (hpx B h0) 0 0 := by
  have hM := ok_Tree_insertRun
  generalize hZ : irF (spS B t (r + 1) (l - r)) t l x n v w = Z
  have loop : ∀ (q m : Nat), q + m = l - r → Go G m_Tree_insertRun (gFin G (gEq none none (hpx Z h0)) gNo) 74 [some (vR (517 + 6 * t)), some (vI x), some (vI n), some (vI v), some (vI w), some (vI r), some (vI ((r + 1 + m : Nat) : Int))] [] none (hpx (spS B t (r + 1) m) h0) 0 0 := by
    intro q
    induction q with
    | zero =>
      intro m hm
      have hm : m = l - r := by omega
      subst hm
      generalize spS B t (r + 1) (l - r) = C at hf hZ
      obtain ⟨ok, -, hlf, hwy, hpl, hro, hp⟩ := hf
      have w1 := hwy l (Nat.le_refl l)
      have k1 := hp_tr (A := C) (h0 := h0) ht
      have k2 := hp_wy (A := C) (h0 := h0) ht
      have k3 := hp_pl (A := C) (h0 := h0) ht
      have k4 := hp_nd (A := C) (h0 := h0) w1
      have e9 : (aLf C t).toNat = l := by omega
      repeat (first | refine go_pure hM rfl ?_ | (refine go_get (fs := ?_) (v := ?_) hM rfl ?_ ?_ ?_; rotate_left 2; assumption; rfl) | refine go_ldc hM rfl ?_)
      refine go_icmp_gt hM rfl (by omega) (by omega) (fun hc => ?_) (fun hc => absurd hc (by omega))
      repeat (first | refine go_pure hM rfl ?_ | (refine go_get (fs := ?_) (v := ?_) hM rfl ?_ ?_ ?_; rotate_left 2; assumption; rfl) | refine go_ldc hM rfl ?_)
      refine go_aaldS (r := oA (aWy C t l)) hM rfl k2 rfl (by omega) (by omega) (by omega) (by rw [e9]; exact if_pos hl6) ?_
      repeat (first | refine go_pure hM rfl ?_ | (refine go_get (fs := ?_) (v := ?_) hM rfl ?_ ?_ ?_; rotate_left 2; assumption; rfl) | refine go_ldc hM rfl ?_)
      refine go_iald hM rfl k3 (by omega) (by omega) (by omega) ?_
      rw [e9]
      repeat (first | refine go_pure hM rfl ?_ | (refine go_get (fs := ?_) (v := ?_) hM rfl ?_ ?_ ?_; rotate_left 2; assumption; rfl) | refine go_ldc hM rfl ?_)
      refine go_cS hM rfl rfl rfl (c_marked hw) rfl ?_
      repeat (first | refine go_pure hM rfl ?_ | (refine go_get (fs := ?_) (v := ?_) hM rfl ?_ ?_ ?_; rotate_left 2; assumption; rfl) | refine go_ldc hM rfl ?_)
      refine go_cV hM rfl rfl rfl k4 rfl (p_insert ok w1 (by omega) hro) rfl ?_
      have j1 : hpx (sNd (sWf C (aWy C t l) (gIns (aWf C (aWy C t l)) (aEn C (aWy C t l)) (aPl C t l + 1) x (if w = 1 then n else n + 32768) v)) (aWy C t l) (aTk C (aWy C t l)) (aDp C (aWy C t l)) (aEn C (aWy C t l) + 1)) h0 = hpx (irI C t l x n v w) h0 := rfl
      rw [j1]
      have ok2 : aOk (irI C t l x n v w) := aOk_ins ok w1 hro (by omega) (by split <;> omega) hv
      have i1 := hp_tr (A := irI C t l x n v w) (h0 := h0) ht
      refine go_pure hM rfl ?_
      refine go_pure hM rfl ?_
      refine go_get hM rfl i1 rfl ?_
      have e8 : aLf (irI C t l x n v w) t = (l : Int) := hlf
      rw [e8]
      refine go_cV hM rfl rfl rfl i1 rfl (c_refreshFirsts (A := irI C t l x n v w) ht hl6 ok2 hwy (fun k hk => ?_)) rfl ?_
      · obtain ⟨p1, p2, p3⟩ := hpl k hk
        refine ⟨p1, ?_⟩
        show aPl C t k < gF (aEn C) (aWy C t l) (aEn C (aWy C t l) + 1) (aWy C t k)
        rw [gF_n p3]
        exact p2
      have m1 := hp_tr (A := rfA (irI C t l x n v w) t l) (h0 := h0) ht
      obtain ⟨f1, f2, f3, f4, f5, f6, -⟩ := rf_ru (t := t) l (irI C t l x n v w)
      repeat (first | refine go_pure hM rfl ?_ | (refine go_get (fs := ?_) (v := ?_) hM rfl ?_ ?_ ?_; rotate_left 2; assumption; rfl) | refine go_ldc hM rfl ?_)
      refine go_put hM rfl m1 rfl rfl ?_
      rw [up_tr ht, f1, f2, f3, f4, f5, f6]
      refine go_vret hM rfl rfl ⟨rfl, rfl, ?_⟩
      rw [← hZ]
      rfl
    | succ q ih =>
      intro m hm
      obtain ⟨ok, h1, h2, h3, h4, h5, h6, h7, h8, h9, h10, h11⟩ := hs m (by omega)
      have hlm : aLf (spS B t (r + 1) m) t = (l : Int) := (sps_lf m).trans hl
      have k1 := hp_tr (A := spS B t (r + 1) m) (h0 := h0) ht
      repeat (first | refine go_pure hM rfl ?_ | (refine go_get (fs := ?_) (v := ?_) hM rfl ?_ ?_ ?_; rotate_left 2; assumption; rfl) | refine go_ldc hM rfl ?_)
      rw [hlm]
      refine go_icmp_gt hM rfl (by omega) (by omega) (fun hc => absurd hc (by omega)) (fun hc => ?_)
      repeat (first | refine go_pure hM rfl ?_ | (refine go_get (fs := ?_) (v := ?_) hM rfl ?_ ?_ ?_; rotate_left 2; assumption; rfl) | refine go_ldc hM rfl ?_)
      refine go_cV hM rfl rfl rfl k1 rfl (c_splitBlock (k := r + 1 + m) ok ht h1 rfl h2 rfl h3 h4 rfl h5 h6 h7 h8 h9 h10 h11) rfl ?_
      refine go_pure hM rfl ?_
      have e2 : ((r + 1 + m : Nat) : Int) + 1 = ((r + 1 + (m + 1) : Nat) : Int) := by omega
      rw [e2]
      repeat (first | exact ih (m + 1) (by omega) | refine go_pure hM rfl ?_ | (refine go_get (fs := ?_) (v := ?_) hM rfl ?_ ?_ ?_; rotate_left 2; assumption; rfl) | refine go_ldc hM rfl ?_)
  have l0 := loop (l - r) 0 (by omega)
  have e3 : ((r + 1 + 0 : Nat) : Int) = (r : Int) + 1 := by omega
  rw [e3] at l0
  repeat (first | exact l0 | refine go_pure hM rfl ?_ | (refine go_get (fs := ?_) (v := ?_) hM rfl ?_ ?_ ?_; rotate_left 2; assumption; rfl) | refine go_ldc hM rfl ?_)
end
