/-! Tree.insertRun, from its head -/
section
variable {G : gG} {N : Option Nat} {A B : cA} {h0 : gH} {t l : Nat} {x n v w : Int} {bs : Nat → Nat}
theorem tks_same : ∀ m, aLf (tkS A t bs l m) = aLf A ∧ aWy (tkS A t bs l m) = aWy A ∧ aPl (tkS A t bs l m) = aPl A ∧ aEn (tkS A t bs l m) = aEn A ∧ aDp (tkS A t bs l m) = aDp A ∧ aWf (tkS A t bs l m) = aWf A ∧ aM (tkS A t bs l m) = aM A := by
  intro m
  induction m with
  | zero => exact ⟨rfl, rfl, rfl, rfl, rfl, rfl, rfl⟩
  | succ m ih =>
    obtain ⟨h1, h2, h3, h4, h5, h6, h7⟩ := ih
    refine ⟨h1, h2, h3, ?_, ?_, h6, h7⟩
    · show gF (aEn (tkS A t bs l m)) _ (aEn (tkS A t bs l m) _) = aEn A
      rw [gF_same, h4]
    · show gF (aDp (tkS A t bs l m)) _ (aDp (tkS A t bs l m) _) = aDp A
      rw [gF_same, h5]
theorem tks_ok (ok : aOk A) (m : Nat) : aOk (tkS A t bs l m) := by
  obtain ⟨h1, h2, h3, h4, h5, h6, h7⟩ := tks_same (A := A) (t := t) (bs := bs) (l := l) m
  refine ⟨by rw [h7]; exact ok.1, by rw [h7]; exact ok.2.1, fun i hi => ?_⟩
  have h8 : aRm (tkS A t bs l m) i = aRm A i := by
    unfold aRm
    rw [h7]
  rw [h4, h5, h6, h8]
  exact ok.2.2 i hi
set_option maxHeartbeats 4000000 in
theorem c_ins_takes {ρ : Int} {c : Nat} {F : gK → State → Prop} (ht : t < 4) (hl6 : l < 6) (hc : (c : Int) = l - ρ) (hρ : -1 ≤ ρ ∧ ρ ≤ l) (hb : ∀ m, m < c → leastFree (tkS A t bs l m) (bs (l - m))) (kk : Go G m_Tree_insertRun F 56 [some (vR (517 + 6 * t)), some (vI x), some (vI n), some (vI v), some (vI w), some (vI ρ), some (vI ρ)] [] N (hpx (tkS A t bs l c) h0) 0 0) :
    ∀ (q m : Nat), q + m = c → Go G m_Tree_insertRun F 29 [some (vR (517 + 6 * t)), some (vI x), some (vI n), some (vI v), some (vI w), some (vI ρ), some (vI ((l : Int) - m))] [] N (hpx (tkS A t bs l m) h0) 0 0 := by
  have hM := ok_Tree_insertRun
  intro q
  induction q with
  | zero =>
    intro m hm
    have hm : m = c := by omega
    subst hm
    have e1 : (l : Int) - m = ρ := by omega
    rw [e1]
    repeat (first | refine go_pure hM rfl ?_ | (refine go_get (fs := ?_) (v := ?_) hM rfl ?_ ?_ ?_; rotate_left 2; assumption; rfl) | refine go_ldc hM rfl ?_)
    exact go_icmp_le hM rfl (by omega) (by omega) (fun _ => kk) (fun hc => absurd (Int.le_refl _) hc)
  | succ q ih =>
    intro m hm
    obtain ⟨b1, b2, b3⟩ := hb m (by omega)
    have k1 := hp_tr (A := tkS A t bs l m) (h0 := h0) ht
    have e1 : ((l : Int) - m).toNat = l - m := by omega
    repeat (first | refine go_pure hM rfl ?_ | (refine go_get (fs := ?_) (v := ?_) hM rfl ?_ ?_ ?_; rotate_left 2; assumption; rfl) | refine go_ldc hM rfl ?_)
    refine go_icmp_le hM rfl (by omega) (by omega) (fun hc => absurd hc (by omega)) (fun _ => ?_)
    repeat (first | refine go_pure hM rfl ?_ | (refine go_get (fs := ?_) (v := ?_) hM rfl ?_ ?_ ?_; rotate_left 2; assumption; rfl) | refine go_ldc hM rfl ?_)
    refine go_cV hM rfl rfl rfl hp_po rfl (c_takeLeast b1 b2 b3) rfl ?_
    generalize hC : sLe (sNd (tkS A t bs l m) (bs (l - m)) 1 (aDp (tkS A t bs l m) (bs (l - m))) (aEn (tkS A t bs l m) (bs (l - m)))) (aLe (tkS A t bs l m) - 1) = C
    have k3 := hp_fs (A := C) (h0 := h0) ht
    have fC : aFs C t = aFs (tkS A t bs l m) t := by rw [← hC]; rfl
    refine go_aast hM rfl k3 rfl (hp_nd (i := bs (l - m)) (by omega)) rfl (by omega) (by omega) (by omega) ?_
    rw [e1, eRf_set (by omega), up_fs ht]
    have e3 : sFs C t (gF (aFs C t) (l - m) (bs (l - m))) = tkS A t bs l (m + 1) := by
      rw [fC, ← hC]
      rfl
    rw [e3]
    refine go_pure hM rfl ?_
    have e2 : (l : Int) - m + (-1) = (l : Int) - ((m + 1 : Nat) : Int) := by omega
    rw [e2]
    repeat (first | exact ih (m + 1) (by omega) | refine go_pure hM rfl ?_ | (refine go_get (fs := ?_) (v := ?_) hM rfl ?_ ?_ ?_; rotate_left 2; assumption; rfl) | refine go_ldc hM rfl ?_)
set_option maxHeartbeats 4000000 in
/-- a level of the way has room -/
theorem c_insertRun_a {r : Nat} (ok : aOk A) (ht : t < 4) (hl : aLf A t = (l : Int)) (hl6 : l < 6) (hwy : ∀ k, k ≤ l → aWy A t k < 260) (hlw : lwr A t (l + 1) = (r : Int)) (hr : r ≤ l) (hb : ∀ m, m < l - r → leastFree (tkS A t bs l m) (bs (l - m))) (hs : ∀ m, m < l - r → SplitOk (spS (tkS A t bs l (l - r)) t (r + 1) m) t (r + 1 + m)) (hf : LeafOk (spS (tkS A t bs l (l - r)) t (r + 1) (l - r)) t l) (hx : 0 ≤ x ∧ x ≤ 65536) (hn : 0 ≤ n ∧ n ≤ 32768) (hv : 0 ≤ v ∧ v ≤ 16777216) (hw : w = 0 ∨ w = 1) :
    Rd G m_Tree_insertRun [vR (517 + 6 * t), vI x, vI n, vI v, vI w] N (hpx A h0) none none (hpx (irF (spS (tkS A t bs l (l - r)) t (r + 1) (l - r)) t l x n v w) h0) := by
  refine Rn.of rfl rfl rfl ?_
  have hM := ok_Tree_insertRun
  have k1 := hp_tr (A := A) (h0 := h0) ht
  repeat (first | refine go_pure hM rfl ?_ | (refine go_get (fs := ?_) (v := ?_) hM rfl ?_ ?_ ?_; rotate_left 2; assumption; rfl) | refine go_ldc hM rfl ?_)
  refine go_cV hM rfl rfl rfl k1 rfl (c_levelWithRoom ok ht hl hl6 hwy) rfl ?_
  rw [hlw]
  repeat (first | refine go_pure hM rfl ?_ | (refine go_get (fs := ?_) (v := ?_) hM rfl ?_ ?_ ?_; rotate_left 2; assumption; rfl) | refine go_ldc hM rfl ?_)
  refine go_if_ge hM rfl (by omega) (fun _ => ?_) (fun hc => absurd hc (by omega))
  have hlB : aLf (tkS A t bs l (l - r)) t = (l : Int) := by rw [(tks_same (l - r)).1]; exact hl
  have t0 := c_ins_takes (G := G) (N := N) (h0 := h0) (x := x) (n := n) (v := v) (w := w) (A := A) (bs := bs) (F := gFin G (gEq none none (hpx (irF (spS (tkS A t bs l (l - r)) t (r + 1) (l - r)) t l x n v w) h0)) gNo) (ρ := r) (c := l - r) ht hl6 (by omega) (by omega) hb (by
    repeat (first | refine go_pure hM rfl ?_ | (refine go_get (fs := ?_) (v := ?_) hM rfl ?_ ?_ ?_; rotate_left 2; assumption; rfl) | refine go_ldc hM rfl ?_)
    refine go_if_ge hM rfl (by omega) (fun _ => ?_) (fun hc => absurd hc (by omega))
    exact go_drop (c_ins_tail (B := tkS A t bs l (l - r)) ht hr hl6 hlB hs hf hx hn hv hw _)) (l - r) 0 (by omega)
  have e0 : (l : Int) - ((0 : Nat) : Int) = l := by omega
  rw [e0] at t0
  refine go_pure hM rfl ?_
  refine go_get hM rfl k1 rfl ?_
  rw [hl]
  repeat (first | exact t0 | refine go_pure hM rfl ?_ | (refine go_get (fs := ?_) (v := ?_) hM rfl ?_ ?_ ?_; rotate_left 2; assumption; rfl) | refine go_ldc hM rfl ?_)
set_option maxHeartbeats 4000000 in
/-- the whole way is full: the root grows -/
theorem c_insertRun_b (ok : aOk A) (ht : t < 4) (hl : aLf A t = (l : Int)) (hl5 : l < 5) (hwy : ∀ k, k ≤ l → aWy A t k < 260) (hlw : lwr A t (l + 1) = -1) (hb : ∀ m, m < l + 1 → leastFree (tkS A t bs l m) (bs (l - m))) (hd : aDp A (256 + t) ≤ 4) (hb0 : aFs (tkS A t bs l (l + 1)) t 0 = bs 0) (hfs : ∀ k, k ≤ l → aFs (tkS A t bs l (l + 1)) t k < 260)
    (hs : ∀ m, m < l → SplitOk (spS (gw2 (gw1 (tkS A t bs l (l + 1)) t (bs 0)) t l (bs 0)) t 2 m) t (2 + m)) (hf : LeafOk (spS (gw2 (gw1 (tkS A t bs l (l + 1)) t (bs 0)) t l (bs 0)) t 2 l) t (l + 1)) (hx : 0 ≤ x ∧ x ≤ 65536) (hn : 0 ≤ n ∧ n ≤ 32768) (hv : 0 ≤ v ∧ v ≤ 16777216) (hw : w = 0 ∨ w = 1) :
    Rd G m_Tree_insertRun [vR (517 + 6 * t), vI x, vI n, vI v, vI w] N (hpx A h0) none none (hpx (irF (spS (gw2 (gw1 (tkS A t bs l (l + 1)) t (bs 0)) t l (bs 0)) t 2 l) t (l + 1) x n v w) h0) := by
  refine Rn.of rfl rfl rfl ?_
  have hM := ok_Tree_insertRun
  have k1 := hp_tr (A := A) (h0 := h0) ht
  obtain ⟨s1, s2, s3, s4, s5, s6, s7⟩ := tks_same (A := A) (t := t) (bs := bs) (l := l) (l + 1)
  have bb := (hb l (by omega)).1
  rw [show l - l = 0 by omega] at bb
  repeat (first | refine go_pure hM rfl ?_ | (refine go_get (fs := ?_) (v := ?_) hM rfl ?_ ?_ ?_; rotate_left 2; assumption; rfl) | refine go_ldc hM rfl ?_)
  refine go_cV hM rfl rfl rfl k1 rfl (c_levelWithRoom ok ht hl (by omega) hwy) rfl ?_
  rw [hlw]
  repeat (first | refine go_pure hM rfl ?_ | (refine go_get (fs := ?_) (v := ?_) hM rfl ?_ ?_ ?_; rotate_left 2; assumption; rfl) | refine go_ldc hM rfl ?_)
  refine go_if_ge hM rfl (by omega) (fun hc => absurd hc (by omega)) (fun _ => ?_)
  repeat (first | refine go_pure hM rfl ?_ | (refine go_get (fs := ?_) (v := ?_) hM rfl ?_ ?_ ?_; rotate_left 2; assumption; rfl) | refine go_ldc hM rfl ?_)
  rw [hl]
  refine go_icmp_lt hM rfl (by omega) (by omega) (fun _ => ?_) (fun hc => absurd hc (by omega))
  have hlB : aLf (tkS A t bs l (l + 1)) t = (l : Int) := by rw [s1]; exact hl
  have okT : aOk (tkS A t bs l (l + 1)) := tks_ok ok _
  have t0 := c_ins_takes (G := G) (N := N) (h0 := h0) (x := x) (n := n) (v := v) (w := w) (A := A) (bs := bs) (F := gFin G (gEq none none (hpx (irF (spS (gw2 (gw1 (tkS A t bs l (l + 1)) t (bs 0)) t l (bs 0)) t 2 l) t (l + 1) x n v w) h0)) gNo) (ρ := -1) (c := l + 1) ht (by omega) (by omega) (by omega) hb (by
    repeat (first | refine go_pure hM rfl ?_ | (refine go_get (fs := ?_) (v := ?_) hM rfl ?_ ?_ ?_; rotate_left 2; assumption; rfl) | refine go_ldc hM rfl ?_)
    refine go_if_ge hM rfl (by omega) (fun hc => absurd hc (by omega)) (fun _ => ?_)
    repeat (first | refine go_pure hM rfl ?_ | (refine go_get (fs := ?_) (v := ?_) hM rfl ?_ ?_ ?_; rotate_left 2; assumption; rfl) | refine go_ldc hM rfl ?_)
    refine go_cV hM rfl rfl rfl (hp_tr ht) rfl (c_growRoot (b := bs 0) okT ht hl5 hlB (by rw [s2]; exact hwy) hfs hb0 (by omega) (by rw [s5]; exact hd)) rfl ?_
    have hlG : aLf (gw2 (gw1 (tkS A t bs l (l + 1)) t (bs 0)) t l (bs 0)) t = ((l + 1 : Nat) : Int) := fH_lf
    have ti := c_ins_tail (G := G) (h0 := h0) (r := 1) (l := l + 1) (B := gw2 (gw1 (tkS A t bs l (l + 1)) t (bs 0)) t l (bs 0)) (x := x) (n := n) (v := v) (w := w) ht (by omega) (by omega) hlG (fun m hm => hs m (by omega)) (by rw [show l + 1 - 1 = l by omega]; exact hf) hx hn hv hw (some (vI (-1)))
    rw [show l + 1 - 1 = l by omega] at ti
    repeat (first | exact ti | refine go_pure hM rfl ?_ | (refine go_get (fs := ?_) (v := ?_) hM rfl ?_ ?_ ?_; rotate_left 2; assumption; rfl) | refine go_ldc hM rfl ?_)) (l + 1) 0 (by omega)
  have e0 : (l : Int) - ((0 : Nat) : Int) = l := by omega
  rw [e0] at t0
  refine go_pure hM rfl ?_
  refine go_get hM rfl k1 rfl ?_
  rw [hl]
  repeat (first | exact t0 | refine go_pure hM rfl ?_ | (refine go_get (fs := ?_) (v := ?_) hM rfl ?_ ?_ ?_; rotate_left 2; assumption; rfl) | refine go_ldc hM rfl ?_)
end
