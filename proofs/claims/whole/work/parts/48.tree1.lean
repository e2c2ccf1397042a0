/-! Tree: what it reads and counts -/
def rF (A : cA) (t l : Nat) : Int := gWd (aWf A (aWy A t l)) (aEn A (aWy A t l)) (aPl A t l) 0
def rL (A : cA) (t l : Nat) : Int := gLn (gWd (aWf A (aWy A t l)) (aEn A (aWy A t l)) (aPl A t l) 1)
def rV (A : cA) (t l : Nat) : Int := gWd (aWf A (aWy A t l)) (aEn A (aWy A t l)) (aPl A t l) 2
def rW (A : cA) (t l : Nat) : Int := if (0 ≤ aPl A t l ∧ aPl A t l < aEn A (aWy A t l)) ∧ gWd (aWf A (aWy A t l)) (aEn A (aWy A t l)) (aPl A t l) 1 ≤ 32768 then 1 else 0
theorem rW_01 (A : cA) (t l : Nat) : rW A t l = 0 ∨ rW A t l = 1 := by
  unfold rW
  split
  · exact Or.inr rfl
  · exact Or.inl rfl
theorem rF_r {A : cA} {t l : Nat} (ok : aOk A) (hw : aWy A t l < 260) : 0 ≤ rF A t l ∧ rF A t l ≤ 16777216 := ok.wd hw _ _
theorem rV_r {A : cA} {t l : Nat} (ok : aOk A) (hw : aWy A t l < 260) : 0 ≤ rV A t l ∧ rV A t l ≤ 16777216 := ok.wd hw _ _
theorem rL_r {A : cA} {t l : Nat} (ok : aOk A) (hw : aWy A t l < 260) : 0 ≤ rL A t l ∧ rL A t l ≤ 16777216 := by
  have := ok.wd hw (aPl A t l) 1
  unfold rL gLn
  split <;> omega
section
variable {G : gG} {N : Option Nat} {A : cA} {h0 : gH} {t l : Nat}
theorem c_longest {w : Int} {h : gH} (hw : w = 0 ∨ w = 1) : Rd G m_ET_longest [vI w] N h (some (vI (if w = 1 then 32768 else 32767))) N h := by
  refine Rn.of rfl rfl rfl ?_
  have hM := ok_ET_longest
  repeat (first | refine go_pure hM rfl ?_ | (refine go_get (fs := ?_) (v := ?_) hM rfl ?_ ?_ ?_; rotate_left 2; assumption; rfl) | refine go_ldc hM rfl ?_)
  refine go_if_eq hM rfl (by omega) (fun hc => ?_) (fun hc => ?_)
  · repeat (first | refine go_pure hM rfl ?_ | (refine go_get (fs := ?_) (v := ?_) hM rfl ?_ ?_ ?_; rotate_left 2; assumption; rfl) | refine go_ldc hM rfl ?_)
    exact go_iret hM rfl rfl ⟨by rw [if_neg (by omega)], rfl, rfl⟩
  · repeat (first | refine go_pure hM rfl ?_ | (refine go_get (fs := ?_) (v := ?_) hM rfl ?_ ?_ ?_; rotate_left 2; assumption; rfl) | refine go_ldc hM rfl ?_)
    exact go_iret hM rfl rfl ⟨by rw [if_pos (by omega)], rfl, rfl⟩
theorem c_marked {x w : Int} {h : gH} (hw : w = 0 ∨ w = 1) : Rd G m_Tree_marked [vI x, vI w] N h (some (vI (if w = 1 then x else x + 32768))) N h := by
  refine Rn.of rfl rfl rfl ?_
  have hM := ok_Tree_marked
  repeat (first | refine go_pure hM rfl ?_ | (refine go_get (fs := ?_) (v := ?_) hM rfl ?_ ?_ ?_; rotate_left 2; assumption; rfl) | refine go_ldc hM rfl ?_)
  refine go_if_eq hM rfl (by omega) (fun hc => ?_) (fun hc => ?_)
  · repeat (first | refine go_pure hM rfl ?_ | (refine go_get (fs := ?_) (v := ?_) hM rfl ?_ ?_ ?_; rotate_left 2; assumption; rfl) | refine go_ldc hM rfl ?_)
    exact go_iret hM rfl rfl ⟨by rw [if_neg (by omega)], rfl, rfl⟩
  · repeat (first | refine go_pure hM rfl ?_ | (refine go_get (fs := ?_) (v := ?_) hM rfl ?_ ?_ ?_; rotate_left 2; assumption; rfl) | refine go_ldc hM rfl ?_)
    exact go_iret hM rfl rfl ⟨by rw [if_pos (by omega)], rfl, rfl⟩
theorem c_leaves (ok : aOk A) (ht : t < 4) : Rd G m_Tree_leaves [vR (517 + 6 * t)] N (hpx A h0) (some (vI (if aDp A (256 + t) = 0 then 1 else aLb A t))) N (hpx A h0) := by
  refine Rn.of rfl rfl rfl ?_
  have hM := ok_Tree_leaves
  have k1 := hp_tr (A := A) (h0 := h0) ht
  have k2 := hp_nd (A := A) (h0 := h0) (i := 256 + t) (by omega)
  have := (ok.2.2 (256 + t) (by omega)).2.1
  repeat (first | refine go_pure hM rfl ?_ | (refine go_get (fs := ?_) (v := ?_) hM rfl ?_ ?_ ?_; rotate_left 2; assumption; rfl) | refine go_ldc hM rfl ?_)
  refine go_if_ne hM rfl (by omega) (fun hc => ?_) (fun hc => ?_)
  · repeat (first | refine go_pure hM rfl ?_ | (refine go_get (fs := ?_) (v := ?_) hM rfl ?_ ?_ ?_; rotate_left 2; assumption; rfl) | refine go_ldc hM rfl ?_)
    exact go_iret hM rfl rfl ⟨by rw [if_neg hc], rfl, rfl⟩
  · repeat (first | refine go_pure hM rfl ?_ | (refine go_get (fs := ?_) (v := ?_) hM rfl ?_ ?_ ?_; rotate_left 2; assumption; rfl) | refine go_ldc hM rfl ?_)
    exact go_iret hM rfl rfl ⟨by rw [if_pos hc], rfl, rfl⟩
theorem c_roomForOne (ok : aOk A) (ht : t < 4) (hle : 0 ≤ aLe A ∧ aLe A ≤ 255) : Rd G m_Tree_roomForOne [vR (517 + 6 * t)] N (hpx A h0) (some (vI (if aDp A (256 + t) + 1 ≤ aLe A ∧ ¬ (5 ≤ aDp A (256 + t) ∧ 4 ≤ aEn A (256 + t)) then 1 else 0))) N (hpx A h0) := by
  refine Rn.of rfl rfl rfl ?_
  have hM := ok_Tree_roomForOne
  have k1 := hp_tr (A := A) (h0 := h0) ht
  have k2 := hp_nd (A := A) (h0 := h0) (i := 256 + t) (by omega)
  have k3 := hp_po (A := A) (h0 := h0)
  have d1 := (ok.2.2 (256 + t) (by omega)).2.1
  have e1 : aRm A (256 + t) = 4 := if_neg (by omega)
  repeat (first | refine go_pure hM rfl ?_ | (refine go_get (fs := ?_) (v := ?_) hM rfl ?_ ?_ ?_; rotate_left 2; assumption; rfl) | refine go_ldc hM rfl ?_)
  refine go_icmp_lt hM rfl (by omega) (by omega) (fun hc => ?_) (fun hc => ?_)
  · repeat (first | refine go_pure hM rfl ?_ | (refine go_get (fs := ?_) (v := ?_) hM rfl ?_ ?_ ?_; rotate_left 2; assumption; rfl) | refine go_ldc hM rfl ?_)
    exact go_zret hM rfl rfl (Or.inl rfl) ⟨by rw [if_neg (by omega)], rfl, rfl⟩
  · repeat (first | refine go_pure hM rfl ?_ | (refine go_get (fs := ?_) (v := ?_) hM rfl ?_ ?_ ?_; rotate_left 2; assumption; rfl) | refine go_ldc hM rfl ?_)
    refine go_icmp_lt hM rfl (by omega) (by omega) (fun hc1 => ?_) (fun hc1 => ?_)
    · repeat (first | refine go_pure hM rfl ?_ | (refine go_get (fs := ?_) (v := ?_) hM rfl ?_ ?_ ?_; rotate_left 2; assumption; rfl) | refine go_ldc hM rfl ?_)
      exact go_zret hM rfl rfl (Or.inr rfl) ⟨by rw [if_pos (by omega)], rfl, rfl⟩
    · repeat (first | refine go_pure hM rfl ?_ | (refine go_get (fs := ?_) (v := ?_) hM rfl ?_ ?_ ?_; rotate_left 2; assumption; rfl) | refine go_ldc hM rfl ?_)
      have q := p_isFull (G := G) (N := N) (h0 := h0) ok (i := 256 + t) (by omega)
      rw [e1] at q
      by_cases hf : (4 : Int) ≤ aEn A (256 + t)
      · have hf2 : ((4 : Nat) : Int) ≤ aEn A (256 + t) := hf
        rw [if_pos hf2] at q
        refine go_cV hM rfl rfl rfl k2 rfl q rfl ?_
        refine go_if_ne hM rfl (by omega) (fun hc2 => ?_) (fun hc2 => absurd hc2 (by omega))
        repeat (first | refine go_pure hM rfl ?_ | (refine go_get (fs := ?_) (v := ?_) hM rfl ?_ ?_ ?_; rotate_left 2; assumption; rfl) | refine go_ldc hM rfl ?_)
        exact go_zret hM rfl rfl (Or.inl rfl) ⟨by rw [if_neg (by omega)], rfl, rfl⟩
      · have hf2 : ¬ ((4 : Nat) : Int) ≤ aEn A (256 + t) := hf
        rw [if_neg hf2] at q
        refine go_cV hM rfl rfl rfl k2 rfl q rfl ?_
        refine go_if_ne hM rfl (by omega) (fun hc2 => absurd rfl hc2) (fun hc2 => ?_)
        repeat (first | refine go_pure hM rfl ?_ | (refine go_get (fs := ?_) (v := ?_) hM rfl ?_ ?_ ?_; rotate_left 2; assumption; rfl) | refine go_ldc hM rfl ?_)
        exact go_zret hM rfl rfl (Or.inr rfl) ⟨by rw [if_pos (by omega)], rfl, rfl⟩
theorem c_roomForTwo (ok : aOk A) (ht : t < 4) (hle : 0 ≤ aLe A ∧ aLe A ≤ 255) : Rd G m_Tree_roomForTwo [vR (517 + 6 * t)] N (hpx A h0) (some (vI (if 2 * aDp A (256 + t) + 3 ≤ aLe A ∧ ¬ (4 ≤ aDp A (256 + t) ∧ 4 ≤ aEn A (256 + t)) then 1 else 0))) N (hpx A h0) := by
  refine Rn.of rfl rfl rfl ?_
  have hM := ok_Tree_roomForTwo
  have k1 := hp_tr (A := A) (h0 := h0) ht
  have k2 := hp_nd (A := A) (h0 := h0) (i := 256 + t) (by omega)
  have k3 := hp_po (A := A) (h0 := h0)
  have d1 := (ok.2.2 (256 + t) (by omega)).2.1
  have e1 : aRm A (256 + t) = 4 := if_neg (by omega)
  repeat (first | refine go_pure hM rfl ?_ | (refine go_get (fs := ?_) (v := ?_) hM rfl ?_ ?_ ?_; rotate_left 2; assumption; rfl) | refine go_ldc hM rfl ?_)
  refine go_icmp_lt hM rfl (by omega) (by omega) (fun hc => ?_) (fun hc => ?_)
  · repeat (first | refine go_pure hM rfl ?_ | (refine go_get (fs := ?_) (v := ?_) hM rfl ?_ ?_ ?_; rotate_left 2; assumption; rfl) | refine go_ldc hM rfl ?_)
    exact go_zret hM rfl rfl (Or.inl rfl) ⟨by rw [if_neg (by omega)], rfl, rfl⟩
  · repeat (first | refine go_pure hM rfl ?_ | (refine go_get (fs := ?_) (v := ?_) hM rfl ?_ ?_ ?_; rotate_left 2; assumption; rfl) | refine go_ldc hM rfl ?_)
    refine go_icmp_lt hM rfl (by omega) (by omega) (fun hc1 => ?_) (fun hc1 => ?_)
    · repeat (first | refine go_pure hM rfl ?_ | (refine go_get (fs := ?_) (v := ?_) hM rfl ?_ ?_ ?_; rotate_left 2; assumption; rfl) | refine go_ldc hM rfl ?_)
      exact go_zret hM rfl rfl (Or.inr rfl) ⟨by rw [if_pos (by omega)], rfl, rfl⟩
    · repeat (first | refine go_pure hM rfl ?_ | (refine go_get (fs := ?_) (v := ?_) hM rfl ?_ ?_ ?_; rotate_left 2; assumption; rfl) | refine go_ldc hM rfl ?_)
      have q := p_isFull (G := G) (N := N) (h0 := h0) ok (i := 256 + t) (by omega)
      rw [e1] at q
      by_cases hf : (4 : Int) ≤ aEn A (256 + t)
      · have hf2 : ((4 : Nat) : Int) ≤ aEn A (256 + t) := hf
        rw [if_pos hf2] at q
        refine go_cV hM rfl rfl rfl k2 rfl q rfl ?_
        refine go_if_ne hM rfl (by omega) (fun hc2 => ?_) (fun hc2 => absurd hc2 (by omega))
        repeat (first | refine go_pure hM rfl ?_ | (refine go_get (fs := ?_) (v := ?_) hM rfl ?_ ?_ ?_; rotate_left 2; assumption; rfl) | refine go_ldc hM rfl ?_)
        exact go_zret hM rfl rfl (Or.inl rfl) ⟨by rw [if_neg (by omega)], rfl, rfl⟩
      · have hf2 : ¬ ((4 : Nat) : Int) ≤ aEn A (256 + t) := hf
        rw [if_neg hf2] at q
        refine go_cV hM rfl rfl rfl k2 rfl q rfl ?_
        refine go_if_ne hM rfl (by omega) (fun hc2 => absurd rfl hc2) (fun hc2 => ?_)
        repeat (first | refine go_pure hM rfl ?_ | (refine go_get (fs := ?_) (v := ?_) hM rfl ?_ ?_ ?_; rotate_left 2; assumption; rfl) | refine go_ldc hM rfl ?_)
        exact go_zret hM rfl rfl (Or.inr rfl) ⟨by rw [if_pos (by omega)], rfl, rfl⟩
theorem c_runFirst (ok : aOk A) (ht : t < 4) (hl : aLf A t = (l : Int)) (hl6 : l < 6) (hw : aWy A t l < 260) (rp : (-2147483648 ≤ aPl A t l ∧ aPl A t l ≤ 2147483647)) : Rd G m_Tree_runFirst [vR (517 + 6 * t)] N (hpx A h0) (some (vI (rF A t l))) N (hpx A h0) := by
  refine Rn.of rfl rfl rfl ?_
  have hM := ok_Tree_runFirst
  have k1 := hp_tr (A := A) (h0 := h0) ht
  have k2 := hp_wy (A := A) (h0 := h0) ht
  have k3 := hp_pl (A := A) (h0 := h0) ht
  have e9 : (aLf A t).toNat = l := by omega
  repeat (first | refine go_pure hM rfl ?_ | (refine go_get (fs := ?_) (v := ?_) hM rfl ?_ ?_ ?_; rotate_left 2; assumption; rfl) | refine go_ldc hM rfl ?_)
  refine go_aaldS (r := oA (aWy A t l)) hM rfl k2 rfl (by omega) (by omega) (by omega) (by rw [e9]; exact if_pos hl6) ?_
  repeat (first | refine go_pure hM rfl ?_ | (refine go_get (fs := ?_) (v := ?_) hM rfl ?_ ?_ ?_; rotate_left 2; assumption; rfl) | refine go_ldc hM rfl ?_)
  refine go_iald hM rfl k3 (by omega) (by omega) (by omega) ?_
  rw [e9]
  refine go_cV hM rfl rfl rfl (hp_nd hw) rfl (p_firstAt ok hw rp) rfl ?_
  exact go_iret hM rfl rfl ⟨rfl, rfl, rfl⟩
theorem c_runLength (ok : aOk A) (ht : t < 4) (hl : aLf A t = (l : Int)) (hl6 : l < 6) (hw : aWy A t l < 260) (rp : (-2147483648 ≤ aPl A t l ∧ aPl A t l ≤ 2147483647)) : Rd G m_Tree_runLength [vR (517 + 6 * t)] N (hpx A h0) (some (vI (rL A t l))) N (hpx A h0) := by
  refine Rn.of rfl rfl rfl ?_
  have hM := ok_Tree_runLength
  have k1 := hp_tr (A := A) (h0 := h0) ht
  have k2 := hp_wy (A := A) (h0 := h0) ht
  have k3 := hp_pl (A := A) (h0 := h0) ht
  have e9 : (aLf A t).toNat = l := by omega
  repeat (first | refine go_pure hM rfl ?_ | (refine go_get (fs := ?_) (v := ?_) hM rfl ?_ ?_ ?_; rotate_left 2; assumption; rfl) | refine go_ldc hM rfl ?_)
  refine go_aaldS (r := oA (aWy A t l)) hM rfl k2 rfl (by omega) (by omega) (by omega) (by rw [e9]; exact if_pos hl6) ?_
  repeat (first | refine go_pure hM rfl ?_ | (refine go_get (fs := ?_) (v := ?_) hM rfl ?_ ?_ ?_; rotate_left 2; assumption; rfl) | refine go_ldc hM rfl ?_)
  refine go_iald hM rfl k3 (by omega) (by omega) (by omega) ?_
  rw [e9]
  refine go_cV hM rfl rfl rfl (hp_nd hw) rfl (p_lengthAt ok hw rp) rfl ?_
  exact go_iret hM rfl rfl ⟨rfl, rfl, rfl⟩
theorem c_runVolume (ok : aOk A) (ht : t < 4) (hl : aLf A t = (l : Int)) (hl6 : l < 6) (hw : aWy A t l < 260) (rp : (-2147483648 ≤ aPl A t l ∧ aPl A t l ≤ 2147483647)) : Rd G m_Tree_runVolume [vR (517 + 6 * t)] N (hpx A h0) (some (vI (rV A t l))) N (hpx A h0) := by
  refine Rn.of rfl rfl rfl ?_
  have hM := ok_Tree_runVolume
  have k1 := hp_tr (A := A) (h0 := h0) ht
  have k2 := hp_wy (A := A) (h0 := h0) ht
  have k3 := hp_pl (A := A) (h0 := h0) ht
  have e9 : (aLf A t).toNat = l := by omega
  repeat (first | refine go_pure hM rfl ?_ | (refine go_get (fs := ?_) (v := ?_) hM rfl ?_ ?_ ?_; rotate_left 2; assumption; rfl) | refine go_ldc hM rfl ?_)
  refine go_aaldS (r := oA (aWy A t l)) hM rfl k2 rfl (by omega) (by omega) (by omega) (by rw [e9]; exact if_pos hl6) ?_
  repeat (first | refine go_pure hM rfl ?_ | (refine go_get (fs := ?_) (v := ?_) hM rfl ?_ ?_ ?_; rotate_left 2; assumption; rfl) | refine go_ldc hM rfl ?_)
  refine go_iald hM rfl k3 (by omega) (by omega) (by omega) ?_
  rw [e9]
  refine go_cV hM rfl rfl rfl (hp_nd hw) rfl (p_volumeAt ok hw rp) rfl ?_
  exact go_iret hM rfl rfl ⟨rfl, rfl, rfl⟩
theorem c_runIsWritten (ok : aOk A) (ht : t < 4) (hl : aLf A t = (l : Int)) (hl6 : l < 6) (hw : aWy A t l < 260) (rp : (-2147483648 ≤ aPl A t l ∧ aPl A t l ≤ 2147483647)) : Rd G m_Tree_runIsWritten [vR (517 + 6 * t)] N (hpx A h0) (some (vI (rW A t l))) N (hpx A h0) := by
  refine Rn.of rfl rfl rfl ?_
  have hM := ok_Tree_runIsWritten
  have k1 := hp_tr (A := A) (h0 := h0) ht
  have k2 := hp_wy (A := A) (h0 := h0) ht
  have k3 := hp_pl (A := A) (h0 := h0) ht
  have e9 : (aLf A t).toNat = l := by omega
  repeat (first | refine go_pure hM rfl ?_ | (refine go_get (fs := ?_) (v := ?_) hM rfl ?_ ?_ ?_; rotate_left 2; assumption; rfl) | refine go_ldc hM rfl ?_)
  refine go_aaldS (r := oA (aWy A t l)) hM rfl k2 rfl (by omega) (by omega) (by omega) (by rw [e9]; exact if_pos hl6) ?_
  repeat (first | refine go_pure hM rfl ?_ | (refine go_get (fs := ?_) (v := ?_) hM rfl ?_ ?_ ?_; rotate_left 2; assumption; rfl) | refine go_ldc hM rfl ?_)
  refine go_iald hM rfl k3 (by omega) (by omega) (by omega) ?_
  rw [e9]
  refine go_cV hM rfl rfl rfl (hp_nd hw) rfl (p_isWrittenAt ok hw rp) rfl ?_
  exact go_zret hM rfl rfl (rW_01 A t l) ⟨rfl, rfl, rfl⟩
theorem c_runEnd (ok : aOk A) (ht : t < 4) (hl : aLf A t = (l : Int)) (hl6 : l < 6) (hw : aWy A t l < 260) (rp : (-2147483648 ≤ aPl A t l ∧ aPl A t l ≤ 2147483647)) : Rd G m_Tree_runEnd [vR (517 + 6 * t)] N (hpx A h0) (some (vI (rF A t l + rL A t l))) N (hpx A h0) := by
  refine Rn.of rfl rfl rfl ?_
  have hM := ok_Tree_runEnd
  have k1 := hp_tr (A := A) (h0 := h0) ht
  repeat (first | refine go_pure hM rfl ?_ | (refine go_get (fs := ?_) (v := ?_) hM rfl ?_ ?_ ?_; rotate_left 2; assumption; rfl) | refine go_ldc hM rfl ?_)
  refine go_cV hM rfl rfl rfl k1 rfl (c_runFirst ok ht hl hl6 hw rp) rfl ?_
  repeat (first | refine go_pure hM rfl ?_ | (refine go_get (fs := ?_) (v := ?_) hM rfl ?_ ?_ ?_; rotate_left 2; assumption; rfl) | refine go_ldc hM rfl ?_)
  refine go_cV hM rfl rfl rfl k1 rfl (c_runLength ok ht hl hl6 hw rp) rfl ?_
  repeat (first | refine go_pure hM rfl ?_ | (refine go_get (fs := ?_) (v := ?_) hM rfl ?_ ?_ ?_; rotate_left 2; assumption; rfl) | refine go_ldc hM rfl ?_)
  exact go_iret hM rfl rfl ⟨rfl, rfl, rfl⟩
theorem c_countMapped {x w : Int} (ht : t < 4) (hw : w = 0 ∨ w = 1) : Rd G m_Tree_countMapped [vR (517 + 6 * t), vI x, vI w] N (hpx A h0) none N (hpx (sTr A t (aRu A t) (aBl A t) (aMa A t + x) (if w = 1 then aMw A t + x else aMw A t) (aLb A t) (aLf A t)) h0) := by
  refine Rn.of rfl rfl rfl ?_
  have hM := ok_Tree_countMapped
  have k1 := hp_tr (A := A) (h0 := h0) ht
  repeat (first | refine go_pure hM rfl ?_ | (refine go_get (fs := ?_) (v := ?_) hM rfl ?_ ?_ ?_; rotate_left 2; assumption; rfl) | refine go_ldc hM rfl ?_)
  refine go_put hM rfl k1 rfl rfl ?_
  repeat (first | refine go_pure hM rfl ?_ | (refine go_get (fs := ?_) (v := ?_) hM rfl ?_ ?_ ?_; rotate_left 2; assumption; rfl) | refine go_ldc hM rfl ?_)
  refine go_if_eq hM rfl (by omega) (fun hc => ?_) (fun hc => ?_)
  · rw [up_tr ht, if_neg (by omega)]
    exact go_vret hM rfl rfl ⟨rfl, rfl, rfl⟩
  · refine go_pure hM rfl ?_
    refine go_pure hM rfl ?_
    refine go_get hM rfl (gU_s _ _ _) rfl ?_
    repeat (first | refine go_pure hM rfl ?_ | (refine go_get (fs := ?_) (v := ?_) hM rfl ?_ ?_ ?_; rotate_left 2; assumption; rfl) | refine go_ldc hM rfl ?_)
    refine go_put hM rfl (gU_s _ _ _) rfl rfl ?_
    rw [gU_uu, up_tr ht, if_pos (by omega)]
    exact go_vret hM rfl rfl ⟨rfl, rfl, rfl⟩
theorem c_countBlock {i : Nat} {x : Int} (ok : aOk A) (ht : t < 4) (hi : i < 260) : Rd G m_Tree_countBlock [vR (517 + 6 * t), vR (oA i), vI x] N (hpx A h0) none N (hpx (sTr A t (aRu A t) (aBl A t + x) (aMa A t) (aMw A t) (if aDp A i = 0 then aLb A t + x else aLb A t) (aLf A t)) h0) := by
  refine Rn.of rfl rfl rfl ?_
  have hM := ok_Tree_countBlock
  have k1 := hp_tr (A := A) (h0 := h0) ht
  have d1 := (ok.2.2 i hi).2.1
  repeat (first | refine go_pure hM rfl ?_ | (refine go_get (fs := ?_) (v := ?_) hM rfl ?_ ?_ ?_; rotate_left 2; assumption; rfl) | refine go_ldc hM rfl ?_)
  refine go_put hM rfl k1 rfl rfl ?_
  have hne : oA i ≠ 517 + 6 * t := by
    unfold oA
    split <;> omega
  have k2 : gU (hpx A h0) (517 + 6 * t) (.inr (2, [vR (oA (256 + t)), vI (aRu A t), vI (aBl A t + x), vI (aMa A t), vI (aMw A t), vI (aLb A t), vR 2, vR (520 + 6 * t), vR (521 + 6 * t), vI (aLf A t), vR (522 + 6 * t)])) (oA i) = some (eNd A i) := by rw [gU_n hne]; exact hp_nd hi
  repeat (first | refine go_pure hM rfl ?_ | (refine go_get (fs := ?_) (v := ?_) hM rfl ?_ ?_ ?_; rotate_left 2; assumption; rfl) | refine go_ldc hM rfl ?_)
  refine go_if_ne hM rfl (by omega) (fun hc => ?_) (fun hc => ?_)
  · rw [up_tr ht, if_neg hc]
    exact go_vret hM rfl rfl ⟨rfl, rfl, rfl⟩
  · refine go_pure hM rfl ?_
    refine go_pure hM rfl ?_
    refine go_get hM rfl (gU_s _ _ _) rfl ?_
    repeat (first | refine go_pure hM rfl ?_ | (refine go_get (fs := ?_) (v := ?_) hM rfl ?_ ?_ ?_; rotate_left 2; assumption; rfl) | refine go_ldc hM rfl ?_)
    refine go_put hM rfl (gU_s _ _ _) rfl rfl ?_
    rw [gU_uu, up_tr ht, if_pos hc]
    exact go_vret hM rfl rfl ⟨rfl, rfl, rfl⟩
end
