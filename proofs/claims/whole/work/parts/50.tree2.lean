/-! Tree: what is asked of a way found -/
def eF (A : cA) (i : Nat) (p : Int) : Int := gWd (aWf A i) (aEn A i) p 0
def eL (A : cA) (i : Nat) (p : Int) : Int := gLn (gWd (aWf A i) (aEn A i) p 1)
def eV (A : cA) (i : Nat) (p : Int) : Int := gWd (aWf A i) (aEn A i) p 2
def eW (A : cA) (i : Nat) (p : Int) : Int := if (0 ≤ p ∧ p < aEn A i) ∧ gWd (aWf A i) (aEn A i) p 1 ≤ 32768 then 1 else 0
/-- the first block of the next entry, up from a level -/
def nf (A : cA) (t : Nat) : Nat → Int
  | 0 => 65536
  | k + 1 => if 0 ≤ aPl A t k + 1 ∧ aPl A t k + 1 < aEn A (aWy A t k) then gWd (aWf A (aWy A t k)) (aEn A (aWy A t k)) (aPl A t k + 1) 0 else nf A t k
section
variable {G : gG} {N : Option Nat} {A : cA} {h0 : gH} {t l : Nat} {b : Int} {d : Nat} {W : Nat → Nat} {P : Nat → Int}
theorem fnd_wy {x : Int} {k : Nat} (hk : k ≤ d) : aWy (fnd A t W P (d + 1) x) t k = W k := by
  unfold fnd
  rw [fG_wy]
  exact if_pos (by omega)
theorem fnd_pl {x : Int} {k : Nat} (hk : k ≤ d) : aPl (fnd A t W P (d + 1) x) t k = P k := by
  unfold fnd
  rw [fG_pl]
  exact if_pos (by omega)
theorem fnd_lf {x : Int} {k : Nat} : aLf (fnd A t W P k x) t = x := fG_lf _ _ _ _ _
theorem fnd_rF : rF (fnd A t W P (d + 1) d) t d = eF A (W d) (P d) := by
  unfold rF
  rw [fnd_wy (Nat.le_refl d), fnd_pl (Nat.le_refl d)]
  rfl
theorem fnd_rL : rL (fnd A t W P (d + 1) d) t d = eL A (W d) (P d) := by
  unfold rL
  rw [fnd_wy (Nat.le_refl d), fnd_pl (Nat.le_refl d)]
  rfl
theorem fnd_rV : rV (fnd A t W P (d + 1) d) t d = eV A (W d) (P d) := by
  unfold rV
  rw [fnd_wy (Nat.le_refl d), fnd_pl (Nat.le_refl d)]
  rfl
theorem fnd_rW : rW (fnd A t W P (d + 1) d) t d = eW A (W d) (P d) := by
  unfold rW
  rw [fnd_wy (Nat.le_refl d), fnd_pl (Nat.le_refl d)]
  rfl
theorem PathTo.pr (ok : aOk A) (hp : PathTo A t b d W P) {k : Nat} (hk : k ≤ d) : -1 ≤ P k ∧ P k ≤ 84 := by
  obtain ⟨a1, a2, a3, a4⟩ := hp.2.2.1 k hk
  have r1 := gLu_r (aWf A (W k)) b (aEn A (W k)).toNat
  have r2 := (ok.2.2 (W k) a1).1
  have r3 := ok.rm (W k)
  rw [a4]
  split
  · omega
  · split <;> omega
/-- behind a find, the run found may be asked -/
theorem PathTo.at (ok : aOk A) (hp : PathTo A t b d W P) : aLf (fnd A t W P (d + 1) d) t = (d : Int) ∧ d < 6 ∧ aWy (fnd A t W P (d + 1) d) t d < 260 ∧ (-2147483648 ≤ aPl (fnd A t W P (d + 1) d) t d ∧ aPl (fnd A t W P (d + 1) d) t d ≤ 2147483647) := by
  have h1 := hp.1
  have h2 := (hp.2.2.1 d (Nat.le_refl d)).1
  have h3 := hp.pr ok (Nat.le_refl d)
  rw [fnd_wy (Nat.le_refl d), fnd_pl (Nat.le_refl d)]
  exact ⟨fnd_lf, by omega, h2, by omega⟩
theorem e_r (ok : aOk A) {i : Nat} (hi : i < 260) (p : Int) : (0 ≤ eF A i p ∧ eF A i p ≤ 16777216) ∧ (0 ≤ eL A i p ∧ eL A i p ≤ 16777216) ∧ (0 ≤ eV A i p ∧ eV A i p ≤ 16777216) ∧ (eW A i p = 0 ∨ eW A i p = 1) := by
  have h1 := ok.wd hi p 0
  have h2 := ok.wd hi p 1
  have h3 := ok.wd hi p 2
  refine ⟨h1, ?_, h3, ?_⟩
  · unfold eL gLn
    split <;> omega
  · unfold eW
    split
    · exact Or.inr rfl
    · exact Or.inl rfl
set_option maxHeartbeats 1000000 in
theorem c_nextFirst (ok : aOk A) (ht : t < 4) (hl : aLf A t = (l : Int)) (hl6 : l < 6) (hw : ∀ k, k ≤ l → aWy A t k < 260 ∧ (-1000 ≤ aPl A t k ∧ aPl A t k ≤ 1000)) : Rd G m_Tree_nextFirst [vR (517 + 6 * t)] N (hpx A h0) (some (vI (nf A t (l + 1)))) N (hpx A h0) := by
  refine Rn.of rfl rfl rfl ?_
  have hM := ok_Tree_nextFirst
  have k1 := hp_tr (A := A) (h0 := h0) ht
  have k2 := hp_wy (A := A) (h0 := h0) ht
  have k3 := hp_pl (A := A) (h0 := h0) ht
  have loop : ∀ (k : Nat) (y : Option gV), k ≤ l + 1 → nf A t k = nf A t (l + 1) → Go G m_Tree_nextFirst (gFin G (gEq (some (vI (nf A t (l + 1)))) N (hpx A h0)) gNo) 5 [some (vR (517 + 6 * t)), some (vI ((k : Int) - 1)), y] [] N (hpx A h0) 0 0 := by
    intro k
    induction k with
    | zero =>
      intro y h1 h2
      repeat (first | refine go_pure hM rfl ?_ | (refine go_get (fs := ?_) (v := ?_) hM rfl ?_ ?_ ?_; rotate_left 2; assumption; rfl) | refine go_ldc hM rfl ?_)
      refine go_if_lt hM rfl (by omega) (fun hc => ?_) (fun hc => absurd hc (by omega))
      repeat (first | refine go_pure hM rfl ?_ | (refine go_get (fs := ?_) (v := ?_) hM rfl ?_ ?_ ?_; rotate_left 2; assumption; rfl) | refine go_ldc hM rfl ?_)
      exact go_iret hM rfl rfl ⟨by rw [← h2]; rfl, rfl, rfl⟩
    | succ k ih =>
      intro y h1 h2
      have e0 : ((k + 1 : Nat) : Int) - 1 = k := by omega
      rw [e0]
      obtain ⟨w1, w2⟩ := hw k (by omega)
      repeat (first | refine go_pure hM rfl ?_ | (refine go_get (fs := ?_) (v := ?_) hM rfl ?_ ?_ ?_; rotate_left 2; assumption; rfl) | refine go_ldc hM rfl ?_)
      refine go_if_lt hM rfl (by omega) (fun hc => absurd hc (by omega)) (fun hc => ?_)
      repeat (first | refine go_pure hM rfl ?_ | (refine go_get (fs := ?_) (v := ?_) hM rfl ?_ ?_ ?_; rotate_left 2; assumption; rfl) | refine go_ldc hM rfl ?_)
      refine go_iald hM rfl k3 (by omega) (by omega) (by omega) ?_
      have e1 : (k : Int).toNat = k := by omega
      rw [e1]
      repeat (first | refine go_pure hM rfl ?_ | (refine go_get (fs := ?_) (v := ?_) hM rfl ?_ ?_ ?_; rotate_left 2; assumption; rfl) | refine go_ldc hM rfl ?_)
      refine go_aaldS (r := oA (aWy A t k)) hM rfl k2 rfl (by omega) (by omega) (by omega) (by rw [e1]; exact if_pos (by omega)) ?_
      repeat (first | refine go_pure hM rfl ?_ | (refine go_get (fs := ?_) (v := ?_) hM rfl ?_ ?_ ?_; rotate_left 2; assumption; rfl) | refine go_ldc hM rfl ?_)
      have q := p_hasEntry (G := G) (N := N) (h0 := h0) ok w1 (p := aPl A t k + 1) (by omega)
      by_cases hc : 0 ≤ aPl A t k + 1 ∧ aPl A t k + 1 < aEn A (aWy A t k)
      · rw [if_pos hc] at q
        refine go_cV hM rfl rfl rfl (hp_nd w1) rfl q rfl ?_
        refine go_if_eq hM rfl (by omega) (fun hc2 => absurd hc2 (by omega)) (fun hc2 => ?_)
        repeat (first | refine go_pure hM rfl ?_ | (refine go_get (fs := ?_) (v := ?_) hM rfl ?_ ?_ ?_; rotate_left 2; assumption; rfl) | refine go_ldc hM rfl ?_)
        refine go_aaldS (r := oA (aWy A t k)) hM rfl k2 rfl (by omega) (by omega) (by omega) (by rw [e1]; exact if_pos (by omega)) ?_
        repeat (first | refine go_pure hM rfl ?_ | (refine go_get (fs := ?_) (v := ?_) hM rfl ?_ ?_ ?_; rotate_left 2; assumption; rfl) | refine go_ldc hM rfl ?_)
        refine go_cV hM rfl rfl rfl (hp_nd w1) rfl (p_firstAt ok w1 (by omega)) rfl ?_
        refine go_iret hM rfl rfl ⟨?_, rfl, rfl⟩
        rw [← h2]
        show _ = some (vI (if 0 ≤ aPl A t k + 1 ∧ aPl A t k + 1 < aEn A (aWy A t k) then gWd (aWf A (aWy A t k)) (aEn A (aWy A t k)) (aPl A t k + 1) 0 else nf A t k))
        rw [if_pos hc]
      · rw [if_neg hc] at q
        refine go_cV hM rfl rfl rfl (hp_nd w1) rfl q rfl ?_
        refine go_if_eq hM rfl (by omega) (fun hc2 => ?_) (fun hc2 => absurd rfl hc2)
        refine go_pure hM rfl ?_
        have e2 : (k : Int) + (-1) = (k : Int) - 1 := by omega
        rw [e2]
        have h3 : nf A t k = nf A t (l + 1) := by
          rw [← h2]
          show _ = if 0 ≤ aPl A t k + 1 ∧ aPl A t k + 1 < aEn A (aWy A t k) then gWd (aWf A (aWy A t k)) (aEn A (aWy A t k)) (aPl A t k + 1) 0 else nf A t k
          rw [if_neg hc]
        repeat (first | exact ih _ (by omega) h3 | refine go_pure hM rfl ?_ | (refine go_get (fs := ?_) (v := ?_) hM rfl ?_ ?_ ?_; rotate_left 2; assumption; rfl) | refine go_ldc hM rfl ?_)
  have e0 : ((l + 1 : Nat) : Int) - 1 = l := by omega
  have l0 := loop (l + 1) none (by omega) rfl
  rw [e0] at l0
  refine go_pure hM rfl ?_
  refine go_get hM rfl k1 rfl ?_
  rw [hl]
  repeat (first | exact l0 | refine go_pure hM rfl ?_ | (refine go_get (fs := ?_) (v := ?_) hM rfl ?_ ?_ ?_; rotate_left 2; assumption; rfl) | refine go_ldc hM rfl ?_)
theorem c_hasAny {x n : Int} (ok : aOk A) (ht : t < 4) (hx : 0 ≤ x ∧ x ≤ 65536) (hn : 0 ≤ n ∧ n ≤ 65536) (hp : PathTo A t (x + n - 1) d W P) : Rd G m_Tree_hasAny [vR (517 + 6 * t), vI x, vI n] N (hpx A h0) (some (vI (if x < eF A (W d) (P d) + eL A (W d) (P d) then 1 else 0))) N (hpx (fnd A t W P (d + 1) d) h0) := by
  refine Rn.of rfl rfl rfl ?_
  have hM := ok_Tree_hasAny
  obtain ⟨a1, a2, a3, a4⟩ := hp.at ok
  have r9 := e_r ok (hp.2.2.1 d (Nat.le_refl d)).1 (P d)
  repeat (first | refine go_pure hM rfl ?_ | (refine go_get (fs := ?_) (v := ?_) hM rfl ?_ ?_ ?_; rotate_left 2; assumption; rfl) | refine go_ldc hM rfl ?_)
  refine go_cV hM rfl rfl rfl (hp_tr ht) rfl (c_find ok ht (by omega) hp) rfl ?_
  repeat (first | refine go_pure hM rfl ?_ | (refine go_get (fs := ?_) (v := ?_) hM rfl ?_ ?_ ?_; rotate_left 2; assumption; rfl) | refine go_ldc hM rfl ?_)
  refine go_cV hM rfl rfl rfl (hp_tr ht) rfl (c_runEnd (A := fnd A t W P (d + 1) d) ok ht a1 a2 a3 a4) rfl ?_
  rw [fnd_rF, fnd_rL]
  repeat (first | refine go_pure hM rfl ?_ | (refine go_get (fs := ?_) (v := ?_) hM rfl ?_ ?_ ?_; rotate_left 2; assumption; rfl) | refine go_ldc hM rfl ?_)
  refine go_icmp_le hM rfl (by omega) (by omega) (fun hc => ?_) (fun hc => ?_)
  · repeat (first | refine go_pure hM rfl ?_ | (refine go_get (fs := ?_) (v := ?_) hM rfl ?_ ?_ ?_; rotate_left 2; assumption; rfl) | refine go_ldc hM rfl ?_)
    exact go_zret hM rfl rfl (Or.inl rfl) ⟨by rw [if_neg (by omega)], rfl, rfl⟩
  · repeat (first | refine go_pure hM rfl ?_ | (refine go_get (fs := ?_) (v := ?_) hM rfl ?_ ?_ ?_; rotate_left 2; assumption; rfl) | refine go_ldc hM rfl ?_)
    exact go_zret hM rfl rfl (Or.inr rfl) ⟨by rw [if_pos (by omega)], rfl, rfl⟩
theorem c_hasUnwritten {x n : Int} (ok : aOk A) (ht : t < 4) (hx : 0 ≤ x ∧ x ≤ 65536) (hn : 0 ≤ n ∧ n ≤ 65536) (hp : PathTo A t x d W P) : Rd G m_Tree_hasUnwritten [vR (517 + 6 * t), vI x, vI n] N (hpx A h0) (some (vI (if x + n ≤ eF A (W d) (P d) + eL A (W d) (P d) ∧ eW A (W d) (P d) = 0 then 1 else 0))) N (hpx (fnd A t W P (d + 1) d) h0) := by
  refine Rn.of rfl rfl rfl ?_
  have hM := ok_Tree_hasUnwritten
  obtain ⟨a1, a2, a3, a4⟩ := hp.at ok
  have r9 := e_r ok (hp.2.2.1 d (Nat.le_refl d)).1 (P d)
  repeat (first | refine go_pure hM rfl ?_ | (refine go_get (fs := ?_) (v := ?_) hM rfl ?_ ?_ ?_; rotate_left 2; assumption; rfl) | refine go_ldc hM rfl ?_)
  refine go_cV hM rfl rfl rfl (hp_tr ht) rfl (c_find ok ht (by omega) hp) rfl ?_
  repeat (first | refine go_pure hM rfl ?_ | (refine go_get (fs := ?_) (v := ?_) hM rfl ?_ ?_ ?_; rotate_left 2; assumption; rfl) | refine go_ldc hM rfl ?_)
  refine go_cV hM rfl rfl rfl (hp_tr ht) rfl (c_runEnd (A := fnd A t W P (d + 1) d) ok ht a1 a2 a3 a4) rfl ?_
  rw [fnd_rF, fnd_rL]
  repeat (first | refine go_pure hM rfl ?_ | (refine go_get (fs := ?_) (v := ?_) hM rfl ?_ ?_ ?_; rotate_left 2; assumption; rfl) | refine go_ldc hM rfl ?_)
  refine go_icmp_lt hM rfl (by omega) (by omega) (fun hc => ?_) (fun hc => ?_)
  · repeat (first | refine go_pure hM rfl ?_ | (refine go_get (fs := ?_) (v := ?_) hM rfl ?_ ?_ ?_; rotate_left 2; assumption; rfl) | refine go_ldc hM rfl ?_)
    exact go_zret hM rfl rfl (Or.inl rfl) ⟨by rw [if_neg (by omega)], rfl, rfl⟩
  · repeat (first | refine go_pure hM rfl ?_ | (refine go_get (fs := ?_) (v := ?_) hM rfl ?_ ?_ ?_; rotate_left 2; assumption; rfl) | refine go_ldc hM rfl ?_)
    refine go_cV hM rfl rfl rfl (hp_tr ht) rfl (c_runIsWritten (A := fnd A t W P (d + 1) d) ok ht a1 a2 a3 a4) rfl ?_
    rw [fnd_rW]
    refine go_if_ne hM rfl (by omega) (fun hc2 => ?_) (fun hc2 => ?_)
    · repeat (first | refine go_pure hM rfl ?_ | (refine go_get (fs := ?_) (v := ?_) hM rfl ?_ ?_ ?_; rotate_left 2; assumption; rfl) | refine go_ldc hM rfl ?_)
      exact go_zret hM rfl rfl (Or.inl rfl) ⟨by rw [if_neg (by omega)], rfl, rfl⟩
    · repeat (first | refine go_pure hM rfl ?_ | (refine go_get (fs := ?_) (v := ?_) hM rfl ?_ ?_ ?_; rotate_left 2; assumption; rfl) | refine go_ldc hM rfl ?_)
      exact go_zret hM rfl rfl (Or.inr rfl) ⟨by rw [if_pos (by omega)], rfl, rfl⟩
theorem c_volumeOf (ok : aOk A) (ht : t < 4) (hb : 0 ≤ b ∧ b ≤ 65536) (hp : PathTo A t b d W P) : Rd G m_Tree_volumeOf [vR (517 + 6 * t), vI b] N (hpx A h0) (some (vI (if b < eF A (W d) (P d) + eL A (W d) (P d) then eV A (W d) (P d) + (b - eF A (W d) (P d)) else -1))) N (hpx (fnd A t W P (d + 1) d) h0) := by
  refine Rn.of rfl rfl rfl ?_
  have hM := ok_Tree_volumeOf
  obtain ⟨a1, a2, a3, a4⟩ := hp.at ok
  have r9 := e_r ok (hp.2.2.1 d (Nat.le_refl d)).1 (P d)
  repeat (first | refine go_pure hM rfl ?_ | (refine go_get (fs := ?_) (v := ?_) hM rfl ?_ ?_ ?_; rotate_left 2; assumption; rfl) | refine go_ldc hM rfl ?_)
  refine go_cV hM rfl rfl rfl (hp_tr ht) rfl (c_find ok ht (by omega) hp) rfl ?_
  repeat (first | refine go_pure hM rfl ?_ | (refine go_get (fs := ?_) (v := ?_) hM rfl ?_ ?_ ?_; rotate_left 2; assumption; rfl) | refine go_ldc hM rfl ?_)
  refine go_cV hM rfl rfl rfl (hp_tr ht) rfl (c_runEnd (A := fnd A t W P (d + 1) d) ok ht a1 a2 a3 a4) rfl ?_
  rw [fnd_rF, fnd_rL]
  repeat (first | refine go_pure hM rfl ?_ | (refine go_get (fs := ?_) (v := ?_) hM rfl ?_ ?_ ?_; rotate_left 2; assumption; rfl) | refine go_ldc hM rfl ?_)
  refine go_icmp_le hM rfl (by omega) (by omega) (fun hc => ?_) (fun hc => ?_)
  · repeat (first | refine go_pure hM rfl ?_ | (refine go_get (fs := ?_) (v := ?_) hM rfl ?_ ?_ ?_; rotate_left 2; assumption; rfl) | refine go_ldc hM rfl ?_)
    exact go_iret hM rfl rfl ⟨by rw [if_neg (by omega)], rfl, rfl⟩
  · repeat (first | refine go_pure hM rfl ?_ | (refine go_get (fs := ?_) (v := ?_) hM rfl ?_ ?_ ?_; rotate_left 2; assumption; rfl) | refine go_ldc hM rfl ?_)
    refine go_cV hM rfl rfl rfl (hp_tr ht) rfl (c_runVolume (A := fnd A t W P (d + 1) d) ok ht a1 a2 a3 a4) rfl ?_
    repeat (first | refine go_pure hM rfl ?_ | (refine go_get (fs := ?_) (v := ?_) hM rfl ?_ ?_ ?_; rotate_left 2; assumption; rfl) | refine go_ldc hM rfl ?_)
    refine go_cV hM rfl rfl rfl (hp_tr ht) rfl (c_runFirst (A := fnd A t W P (d + 1) d) ok ht a1 a2 a3 a4) rfl ?_
    rw [fnd_rF, fnd_rV]
    repeat (first | refine go_pure hM rfl ?_ | (refine go_get (fs := ?_) (v := ?_) hM rfl ?_ ?_ ?_; rotate_left 2; assumption; rfl) | refine go_ldc hM rfl ?_)
    exact go_iret hM rfl rfl ⟨by rw [if_pos (by omega)], rfl, rfl⟩
theorem c_isWritten (ok : aOk A) (ht : t < 4) (hb : 0 ≤ b ∧ b ≤ 65536) (hp : PathTo A t b d W P) : Rd G m_Tree_isWritten [vR (517 + 6 * t), vI b] N (hpx A h0) (some (vI (if b < eF A (W d) (P d) + eL A (W d) (P d) ∧ eW A (W d) (P d) = 1 then 1 else 0))) N (hpx (fnd A t W P (d + 1) d) h0) := by
  refine Rn.of rfl rfl rfl ?_
  have hM := ok_Tree_isWritten
  obtain ⟨a1, a2, a3, a4⟩ := hp.at ok
  have r9 := e_r ok (hp.2.2.1 d (Nat.le_refl d)).1 (P d)
  repeat (first | refine go_pure hM rfl ?_ | (refine go_get (fs := ?_) (v := ?_) hM rfl ?_ ?_ ?_; rotate_left 2; assumption; rfl) | refine go_ldc hM rfl ?_)
  refine go_cV hM rfl rfl rfl (hp_tr ht) rfl (c_find ok ht (by omega) hp) rfl ?_
  repeat (first | refine go_pure hM rfl ?_ | (refine go_get (fs := ?_) (v := ?_) hM rfl ?_ ?_ ?_; rotate_left 2; assumption; rfl) | refine go_ldc hM rfl ?_)
  refine go_cV hM rfl rfl rfl (hp_tr ht) rfl (c_runEnd (A := fnd A t W P (d + 1) d) ok ht a1 a2 a3 a4) rfl ?_
  rw [fnd_rF, fnd_rL]
  repeat (first | refine go_pure hM rfl ?_ | (refine go_get (fs := ?_) (v := ?_) hM rfl ?_ ?_ ?_; rotate_left 2; assumption; rfl) | refine go_ldc hM rfl ?_)
  refine go_icmp_le hM rfl (by omega) (by omega) (fun hc => ?_) (fun hc => ?_)
  · repeat (first | refine go_pure hM rfl ?_ | (refine go_get (fs := ?_) (v := ?_) hM rfl ?_ ?_ ?_; rotate_left 2; assumption; rfl) | refine go_ldc hM rfl ?_)
    exact go_zret hM rfl rfl (Or.inl rfl) ⟨by rw [if_neg (by omega)], rfl, rfl⟩
  · repeat (first | refine go_pure hM rfl ?_ | (refine go_get (fs := ?_) (v := ?_) hM rfl ?_ ?_ ?_; rotate_left 2; assumption; rfl) | refine go_ldc hM rfl ?_)
    refine go_cV hM rfl rfl rfl (hp_tr ht) rfl (c_runIsWritten (A := fnd A t W P (d + 1) d) ok ht a1 a2 a3 a4) rfl ?_
    rw [fnd_rW]
    refine go_if_eq hM rfl (by omega) (fun hc2 => ?_) (fun hc2 => ?_)
    · repeat (first | refine go_pure hM rfl ?_ | (refine go_get (fs := ?_) (v := ?_) hM rfl ?_ ?_ ?_; rotate_left 2; assumption; rfl) | refine go_ldc hM rfl ?_)
      exact go_zret hM rfl rfl (Or.inl rfl) ⟨by rw [if_neg (by omega)], rfl, rfl⟩
    · repeat (first | refine go_pure hM rfl ?_ | (refine go_get (fs := ?_) (v := ?_) hM rfl ?_ ?_ ?_; rotate_left 2; assumption; rfl) | refine go_ldc hM rfl ?_)
      exact go_zret hM rfl rfl (Or.inr rfl) ⟨by rw [if_pos (by omega)], rfl, rfl⟩
theorem c_alikeFrom (ok : aOk A) (ht : t < 4) (hb : 0 ≤ b ∧ b ≤ 65536) (hp : PathTo A t b d W P) : Rd G m_Tree_alikeFrom [vR (517 + 6 * t), vI b] N (hpx A h0) (some (vI ((if b < eF A (W d) (P d) + eL A (W d) (P d) then eF A (W d) (P d) + eL A (W d) (P d) else nf (fnd A t W P (d + 1) d) t (d + 1)) - b))) N (hpx (fnd A t W P (d + 1) d) h0) := by
  refine Rn.of rfl rfl rfl ?_
  have hM := ok_Tree_alikeFrom
  obtain ⟨a1, a2, a3, a4⟩ := hp.at ok
  have r9 := e_r ok (hp.2.2.1 d (Nat.le_refl d)).1 (P d)
  repeat (first | refine go_pure hM rfl ?_ | (refine go_get (fs := ?_) (v := ?_) hM rfl ?_ ?_ ?_; rotate_left 2; assumption; rfl) | refine go_ldc hM rfl ?_)
  refine go_cV hM rfl rfl rfl (hp_tr ht) rfl (c_find ok ht (by omega) hp) rfl ?_
  repeat (first | refine go_pure hM rfl ?_ | (refine go_get (fs := ?_) (v := ?_) hM rfl ?_ ?_ ?_; rotate_left 2; assumption; rfl) | refine go_ldc hM rfl ?_)
  refine go_cV hM rfl rfl rfl (hp_tr ht) rfl (c_runEnd (A := fnd A t W P (d + 1) d) ok ht a1 a2 a3 a4) rfl ?_
  rw [fnd_rF, fnd_rL]
  repeat (first | refine go_pure hM rfl ?_ | (refine go_get (fs := ?_) (v := ?_) hM rfl ?_ ?_ ?_; rotate_left 2; assumption; rfl) | refine go_ldc hM rfl ?_)
  refine go_icmp_le hM rfl (by omega) (by omega) (fun hc => ?_) (fun hc => ?_)
  · repeat (first | refine go_pure hM rfl ?_ | (refine go_get (fs := ?_) (v := ?_) hM rfl ?_ ?_ ?_; rotate_left 2; assumption; rfl) | refine go_ldc hM rfl ?_)
    refine go_cV hM rfl rfl rfl (hp_tr ht) rfl (c_nextFirst (A := fnd A t W P (d + 1) d) ok ht a1 a2 (fun k hk => ?_)) rfl ?_
    · have h3 := hp.pr ok hk
      rw [fnd_wy hk, fnd_pl hk]
      exact ⟨(hp.2.2.1 k hk).1, by omega⟩
    repeat (first | refine go_pure hM rfl ?_ | (refine go_get (fs := ?_) (v := ?_) hM rfl ?_ ?_ ?_; rotate_left 2; assumption; rfl) | refine go_ldc hM rfl ?_)
    exact go_iret hM rfl rfl ⟨by rw [if_neg (by omega)], rfl, rfl⟩
  · repeat (first | refine go_pure hM rfl ?_ | (refine go_get (fs := ?_) (v := ?_) hM rfl ?_ ?_ ?_; rotate_left 2; assumption; rfl) | refine go_ldc hM rfl ?_)
    refine go_cV hM rfl rfl rfl (hp_tr ht) rfl (c_runEnd (A := fnd A t W P (d + 1) d) ok ht a1 a2 a3 a4) rfl ?_
    rw [fnd_rF, fnd_rL]
    repeat (first | refine go_pure hM rfl ?_ | (refine go_get (fs := ?_) (v := ?_) hM rfl ?_ ?_ ?_; rotate_left 2; assumption; rfl) | refine go_ldc hM rfl ?_)
    exact go_iret hM rfl rfl ⟨by rw [if_pos (by omega)], rfl, rfl⟩
end
