/-! .. behind it -/
section
variable {G : gG} {N : Option Nat} {A : cA} {h0 : gH} {t d : Nat} {W : Nat → Nat} {P : Nat → Int} {x n v w b : Int}
def jnA (f l u z x n v w b : Int) : Int := if ((0 < l ∧ f = x + n) ∧ u = v + n) ∧ z = w ∧ b + n + l ≤ (if w = 1 then 32768 else 32767) then l else 0
set_option maxHeartbeats 4000000 in
theorem c_joinBehind (ok : aOk A) (ht : t < 4) (hx : 0 ≤ x ∧ x ≤ 65536) (hn : 0 ≤ n ∧ n ≤ 65536) (hv : 0 ≤ v ∧ v ≤ 16777216) (hw : w = 0 ∨ w = 1) (hb : 0 ≤ b ∧ b ≤ 65536) (hp : PathTo A t (x + n) d W P) : Rd G m_Tree_lengthToJoinBehind [vR (517 + 6 * t), vI x, vI n, vI v, vI w, vI b] N (hpx A h0) (some (vI (jnA (eF A (W d) (P d)) (eL A (W d) (P d)) (eV A (W d) (P d)) (eW A (W d) (P d)) x n v w b))) N (hpx (fnd A t W P (d + 1) d) h0) := by
  refine Rn.of rfl rfl rfl ?_
  have hM := ok_Tree_lengthToJoinBehind
  obtain ⟨a1, a2, a3, a4⟩ := hp.at ok
  have r9 := e_r ok (hp.2.2.1 d (Nat.le_refl d)).1 (P d)
  repeat (first | refine go_pure hM rfl ?_ | (refine go_get (fs := ?_) (v := ?_) hM rfl ?_ ?_ ?_; rotate_left 2; assumption; rfl) | refine go_ldc hM rfl ?_)
  refine go_cV hM rfl rfl rfl (hp_tr ht) rfl (c_find ok ht (by omega) hp) rfl ?_
  repeat (first | refine go_pure hM rfl ?_ | (refine go_get (fs := ?_) (v := ?_) hM rfl ?_ ?_ ?_; rotate_left 2; assumption; rfl) | refine go_ldc hM rfl ?_)
  refine go_cV hM rfl rfl rfl (hp_tr ht) rfl (c_runLength (A := fnd A t W P (d + 1) d) ok ht a1 a2 a3 a4) rfl ?_
  rw [fnd_rL]
  generalize hf : eF A (W d) (P d) = f at *
  generalize hl : eL A (W d) (P d) = l at *
  generalize hu : eV A (W d) (P d) = u at *
  generalize hz : eW A (W d) (P d) = z at *
  have no : ¬ ((0 < l ∧ f = x + n) ∧ u = v + n) → ∀ y, Go G m_Tree_lengthToJoinBehind (gFin G (gEq (some (vI (jnA f l u z x n v w b))) N (hpx (fnd A t W P (d + 1) d) h0)) gNo) 42 [some (vR (517 + 6 * t)), some (vI x), some (vI n), some (vI v), some (vI w), some (vI b), some (vI l), y] [] N (hpx (fnd A t W P (d + 1) d) h0) 0 0 := by
    intro hno y
    repeat (first | refine go_pure hM rfl ?_ | (refine go_get (fs := ?_) (v := ?_) hM rfl ?_ ?_ ?_; rotate_left 2; assumption; rfl) | refine go_ldc hM rfl ?_)
    refine go_if_eq hM rfl (by omega) (fun hc2 => ?_) (fun hc2 => absurd rfl hc2)
    repeat (first | refine go_pure hM rfl ?_ | (refine go_get (fs := ?_) (v := ?_) hM rfl ?_ ?_ ?_; rotate_left 2; assumption; rfl) | refine go_ldc hM rfl ?_)
    exact go_iret hM rfl rfl ⟨by unfold jnA; rw [if_neg (fun q => hno q.1)], rfl, rfl⟩
  repeat (first | refine go_pure hM rfl ?_ | (refine go_get (fs := ?_) (v := ?_) hM rfl ?_ ?_ ?_; rotate_left 2; assumption; rfl) | refine go_ldc hM rfl ?_)
  refine go_if_le hM rfl (by omega) (fun hc => no (by omega) _) (fun hc => ?_)
  repeat (first | refine go_pure hM rfl ?_ | (refine go_get (fs := ?_) (v := ?_) hM rfl ?_ ?_ ?_; rotate_left 2; assumption; rfl) | refine go_ldc hM rfl ?_)
  refine go_cV hM rfl rfl rfl (hp_tr ht) rfl (c_runFirst (A := fnd A t W P (d + 1) d) ok ht a1 a2 a3 a4) rfl ?_
  rw [fnd_rF, hf]
  repeat (first | refine go_pure hM rfl ?_ | (refine go_get (fs := ?_) (v := ?_) hM rfl ?_ ?_ ?_; rotate_left 2; assumption; rfl) | refine go_ldc hM rfl ?_)
  refine go_icmp_ne hM rfl (by omega) (by omega) (fun hc2 => no (by omega) _) (fun hc2 => ?_)
  repeat (first | refine go_pure hM rfl ?_ | (refine go_get (fs := ?_) (v := ?_) hM rfl ?_ ?_ ?_; rotate_left 2; assumption; rfl) | refine go_ldc hM rfl ?_)
  refine go_cV hM rfl rfl rfl (hp_tr ht) rfl (c_runVolume (A := fnd A t W P (d + 1) d) ok ht a1 a2 a3 a4) rfl ?_
  rw [fnd_rV, hu]
  repeat (first | refine go_pure hM rfl ?_ | (refine go_get (fs := ?_) (v := ?_) hM rfl ?_ ?_ ?_; rotate_left 2; assumption; rfl) | refine go_ldc hM rfl ?_)
  refine go_icmp_ne hM rfl (by omega) (by omega) (fun hc3 => no (by omega) _) (fun hc3 => ?_)
  repeat (first | refine go_pure hM rfl ?_ | (refine go_get (fs := ?_) (v := ?_) hM rfl ?_ ?_ ?_; rotate_left 2; assumption; rfl) | refine go_ldc hM rfl ?_)
  refine go_if_eq hM rfl (by omega) (fun hc4 => by omega) (fun hc4 => ?_)
  have nol : ¬ (z = w ∧ b + n + l ≤ (if w = 1 then 32768 else 32767)) → ∀ y, Go G m_Tree_lengthToJoinBehind (gFin G (gEq (some (vI (jnA f l u z x n v w b))) N (hpx (fnd A t W P (d + 1) d) h0)) gNo) 79 [some (vR (517 + 6 * t)), some (vI x), some (vI n), some (vI v), some (vI w), some (vI b), some (vI l), y] [] N (hpx (fnd A t W P (d + 1) d) h0) 0 0 := by
    intro hno y
    repeat (first | refine go_pure hM rfl ?_ | (refine go_get (fs := ?_) (v := ?_) hM rfl ?_ ?_ ?_; rotate_left 2; assumption; rfl) | refine go_ldc hM rfl ?_)
    exact go_iret hM rfl rfl ⟨by unfold jnA; rw [if_neg (fun q => hno q.2)], rfl, rfl⟩
  repeat (first | refine go_pure hM rfl ?_ | (refine go_get (fs := ?_) (v := ?_) hM rfl ?_ ?_ ?_; rotate_left 2; assumption; rfl) | refine go_ldc hM rfl ?_)
  refine go_cV hM rfl rfl rfl (hp_tr ht) rfl (c_runIsWritten (A := fnd A t W P (d + 1) d) ok ht a1 a2 a3 a4) rfl ?_
  rw [fnd_rW, hz]
  repeat (first | refine go_pure hM rfl ?_ | (refine go_get (fs := ?_) (v := ?_) hM rfl ?_ ?_ ?_; rotate_left 2; assumption; rfl) | refine go_ldc hM rfl ?_)
  refine go_icmp_ne hM rfl (by omega) (by omega) (fun hc5 => nol (by omega) _) (fun hc5 => ?_)
  repeat (first | refine go_pure hM rfl ?_ | (refine go_get (fs := ?_) (v := ?_) hM rfl ?_ ?_ ?_; rotate_left 2; assumption; rfl) | refine go_ldc hM rfl ?_)
  refine go_cN hM rfl rfl rfl (c_longest hw) rfl ?_
  refine go_icmp_gt hM rfl (by omega) (by split <;> omega) (fun hc6 => nol (by omega) _) (fun hc6 => ?_)
  repeat (first | refine go_pure hM rfl ?_ | (refine go_get (fs := ?_) (v := ?_) hM rfl ?_ ?_ ?_; rotate_left 2; assumption; rfl) | refine go_ldc hM rfl ?_)
  exact go_iret hM rfl rfl ⟨by unfold jnA; rw [if_pos ⟨⟨⟨by omega, by omega⟩, by omega⟩, by omega, by omega⟩], rfl, rfl⟩
end
