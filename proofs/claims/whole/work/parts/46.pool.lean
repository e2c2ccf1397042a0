/-! Pool -/
theorem go_aaldS {G : gG} {M : gM} {F : gK → State → Prop} {pc : Nat} {lv : List (Option gV)} {st : List gV} {N : Option Nat} {h : gH} {c s : Nat} {pc0 nx k j : Nat} {z : Int} {a n ty r : Nat} {C : String} {i : Int} {f : Nat → Option Nat} (hM : gOk M) (hi : gAt (mT M) pc = some (pc0, .aaload, nx, z, k, j)) (hh : h a = some (.inl (ty, n, .inr (.inr f)))) (hty : gTy[ty]? = some (.object C)) (h0 : 0 ≤ i) (h1 : i < n) (hn : n ≤ 2147483647) (hf : f i.toNat = some r) (kk : Go G M F nx lv (vR r :: st) N h c s) : Go G M F pc lv (vI i :: vR a :: st) N h c s :=
  go_aald hM hi hh hty h0 h1 hn (by rw [hf]; exact kk)
section
variable {G : gG} {N : Option Nat} {A : cA} {h0 : gH}
theorem c_Pool_node {b : Int} (hb : 0 ≤ b ∧ b < 256) : Rd G m_Pool_node [vR 2, vI b] N (hpx A h0) (some (vR (oA b.toNat))) N (hpx A h0) := by
  refine Rn.of rfl rfl rfl ?_
  have hM := ok_Pool_node
  have k1 := hp_po (A := A) (h0 := h0)
  have k2 := hp_ns (A := A) (h0 := h0)
  repeat (first | refine go_pure hM rfl ?_ | (refine go_get (fs := ?_) (v := ?_) hM rfl ?_ ?_ ?_; rotate_left 2; assumption; rfl) | refine go_ldc hM rfl ?_)
  refine go_if_lt hM rfl (by omega) (fun hc => absurd hc (by omega)) (fun hc => ?_)
  repeat (first | refine go_pure hM rfl ?_ | (refine go_get (fs := ?_) (v := ?_) hM rfl ?_ ?_ ?_; rotate_left 2; assumption; rfl) | refine go_ldc hM rfl ?_)
  refine go_icmp_ge hM rfl (by omega) (by omega) (fun hc => absurd hc (by omega)) (fun hc => ?_)
  repeat (first | refine go_pure hM rfl ?_ | (refine go_get (fs := ?_) (v := ?_) hM rfl ?_ ?_ ?_; rotate_left 2; assumption; rfl) | refine go_ldc hM rfl ?_)
  refine go_aaldS hM rfl k2 rfl (by omega) (by omega) (by omega) (if_pos (by omega)) ?_
  repeat (first | refine go_pure hM rfl ?_ | (refine go_get (fs := ?_) (v := ?_) hM rfl ?_ ?_ ?_; rotate_left 2; assumption; rfl) | refine go_ldc hM rfl ?_)
  exact go_aret hM rfl rfl ⟨rfl, rfl, rfl⟩
theorem c_Pool_node_out {b : Int} (rb : (-2147483648 ≤ b ∧ b ≤ 2147483647)) (hb : ¬ (0 ≤ b ∧ b < 256)) : Rd G m_Pool_node [vR 2, vI b] N (hpx A h0) (some (vR (oA 0))) N (hpx A h0) := by
  refine Rn.of rfl rfl rfl ?_
  have hM := ok_Pool_node
  have k1 := hp_po (A := A) (h0 := h0)
  have k2 := hp_ns (A := A) (h0 := h0)
  repeat (first | refine go_pure hM rfl ?_ | (refine go_get (fs := ?_) (v := ?_) hM rfl ?_ ?_ ?_; rotate_left 2; assumption; rfl) | refine go_ldc hM rfl ?_)
  refine go_if_lt hM rfl rb (fun hc => ?_) (fun hc => ?_)
  · repeat (first | refine go_pure hM rfl ?_ | (refine go_get (fs := ?_) (v := ?_) hM rfl ?_ ?_ ?_; rotate_left 2; assumption; rfl) | refine go_ldc hM rfl ?_)
    refine go_aaldS hM rfl k2 rfl (by omega) (by omega) (by omega) (if_pos (by decide)) ?_
    exact go_aret hM rfl rfl ⟨rfl, rfl, rfl⟩
  · repeat (first | refine go_pure hM rfl ?_ | (refine go_get (fs := ?_) (v := ?_) hM rfl ?_ ?_ ?_; rotate_left 2; assumption; rfl) | refine go_ldc hM rfl ?_)
    refine go_icmp_ge hM rfl rb (by omega) (fun hc => ?_) (fun hc => absurd hb (by omega))
    repeat (first | refine go_pure hM rfl ?_ | (refine go_get (fs := ?_) (v := ?_) hM rfl ?_ ?_ ?_; rotate_left 2; assumption; rfl) | refine go_ldc hM rfl ?_)
    refine go_aaldS hM rfl k2 rfl (by omega) (by omega) (by omega) (if_pos (by decide)) ?_
    exact go_aret hM rfl rfl ⟨rfl, rfl, rfl⟩
theorem c_isTaken {b : Int} (hb : 0 ≤ b ∧ b < 256) (ht : aTk A b.toNat = 0 ∨ aTk A b.toNat = 1) : Rd G m_Pool_isTaken [vR 2, vI b] N (hpx A h0) (some (vI (aTk A b.toNat))) N (hpx A h0) := by
  refine Rn.of rfl rfl rfl ?_
  have hM := ok_Pool_isTaken
  have k1 := hp_po (A := A) (h0 := h0)
  have k3 := hp_nd (A := A) (h0 := h0) (i := b.toNat) (by omega)
  repeat (first | refine go_pure hM rfl ?_ | (refine go_get (fs := ?_) (v := ?_) hM rfl ?_ ?_ ?_; rotate_left 2; assumption; rfl) | refine go_ldc hM rfl ?_)
  refine go_cV hM rfl rfl rfl k1 rfl (c_Pool_node hb) rfl ?_
  refine go_get hM rfl k3 rfl ?_
  exact go_zret hM rfl rfl ht ⟨rfl, rfl, rfl⟩
theorem c_isTaken_out {b : Int} (rb : (-2147483648 ≤ b ∧ b ≤ 2147483647)) (hb : ¬ (0 ≤ b ∧ b < 256)) (ht : aTk A 0 = 0) : Rd G m_Pool_isTaken [vR 2, vI b] N (hpx A h0) (some (vI 0)) N (hpx A h0) := by
  refine Rn.of rfl rfl rfl ?_
  have hM := ok_Pool_isTaken
  have k1 := hp_po (A := A) (h0 := h0)
  have k3 := hp_nd (A := A) (h0 := h0) (i := 0) (by omega)
  repeat (first | refine go_pure hM rfl ?_ | (refine go_get (fs := ?_) (v := ?_) hM rfl ?_ ?_ ?_; rotate_left 2; assumption; rfl) | refine go_ldc hM rfl ?_)
  refine go_cV hM rfl rfl rfl k1 rfl (c_Pool_node_out rb hb) rfl ?_
  refine go_get hM rfl k3 rfl ?_
  exact go_zret hM rfl rfl (Or.inl ht) ⟨by rw [ht], rfl, rfl⟩
set_option maxHeartbeats 1000000 in
theorem c_takeLeast {b : Nat} (hb : 1 ≤ b ∧ b < 256) (h1 : aTk A b = 0) (h2 : ∀ j, 1 ≤ j → j < b → aTk A j = 1) : Rd G m_Pool_takeLeast [vR 2] N (hpx A h0) (some (vR (oA b))) N (hpx (sLe (sNd A b 1 (aDp A b) (aEn A b)) (aLe A - 1)) h0) := by
  refine Rn.of rfl rfl rfl ?_
  have hM := ok_Pool_takeLeast
  have k1 := hp_po (A := A) (h0 := h0)
  have k2 := hp_ns (A := A) (h0 := h0)
  have loop : ∀ (n j : Nat) (x : Option gV), b - j < n → 1 ≤ j → j ≤ b → Go G m_Pool_takeLeast (gFin G (gEq (some (vR (oA b))) N (hpx (sLe (sNd A b 1 (aDp A b) (aEn A b)) (aLe A - 1)) h0)) gNo) 2 [some (vR 2), some (vI j), x] [] N (hpx A h0) 0 0 := by
    intro n
    induction n with
    | zero => intro j x h3; omega
    | succ n ih =>
      intro j x h3 h4 h5
      have k3 := hp_nd (A := A) (h0 := h0) (i := j) (by omega)
      repeat (first | refine go_pure hM rfl ?_ | (refine go_get (fs := ?_) (v := ?_) hM rfl ?_ ?_ ?_; rotate_left 2; assumption; rfl) | refine go_ldc hM rfl ?_)
      refine go_icmp_ge hM rfl (by omega) (by omega) (fun hc => absurd hc (by omega)) (fun hc => ?_)
      repeat (first | refine go_pure hM rfl ?_ | (refine go_get (fs := ?_) (v := ?_) hM rfl ?_ ?_ ?_; rotate_left 2; assumption; rfl) | refine go_ldc hM rfl ?_)
      refine go_aaldS (r := oA j) hM rfl k2 rfl (by omega) (by omega) (by omega) (by show (if ((j : Int)).toNat < 256 then some (oA (j : Int).toNat) else none) = _; rw [if_pos (by omega)]; rfl) ?_
      repeat (first | refine go_pure hM rfl ?_ | (refine go_get (fs := ?_) (v := ?_) hM rfl ?_ ?_ ?_; rotate_left 2; assumption; rfl) | refine go_ldc hM rfl ?_)
      by_cases h6 : j = b
      · subst h6
        rw [h1]
        refine go_if_ne hM rfl (by omega) (fun hc => absurd rfl hc) (fun hc => ?_)
        repeat (first | refine go_pure hM rfl ?_ | (refine go_get (fs := ?_) (v := ?_) hM rfl ?_ ?_ ?_; rotate_left 2; assumption; rfl) | refine go_ldc hM rfl ?_)
        refine go_put hM rfl k3 rfl rfl ?_
        rw [up_nd (by omega)]
        have k4 := hp_po (A := sNd A j 1 (aDp A j) (aEn A j)) (h0 := h0)
        repeat (first | refine go_pure hM rfl ?_ | (refine go_get (fs := ?_) (v := ?_) hM rfl ?_ ?_ ?_; rotate_left 2; assumption; rfl) | refine go_ldc hM rfl ?_)
        refine go_put hM rfl k4 rfl rfl ?_
        rw [up_po]
        repeat (first | refine go_pure hM rfl ?_ | (refine go_get (fs := ?_) (v := ?_) hM rfl ?_ ?_ ?_; rotate_left 2; assumption; rfl) | refine go_ldc hM rfl ?_)
        exact go_aret hM rfl rfl ⟨rfl, rfl, rfl⟩
      · rw [h2 j h4 (by omega)]
        refine go_if_ne hM rfl (by omega) (fun hc => ?_) (fun hc => absurd hc (by omega))
        repeat (first | exact ih (j + 1) _ (by omega) (by omega) (by omega) | refine go_pure hM rfl ?_ | (refine go_get (fs := ?_) (v := ?_) hM rfl ?_ ?_ ?_; rotate_left 2; assumption; rfl) | refine go_ldc hM rfl ?_)
  repeat (first | exact loop 300 1 _ (by omega) (by omega) (by omega) | refine go_pure hM rfl ?_ | (refine go_get (fs := ?_) (v := ?_) hM rfl ?_ ?_ ?_; rotate_left 2; assumption; rfl) | refine go_ldc hM rfl ?_)
theorem c_Pool_giveBack {i : Nat} (hi : i < 260) (h1 : aTk A i = 1) : Rd G m_Pool_giveBack [vR 2, vR (oA i)] N (hpx A h0) none N (hpx (sLe (sNd A i 0 (aDp A i) 0) (aLe A + 1)) h0) := by
  refine Rn.of rfl rfl rfl ?_
  have hM := ok_Pool_giveBack
  have k3 := hp_nd (A := A) (h0 := h0) hi
  repeat (first | refine go_pure hM rfl ?_ | (refine go_get (fs := ?_) (v := ?_) hM rfl ?_ ?_ ?_; rotate_left 2; assumption; rfl) | refine go_ldc hM rfl ?_)
  rw [h1]
  refine go_if_eq hM rfl (by omega) (fun hc => absurd hc (by omega)) (fun hc => ?_)
  repeat (first | refine go_pure hM rfl ?_ | (refine go_get (fs := ?_) (v := ?_) hM rfl ?_ ?_ ?_; rotate_left 2; assumption; rfl) | refine go_ldc hM rfl ?_)
  refine go_put hM rfl k3 rfl rfl ?_
  repeat (first | refine go_pure hM rfl ?_ | (refine go_get (fs := ?_) (v := ?_) hM rfl ?_ ?_ ?_; rotate_left 2; assumption; rfl) | refine go_ldc hM rfl ?_)
  refine go_put hM rfl (gU_s _ _ _) rfl rfl ?_
  rw [gU_uu, up_nd hi]
  have k4 := hp_po (A := sNd A i 0 (aDp A i) 0) (h0 := h0)
  repeat (first | refine go_pure hM rfl ?_ | (refine go_get (fs := ?_) (v := ?_) hM rfl ?_ ?_ ?_; rotate_left 2; assumption; rfl) | refine go_ldc hM rfl ?_)
  refine go_put hM rfl k4 rfl rfl ?_
  rw [up_po]
  exact go_vret hM rfl rfl ⟨rfl, rfl, rfl⟩
end
