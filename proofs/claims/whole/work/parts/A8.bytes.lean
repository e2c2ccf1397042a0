/-! ExtentTree.rootByte, nodeByte, on the model -/
def nWb (S : mS) (l p r : Nat) (i : Int) : Int := if i = 0 then 62218 + (mc S l p : Int) * 2 ^ 16 else if i = 1 then (r : Int) + (l : Int) * 2 ^ 16 else if 3 ≤ i ∧ i < (mc S l p : Int) * 3 + 3 then it S l (sm (mc S l) p + ((i - 3) / 3).toNat) ((i - 3) % 3).toNat else 0
def nBy (S : mS) (l p r : Nat) (i : Int) : Int := gBy (nWb S l p r (i / 4)) (i % 4)
section
variable {G : gG} {N : Option Nat} {h0 : gH} {A : cA} {SS : Nat → mS} {F : Nat → Prop} {t l p : Nat} {f b i : Int}
theorem wb_is (hc : CX A SS F) (ht : t < 4) (hl : l ≤ md (SS t)) (hp : p < mK (SS t) l) (i : Int) : gWb (aWf A (mb (SS t) l p)) (aRm A (mb (SS t) l p)) (aDp A (mb (SS t) l p)) (aEn A (mb (SS t) l p)) i = nWb (SS t) l p (aRm A (mb (SS t) l p)) i := by
  obtain ⟨a1, a2, a3⟩ := ab_nd.mp (hc.2.1 t ht).2.2.1 l hl p hp
  rw [a1, a2]
  unfold gWb nWb
  by_cases h1 : i = 0
  · rw [if_pos h1, if_pos h1]
  · rw [if_neg h1, if_neg h1]
    by_cases h2 : i = 1
    · rw [if_pos h2, if_pos h2]
    · rw [if_neg h2, if_neg h2]
      by_cases h3 : 3 ≤ i ∧ i < (mc (SS t) l p : Int) * 3 + 3
      · rw [if_pos h3, if_pos h3]
        have := a3 ((i - 3) / 3).toNat (by omega) ((i - 3) % 3).toNat (by omega)
        rw [show ((i - 3) / 3).toNat * 3 + ((i - 3) % 3).toNat = (i - 3).toNat by omega] at this
        exact this
      · rw [if_neg h3, if_neg h3]
set_option maxHeartbeats 2000000 in
theorem s_rootByte (hc : Cl A SS) (rf : (-2147483648 ≤ f ∧ f ≤ 2147483647)) (ri : (-2147483648 ≤ i ∧ i ≤ 2147483647)) : Rn G m_ET_rootByte [vR 1, vI f, vI i] none (hpx A h0) 1 6 (qRd SS (aM A) h0 ((0 ≤ f ∧ f < 4) ∧ 0 ≤ i ∧ i < 60) (vI (nBy (SS f.toNat) (md (SS f.toNat)) 0 4 i))) (xOp SS (aM A) h0 (fun E => (¬ (0 ≤ f ∧ f < 4) ∧ E = xA) ∨ ((0 ≤ f ∧ f < 4) ∧ ¬ (0 ≤ i ∧ i < 60) ∧ E = xI))) := by
  refine Rn.of rfl rfl rfl ?_
  have hM := ok_ET_rootByte
  have q1 := c_isFile (G := G) (N := none) (h := hpx A h0) rf
  obtain ⟨hcx, hmx⟩ := cl_cx.mp hc
  repeat (first | refine go_pure hM rfl ?_ | (refine go_get (fs := ?_) (v := ?_) hM rfl ?_ ?_ ?_; rotate_left 2; assumption; rfl) | refine go_ldc hM rfl ?_)
  by_cases hf : 0 ≤ f ∧ f < 4
  · rw [if_pos hf] at q1
    refine go_cS hM rfl rfl rfl q1 rfl ?_
    refine go_if_ne hM rfl (by omega) (fun _ => ?_) (fun hc5 => absurd hc5 (by omega))
    repeat (first | refine go_pure hM rfl ?_ | (refine go_get (fs := ?_) (v := ?_) hM rfl ?_ ?_ ?_; rotate_left 2; assumption; rfl) | refine go_ldc hM rfl ?_)
    refine go_if_lt hM rfl ri (fun h1 => ?_) (fun h1 => ?_)
    · exact go_throw (c := 0) (s := 0) (b3 := 0) (b4 := 0) (y3 := 0) (e6 := 0) hM rfl rfl rfl rfl rfl thr_i rfl rfl rfl rfl ⟨A, hc, rfl, rfl, Or.inr ⟨hf, by omega, rfl⟩⟩
    repeat (first | refine go_pure hM rfl ?_ | (refine go_get (fs := ?_) (v := ?_) hM rfl ?_ ?_ ?_; rotate_left 2; assumption; rfl) | refine go_ldc hM rfl ?_)
    refine go_icmp_lt hM rfl ri (by omega) (fun h2 => ?_) (fun h2 => ?_)
    · obtain ⟨t, rfl⟩ : ∃ t : Nat, f = t := ⟨f.toNat, by omega⟩
      have ht : t < 4 := by omega
      have e0 : ((t : Nat) : Int).toNat = t := by omega
      have k1 := hp_et (A := A) (h0 := h0)
      have k2 := hp_tr (A := A) (h0 := h0) ht
      obtain ⟨hs, hr, ha, -⟩ := hcx.2.1 t ht
      have wb := fun j => wb_is hcx ht (Nat.le_refl (md (SS t))) (p := 0) (by have := hs.2.1; omega) j
      rw [hs.2.2.1] at wb
      have rm4 : aRm A (256 + t) = 4 := if_neg (by omega)
      repeat (first | refine go_pure hM rfl ?_ | (refine go_get (fs := ?_) (v := ?_) hM rfl ?_ ?_ ?_; rotate_left 2; assumption; rfl) | refine go_ldc hM rfl ?_)
      refine go_aaldS (r := 517 + 6 * t) hM rfl (hp_ts (A := A) (h0 := h0)) rfl (by omega) (by omega) (by omega) (by rw [e0]; exact if_pos ht) ?_
      repeat (first | refine go_pure hM rfl ?_ | (refine go_get (fs := ?_) (v := ?_) hM rfl ?_ ?_ ?_; rotate_left 2; assumption; rfl) | refine go_ldc hM rfl ?_)
      refine go_cV hM rfl rfl rfl (hp_nd (by omega)) rfl (p_byteAt hc.1 (by omega) (by omega)) rfl ?_
      refine go_iret hM rfl rfl ⟨⟨hf, by omega, h2⟩, ?_, rfl, A, hc, rfl, rfl⟩
      rw [e0, wb, rm4]
      rfl
    · exact go_throw (c := 0) (s := 0) (b3 := 0) (b4 := 0) (y3 := 0) (e6 := 0) hM rfl rfl rfl rfl rfl thr_i rfl rfl rfl rfl ⟨A, hc, rfl, rfl, Or.inr ⟨hf, by omega, rfl⟩⟩
  · rw [if_neg hf] at q1
    refine go_cS hM rfl rfl rfl q1 rfl ?_
    refine go_if_ne hM rfl (by omega) (fun hc5 => absurd rfl hc5) (fun _ => ?_)
    exact go_throw (c := 0) (s := 0) (b3 := 0) (b4 := 0) (y3 := 0) (e6 := 0) hM rfl rfl rfl rfl rfl thr_a rfl rfl rfl rfl ⟨A, hc, rfl, rfl, Or.inl ⟨hf, rfl⟩⟩
/-- a byte of a block that is a file's -/
def okNb (SS : Nat → mS) (b i : Int) : Prop := (1 ≤ b ∧ b < 256) ∧ (∃ t l p, mOwn SS b.toNat t l p) ∧ 0 ≤ i ∧ i < 1024
set_option maxHeartbeats 2000000 in
theorem s_nodeByte (hc : Cl A SS) (rb : (-2147483648 ≤ b ∧ b ≤ 2147483647)) (ri : (-2147483648 ≤ i ∧ i ≤ 2147483647)) : Rn G m_ET_nodeByte [vR 1, vI b, vI i] none (hpx A h0) 1 6 (fun v N' h' => okNb SS b i ∧ (∃ t l p, mOwn SS b.toNat t l p ∧ v = some (vI (nBy (SS t) l p (aM A) i))) ∧ N' = none ∧ h' = hpx A h0) (fun E h' => ¬ okNb SS b i ∧ E = xI ∧ h' = hpx A h0) := by
  refine Rn.of rfl rfl rfl ?_
  have hM := ok_ET_nodeByte
  obtain ⟨hcx, hmx⟩ := cl_cx.mp hc
  have k1 := hp_et (A := A) (h0 := h0)
  have k2 := hp_po (A := A) (h0 := h0)
  have bad : ¬ okNb SS b i → Go G m_ET_nodeByte (gFin G (fun v N' h' => okNb SS b i ∧ (∃ t l p, mOwn SS b.toNat t l p ∧ v = some (vI (nBy (SS t) l p (aM A) i))) ∧ N' = none ∧ h' = hpx A h0) (fun E h' => ¬ okNb SS b i ∧ E = xI ∧ h' = hpx A h0)) 22 [some (vR 1), some (vI b), some (vI i)] [] none (hpx A h0) 1 6 := fun hn =>
    go_throw (c := 0) (s := 0) (b3 := 0) (b4 := 0) (y3 := 0) (e6 := 0) hM rfl rfl rfl rfl rfl thr_i rfl rfl rfl rfl ⟨hn, rfl, rfl⟩
  have tn := hcx.tn
  have t0 : aTk A 0 = 0 := hcx.2.2.2.2.2.1
  repeat (first | refine go_pure hM rfl ?_ | (refine go_get (fs := ?_) (v := ?_) hM rfl ?_ ?_ ?_; rotate_left 2; assumption; rfl) | refine go_ldc hM rfl ?_)
  by_cases hb : 0 ≤ b ∧ b < 256
  · have tk : aTk A b.toNat = 0 ∨ aTk A b.toNat = 1 := by
      by_cases h9 : b = 0
      · rw [h9]
        exact Or.inl t0
      · rcases tn b.toNat (by omega) (by omega) with ⟨h8, _⟩ | ⟨h8, _⟩
        · exact Or.inr h8
        · exact Or.inl h8
    refine go_cV hM rfl rfl rfl k2 rfl (c_isTaken hb tk) rfl ?_
    refine go_if_eq hM rfl (by omega) (fun h1 => ?_) (fun h1 => ?_)
    · refine bad (fun q => ?_)
      rcases tn b.toNat (by have := q.1; omega) (by omega) with ⟨h8, _⟩ | ⟨_, h8⟩
      · omega
      · exact h8 q.2.1
    · repeat (first | refine go_pure hM rfl ?_ | (refine go_get (fs := ?_) (v := ?_) hM rfl ?_ ?_ ?_; rotate_left 2; assumption; rfl) | refine go_ldc hM rfl ?_)
      refine go_if_lt hM rfl ri (fun h2 => bad (fun q => by have := q.2.2; omega)) (fun h2 => ?_)
      repeat (first | refine go_pure hM rfl ?_ | (refine go_get (fs := ?_) (v := ?_) hM rfl ?_ ?_ ?_; rotate_left 2; assumption; rfl) | refine go_ldc hM rfl ?_)
      refine go_icmp_lt hM rfl ri (by omega) (fun h3 => ?_) (fun h3 => bad (fun q => by have := q.2.2; omega))
      repeat (first | refine go_pure hM rfl ?_ | (refine go_get (fs := ?_) (v := ?_) hM rfl ?_ ?_ ?_; rotate_left 2; assumption; rfl) | refine go_ldc hM rfl ?_)
      refine go_cV hM rfl rfl rfl k2 rfl (c_Pool_node hb) rfl ?_
      have hb1 : 1 ≤ b := by
        by_cases h9 : b = 0
        · rw [h9] at h1
          exact absurd t0 h1
        · omega
      have own : ∃ t l p, mOwn SS b.toNat t l p := by
        rcases tn b.toNat (by omega) (by omega) with ⟨_, h8⟩ | ⟨h8, _⟩
        · exact h8
        · exact absurd h8 h1
      obtain ⟨t, l, p, o1, o2, o3, o4⟩ := own
      have wb := fun j => wb_is hcx o1 (Nat.le_of_lt o2) o3 j
      rw [o4] at wb
      have rm4 : aRm A b.toNat = aM A := if_pos (by omega)
      repeat (first | refine go_pure hM rfl ?_ | (refine go_get (fs := ?_) (v := ?_) hM rfl ?_ ?_ ?_; rotate_left 2; assumption; rfl) | refine go_ldc hM rfl ?_)
      refine go_cV hM rfl rfl rfl (hp_nd (by omega)) rfl (p_byteAt hc.1 (by omega) (by omega)) rfl ?_
      refine go_iret hM rfl rfl ⟨⟨⟨hb1, hb.2⟩, ⟨t, l, p, o1, o2, o3, o4⟩, by omega, h3⟩, ⟨t, l, p, ⟨o1, o2, o3, o4⟩, ?_⟩, rfl, rfl⟩
      rw [wb, rm4]
      rfl
  · refine go_cV hM rfl rfl rfl k2 rfl (c_isTaken_out rb hb t0) rfl ?_
    refine go_if_eq hM rfl (by omega) (fun _ => bad (fun q => hb (by have := q.1; omega))) (fun h1 => absurd rfl h1)
end
