/-! Node: its object (class 0) and its words -/
abbrev gNd (num room tk dep ent : Int) (w : Nat) : gE := .inr (0, [vI num, vI room, vI tk, vI dep, vI ent, vR w])
abbrev gIA (n : Nat) (f : Nat → Int) : gE := .inl (0, n, .inl f)
/-- an entry's word; no entry reads as zeros -/
def gWd (f : Nat → Int) (ent i : Int) (k : Int) : Int := if 0 ≤ i ∧ i < ent then f (i * 3 + k).toNat else 0
theorem gWd_in {f : Nat → Int} {ent i k : Int} (h : 0 ≤ i ∧ i < ent) : gWd f ent i k = f (i * 3 + k).toNat := if_pos h
theorem gWd_out {f : Nat → Int} {ent i k : Int} (h : ¬ (0 ≤ i ∧ i < ent)) : gWd f ent i k = 0 := if_neg h
section
variable {G : gG} {N : Option Nat} {h : gH} {o w nw : Nat} {num room tk dep ent : Int} {f : Nat → Int}
theorem c_isFull (hN : h o = some (gNd num room tk dep ent w)) (hro : 4 ≤ room ∧ room ≤ 84) (hen : 0 ≤ ent ∧ ent ≤ room) : Rd G m_Node_isFull [vR o] N h (some (vI (if room ≤ ent then 1 else 0))) N h := by
  refine Rn.of rfl rfl rfl ?_
  have hM := ok_Node_isFull
  repeat (first | refine go_pure hM rfl ?_ | (refine go_get (fs := ?_) (v := ?_) hM rfl ?_ ?_ ?_; rotate_left 2; assumption; rfl) | refine go_ldc hM rfl ?_)
  refine go_icmp_lt hM rfl (by omega) (by omega) (fun hc => ?_) (fun hc => ?_)
  · repeat (first | refine go_pure hM rfl ?_ | (refine go_get (fs := ?_) (v := ?_) hM rfl ?_ ?_ ?_; rotate_left 2; assumption; rfl) | refine go_ldc hM rfl ?_)
    exact go_zret hM rfl rfl (Or.inl rfl) ⟨by rw [if_neg (by omega)], rfl, rfl⟩
  · repeat (first | refine go_pure hM rfl ?_ | (refine go_get (fs := ?_) (v := ?_) hM rfl ?_ ?_ ?_; rotate_left 2; assumption; rfl) | refine go_ldc hM rfl ?_)
    exact go_zret hM rfl rfl (Or.inr rfl) ⟨by rw [if_pos (by omega)], rfl, rfl⟩
theorem c_hasEntry {i : Int} (hN : h o = some (gNd num room tk dep ent w)) (hro : 4 ≤ room ∧ room ≤ 84) (hen : 0 ≤ ent ∧ ent ≤ room) (r3 : (-2147483648 ≤ i ∧ i ≤ 2147483647)) : Rd G m_Node_hasEntry [vR o, vI i] N h (some (vI (if 0 ≤ i ∧ i < ent then 1 else 0))) N h := by
  refine Rn.of rfl rfl rfl ?_
  have hM := ok_Node_hasEntry
  repeat (first | refine go_pure hM rfl ?_ | (refine go_get (fs := ?_) (v := ?_) hM rfl ?_ ?_ ?_; rotate_left 2; assumption; rfl) | refine go_ldc hM rfl ?_)
  refine go_if_lt hM rfl r3 (fun hc => ?_) (fun hc => ?_)
  · repeat (first | refine go_pure hM rfl ?_ | (refine go_get (fs := ?_) (v := ?_) hM rfl ?_ ?_ ?_; rotate_left 2; assumption; rfl) | refine go_ldc hM rfl ?_)
    exact go_zret hM rfl rfl (Or.inl rfl) ⟨by rw [if_neg (by omega)], rfl, rfl⟩
  · repeat (first | refine go_pure hM rfl ?_ | (refine go_get (fs := ?_) (v := ?_) hM rfl ?_ ?_ ?_; rotate_left 2; assumption; rfl) | refine go_ldc hM rfl ?_)
    refine go_icmp_ge hM rfl r3 (by omega) (fun hc => ?_) (fun hc => ?_)
    · repeat (first | refine go_pure hM rfl ?_ | (refine go_get (fs := ?_) (v := ?_) hM rfl ?_ ?_ ?_; rotate_left 2; assumption; rfl) | refine go_ldc hM rfl ?_)
      exact go_zret hM rfl rfl (Or.inl rfl) ⟨by rw [if_neg (by omega)], rfl, rfl⟩
    · repeat (first | refine go_pure hM rfl ?_ | (refine go_get (fs := ?_) (v := ?_) hM rfl ?_ ?_ ?_; rotate_left 2; assumption; rfl) | refine go_ldc hM rfl ?_)
      refine go_icmp_ge hM rfl r3 (by omega) (fun hc => ?_) (fun hc => ?_)
      · repeat (first | refine go_pure hM rfl ?_ | (refine go_get (fs := ?_) (v := ?_) hM rfl ?_ ?_ ?_; rotate_left 2; assumption; rfl) | refine go_ldc hM rfl ?_)
        exact go_zret hM rfl rfl (Or.inl rfl) ⟨by rw [if_neg (by omega)], rfl, rfl⟩
      · repeat (first | refine go_pure hM rfl ?_ | (refine go_get (fs := ?_) (v := ?_) hM rfl ?_ ?_ ?_; rotate_left 2; assumption; rfl) | refine go_ldc hM rfl ?_)
        exact go_zret hM rfl rfl (Or.inr rfl) ⟨by rw [if_pos (by omega)], rfl, rfl⟩
theorem c_hasEntry_t {i : Int} (hN : h o = some (gNd num room tk dep ent w)) (hro : 4 ≤ room ∧ room ≤ 84) (hen : 0 ≤ ent ∧ ent ≤ room) (r3 : (-2147483648 ≤ i ∧ i ≤ 2147483647)) (hp : 0 ≤ i ∧ i < ent) : Rd G m_Node_hasEntry [vR o, vI i] N h (some (vI 1)) N h := by
  have q := c_hasEntry (G := G) (N := N) hN hro hen r3
  rw [if_pos hp] at q
  exact q
theorem c_hasEntry_f {i : Int} (hN : h o = some (gNd num room tk dep ent w)) (hro : 4 ≤ room ∧ room ≤ 84) (hen : 0 ≤ ent ∧ ent ≤ room) (r3 : (-2147483648 ≤ i ∧ i ≤ 2147483647)) (hp : ¬ (0 ≤ i ∧ i < ent)) : Rd G m_Node_hasEntry [vR o, vI i] N h (some (vI 0)) N h := by
  have q := c_hasEntry (G := G) (N := N) hN hro hen r3
  rw [if_neg hp] at q
  exact q
theorem c_word {i k : Int} (hN : h o = some (gNd num room tk dep ent w)) (hA : h w = some (gIA nw f)) (hnw : (nw : Int) = room * 3) (hro : 4 ≤ room ∧ room ≤ 84) (hen : 0 ≤ ent ∧ ent ≤ room) (r3 : (-2147483648 ≤ i ∧ i ≤ 2147483647)) (hk : 0 ≤ k ∧ k ≤ 2) : Rd G m_Node_word [vR o, vI i, vI k] N h (some (vI (gWd f ent i k))) N h := by
  refine Rn.of rfl rfl rfl ?_
  have hM := ok_Node_word
  by_cases hp : 0 ≤ i ∧ i < ent
  · repeat (first | refine go_pure hM rfl ?_ | (refine go_get (fs := ?_) (v := ?_) hM rfl ?_ ?_ ?_; rotate_left 2; assumption; rfl) | refine go_ldc hM rfl ?_)
    refine go_cV hM rfl rfl rfl hN rfl (c_hasEntry_t hN hro hen r3 hp) rfl ?_
    refine go_if_eq hM rfl (by omega) (fun hc => absurd hc (by omega)) (fun hc => ?_)
    repeat (first | refine go_pure hM rfl ?_ | (refine go_get (fs := ?_) (v := ?_) hM rfl ?_ ?_ ?_; rotate_left 2; assumption; rfl) | refine go_ldc hM rfl ?_)
    refine go_iald hM rfl hA (by omega) (by omega) (by omega) ?_
    repeat (first | refine go_pure hM rfl ?_ | (refine go_get (fs := ?_) (v := ?_) hM rfl ?_ ?_ ?_; rotate_left 2; assumption; rfl) | refine go_ldc hM rfl ?_)
    exact go_iret hM rfl rfl ⟨by rw [gWd_in hp], rfl, rfl⟩
  · repeat (first | refine go_pure hM rfl ?_ | (refine go_get (fs := ?_) (v := ?_) hM rfl ?_ ?_ ?_; rotate_left 2; assumption; rfl) | refine go_ldc hM rfl ?_)
    refine go_cV hM rfl rfl rfl hN rfl (c_hasEntry_f hN hro hen r3 hp) rfl ?_
    refine go_if_eq hM rfl (by omega) (fun hc => ?_) (fun hc => absurd rfl hc)
    repeat (first | refine go_pure hM rfl ?_ | (refine go_get (fs := ?_) (v := ?_) hM rfl ?_ ?_ ?_; rotate_left 2; assumption; rfl) | refine go_ldc hM rfl ?_)
    exact go_iret hM rfl rfl ⟨by rw [gWd_out hp], rfl, rfl⟩
theorem c_firstAt {i : Int} (hN : h o = some (gNd num room tk dep ent w)) (hA : h w = some (gIA nw f)) (hnw : (nw : Int) = room * 3) (hro : 4 ≤ room ∧ room ≤ 84) (hen : 0 ≤ ent ∧ ent ≤ room) (r3 : (-2147483648 ≤ i ∧ i ≤ 2147483647)) : Rd G m_Node_firstAt [vR o, vI i] N h (some (vI (gWd f ent i 0))) N h := by
  refine Rn.of rfl rfl rfl ?_
  have hM := ok_Node_firstAt
  repeat (first | refine go_pure hM rfl ?_ | (refine go_get (fs := ?_) (v := ?_) hM rfl ?_ ?_ ?_; rotate_left 2; assumption; rfl) | refine go_ldc hM rfl ?_)
  refine go_cV hM rfl rfl rfl hN rfl (c_word hN hA hnw hro hen r3 (by omega)) rfl ?_
  exact go_iret hM rfl rfl ⟨rfl, rfl, rfl⟩
theorem c_belowAt {i : Int} (hN : h o = some (gNd num room tk dep ent w)) (hA : h w = some (gIA nw f)) (hnw : (nw : Int) = room * 3) (hro : 4 ≤ room ∧ room ≤ 84) (hen : 0 ≤ ent ∧ ent ≤ room) (r3 : (-2147483648 ≤ i ∧ i ≤ 2147483647)) : Rd G m_Node_belowAt [vR o, vI i] N h (some (vI (gWd f ent i 1))) N h := by
  refine Rn.of rfl rfl rfl ?_
  have hM := ok_Node_belowAt
  repeat (first | refine go_pure hM rfl ?_ | (refine go_get (fs := ?_) (v := ?_) hM rfl ?_ ?_ ?_; rotate_left 2; assumption; rfl) | refine go_ldc hM rfl ?_)
  refine go_cV hM rfl rfl rfl hN rfl (c_word hN hA hnw hro hen r3 (by omega)) rfl ?_
  exact go_iret hM rfl rfl ⟨rfl, rfl, rfl⟩
theorem c_volumeAt {i : Int} (hN : h o = some (gNd num room tk dep ent w)) (hA : h w = some (gIA nw f)) (hnw : (nw : Int) = room * 3) (hro : 4 ≤ room ∧ room ≤ 84) (hen : 0 ≤ ent ∧ ent ≤ room) (r3 : (-2147483648 ≤ i ∧ i ≤ 2147483647)) : Rd G m_Node_volumeAt [vR o, vI i] N h (some (vI (gWd f ent i 2))) N h := by
  refine Rn.of rfl rfl rfl ?_
  have hM := ok_Node_volumeAt
  repeat (first | refine go_pure hM rfl ?_ | (refine go_get (fs := ?_) (v := ?_) hM rfl ?_ ?_ ?_; rotate_left 2; assumption; rfl) | refine go_ldc hM rfl ?_)
  refine go_cV hM rfl rfl rfl hN rfl (c_word hN hA hnw hro hen r3 (by omega)) rfl ?_
  exact go_iret hM rfl rfl ⟨rfl, rfl, rfl⟩
/-- a length without its mark -/
def gLn (x : Int) : Int := if 32768 < x then x - 32768 else x
theorem c_lengthAt {i : Int} (hN : h o = some (gNd num room tk dep ent w)) (hA : h w = some (gIA nw f)) (hnw : (nw : Int) = room * 3) (hro : 4 ≤ room ∧ room ≤ 84) (hen : 0 ≤ ent ∧ ent ≤ room) (r3 : (-2147483648 ≤ i ∧ i ≤ 2147483647)) (rf : (-2147483648 ≤ gWd f ent i 1 ∧ gWd f ent i 1 ≤ 2147483647)) : Rd G m_Node_lengthAt [vR o, vI i] N h (some (vI (gLn (gWd f ent i 1)))) N h := by
  refine Rn.of rfl rfl rfl ?_
  have hM := ok_Node_lengthAt
  repeat (first | refine go_pure hM rfl ?_ | (refine go_get (fs := ?_) (v := ?_) hM rfl ?_ ?_ ?_; rotate_left 2; assumption; rfl) | refine go_ldc hM rfl ?_)
  refine go_cV hM rfl rfl rfl hN rfl (c_word hN hA hnw hro hen r3 (by omega)) rfl ?_
  repeat (first | refine go_pure hM rfl ?_ | (refine go_get (fs := ?_) (v := ?_) hM rfl ?_ ?_ ?_; rotate_left 2; assumption; rfl) | refine go_ldc hM rfl ?_)
  refine go_icmp_le hM rfl rf (by omega) (fun hc => ?_) (fun hc => ?_)
  · repeat (first | refine go_pure hM rfl ?_ | (refine go_get (fs := ?_) (v := ?_) hM rfl ?_ ?_ ?_; rotate_left 2; assumption; rfl) | refine go_ldc hM rfl ?_)
    exact go_iret hM rfl rfl ⟨by rw [gLn, if_neg (by omega)], rfl, rfl⟩
  · repeat (first | refine go_pure hM rfl ?_ | (refine go_get (fs := ?_) (v := ?_) hM rfl ?_ ?_ ?_; rotate_left 2; assumption; rfl) | refine go_ldc hM rfl ?_)
    exact go_iret hM rfl rfl ⟨by rw [gLn, if_pos (by omega)], rfl, rfl⟩
theorem c_isWrittenAt {i : Int} (hN : h o = some (gNd num room tk dep ent w)) (hA : h w = some (gIA nw f)) (hnw : (nw : Int) = room * 3) (hro : 4 ≤ room ∧ room ≤ 84) (hen : 0 ≤ ent ∧ ent ≤ room) (r3 : (-2147483648 ≤ i ∧ i ≤ 2147483647)) (rf : (-2147483648 ≤ gWd f ent i 1 ∧ gWd f ent i 1 ≤ 2147483647)) : Rd G m_Node_isWrittenAt [vR o, vI i] N h (some (vI (if (0 ≤ i ∧ i < ent) ∧ gWd f ent i 1 ≤ 32768 then 1 else 0))) N h := by
  refine Rn.of rfl rfl rfl ?_
  have hM := ok_Node_isWrittenAt
  by_cases hp : 0 ≤ i ∧ i < ent
  · repeat (first | refine go_pure hM rfl ?_ | (refine go_get (fs := ?_) (v := ?_) hM rfl ?_ ?_ ?_; rotate_left 2; assumption; rfl) | refine go_ldc hM rfl ?_)
    refine go_cV hM rfl rfl rfl hN rfl (c_hasEntry_t hN hro hen r3 hp) rfl ?_
    refine go_if_eq hM rfl (by omega) (fun hc => absurd hc (by omega)) (fun hc => ?_)
    repeat (first | refine go_pure hM rfl ?_ | (refine go_get (fs := ?_) (v := ?_) hM rfl ?_ ?_ ?_; rotate_left 2; assumption; rfl) | refine go_ldc hM rfl ?_)
    refine go_cV hM rfl rfl rfl hN rfl (c_word hN hA hnw hro hen r3 (by omega)) rfl ?_
    repeat (first | refine go_pure hM rfl ?_ | (refine go_get (fs := ?_) (v := ?_) hM rfl ?_ ?_ ?_; rotate_left 2; assumption; rfl) | refine go_ldc hM rfl ?_)
    refine go_icmp_gt hM rfl rf (by omega) (fun hc => ?_) (fun hc => ?_)
    · repeat (first | refine go_pure hM rfl ?_ | (refine go_get (fs := ?_) (v := ?_) hM rfl ?_ ?_ ?_; rotate_left 2; assumption; rfl) | refine go_ldc hM rfl ?_)
      exact go_zret hM rfl rfl (Or.inl rfl) ⟨by rw [if_neg (by omega)], rfl, rfl⟩
    · repeat (first | refine go_pure hM rfl ?_ | (refine go_get (fs := ?_) (v := ?_) hM rfl ?_ ?_ ?_; rotate_left 2; assumption; rfl) | refine go_ldc hM rfl ?_)
      exact go_zret hM rfl rfl (Or.inr rfl) ⟨by rw [if_pos (by omega)], rfl, rfl⟩
  · repeat (first | refine go_pure hM rfl ?_ | (refine go_get (fs := ?_) (v := ?_) hM rfl ?_ ?_ ?_; rotate_left 2; assumption; rfl) | refine go_ldc hM rfl ?_)
    refine go_cV hM rfl rfl rfl hN rfl (c_hasEntry_f hN hro hen r3 hp) rfl ?_
    refine go_if_eq hM rfl (by omega) (fun hc => ?_) (fun hc => absurd rfl hc)
    repeat (first | refine go_pure hM rfl ?_ | (refine go_get (fs := ?_) (v := ?_) hM rfl ?_ ?_ ?_; rotate_left 2; assumption; rfl) | refine go_ldc hM rfl ?_)
    exact go_zret hM rfl rfl (Or.inl rfl) ⟨by rw [if_neg (by omega)], rfl, rfl⟩
theorem c_setFirst {i x : Int} (hN : h o = some (gNd num room tk dep ent w)) (hA : h w = some (gIA nw f)) (hnw : (nw : Int) = room * 3) (hro : 4 ≤ room ∧ room ≤ 84) (hen : 0 ≤ ent ∧ ent ≤ room) (r3 : (-2147483648 ≤ i ∧ i ≤ 2147483647)) (hp : 0 ≤ i ∧ i < ent) : Rd G m_Node_setFirst [vR o, vI i, vI x] N h none N (gU h w (gIA nw (gF f (i * 3).toNat x))) := by
  refine Rn.of rfl rfl rfl ?_
  have hM := ok_Node_setFirst
  repeat (first | refine go_pure hM rfl ?_ | (refine go_get (fs := ?_) (v := ?_) hM rfl ?_ ?_ ?_; rotate_left 2; assumption; rfl) | refine go_ldc hM rfl ?_)
  refine go_cV hM rfl rfl rfl hN rfl (c_hasEntry_t hN hro hen r3 hp) rfl ?_
  refine go_if_eq hM rfl (by omega) (fun hc => absurd hc (by omega)) (fun hc => ?_)
  repeat (first | refine go_pure hM rfl ?_ | (refine go_get (fs := ?_) (v := ?_) hM rfl ?_ ?_ ?_; rotate_left 2; assumption; rfl) | refine go_ldc hM rfl ?_)
  refine go_iast hM rfl hA (by omega) (by omega) (by omega) ?_
  exact go_vret hM rfl rfl ⟨rfl, rfl, rfl⟩
/-- three words from a place on -/
def gT3 (f : Nat → Int) (k : Nat) (a b c : Int) : Nat → Int := gF (gF (gF f k a) (k + 1) b) (k + 2) c
theorem c_setEntry {i x y z : Int} (hN : h o = some (gNd num room tk dep ent w)) (hA : h w = some (gIA nw f)) (hnw : (nw : Int) = room * 3) (hro : 4 ≤ room ∧ room ≤ 84) (hen : 0 ≤ ent ∧ ent ≤ room) (hne : o ≠ w) (r3 : (-2147483648 ≤ i ∧ i ≤ 2147483647)) (hp : 0 ≤ i ∧ i < ent) : Rd G m_Node_setEntry [vR o, vI i, vI x, vI y, vI z] N h none N (gU h w (gIA nw (gT3 f (i * 3).toNat x y z))) := by
  refine Rn.of rfl rfl rfl ?_
  have hM := ok_Node_setEntry
  repeat (first | refine go_pure hM rfl ?_ | (refine go_get (fs := ?_) (v := ?_) hM rfl ?_ ?_ ?_; rotate_left 2; assumption; rfl) | refine go_ldc hM rfl ?_)
  refine go_cV hM rfl rfl rfl hN rfl (c_hasEntry_t hN hro hen r3 hp) rfl ?_
  refine go_if_eq hM rfl (by omega) (fun hc => absurd hc (by omega)) (fun hc => ?_)
  repeat (first | refine go_pure hM rfl ?_ | (refine go_get (fs := ?_) (v := ?_) hM rfl ?_ ?_ ?_; rotate_left 2; assumption; rfl) | refine go_ldc hM rfl ?_)
  refine go_iast hM rfl hA (by omega) (by omega) (by omega) ?_
  have hN1 : ∀ e, gU h w e o = some (gNd num room tk dep ent w) := fun e => by rw [gU_n hne]; exact hN
  have hA1 : ∀ e, gU h w e w = some e := fun e => gU_s h w e
  refine go_pure hM rfl ?_
  refine go_get hM rfl (hN1 _) rfl ?_
  repeat (first | refine go_pure hM rfl ?_ | (refine go_get (fs := ?_) (v := ?_) hM rfl ?_ ?_ ?_; rotate_left 2; assumption; rfl) | refine go_ldc hM rfl ?_)
  refine go_iast hM rfl (hA1 _) (by omega) (by omega) (by omega) ?_
  rw [gU_uu]
  refine go_pure hM rfl ?_
  refine go_get hM rfl (hN1 _) rfl ?_
  repeat (first | refine go_pure hM rfl ?_ | (refine go_get (fs := ?_) (v := ?_) hM rfl ?_ ?_ ?_; rotate_left 2; assumption; rfl) | refine go_ldc hM rfl ?_)
  refine go_iast hM rfl (hA1 _) (by omega) (by omega) (by omega) ?_
  rw [gU_uu]
  refine go_vret hM rfl rfl ⟨rfl, rfl, ?_⟩
  rw [gT3, show (i * 3 + 1).toNat = (i * 3).toNat + 1 by omega, show (i * 3 + 2).toNat = (i * 3).toNat + 2 by omega]
end
