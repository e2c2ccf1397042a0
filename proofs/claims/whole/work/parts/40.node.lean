/-! Node: its object (class 0) and its words -/
abbrev gNd (num room tk dep ent : Int) (w : Nat) : gE := .inr (0, [vI num, vI room, vI tk, vI dep, vI ent, vR w])
abbrev gIA (n : Nat) (f : Nat → Int) : gE := .inl (0, n, .inl f)
section
variable {G : gG} {N : Option Nat} {h : gH} {o w nw : Nat} {num room tk dep ent : Int} {f : Nat → Int}
theorem c_isFull (ho : h o = some (gNd num room tk dep ent w)) (r1 : (-2147483648 ≤ room ∧ room ≤ 2147483647)) (r2 : (-2147483648 ≤ ent ∧ ent ≤ 2147483647)) : Rd G m_Node_isFull [vR o] N h (some (vI (if room ≤ ent then 1 else 0))) N h := by
  refine Rn.of rfl rfl rfl ?_
  have hM := ok_Node_isFull
  repeat (first | refine go_pure hM rfl ?_ | (refine go_get (fs := ?_) (v := ?_) hM rfl ?_ ?_ ?_; rotate_left 2; assumption; rfl) | refine go_ldc hM rfl ?_)
  refine go_icmp_lt hM rfl r2 r1 (fun hc => ?_) (fun hc => ?_)
  · repeat (first | refine go_pure hM rfl ?_ | (refine go_get (fs := ?_) (v := ?_) hM rfl ?_ ?_ ?_; rotate_left 2; assumption; rfl) | refine go_ldc hM rfl ?_)
    exact go_zret hM rfl rfl (Or.inl rfl) ⟨by rw [if_neg (by omega)], rfl, rfl⟩
  · repeat (first | refine go_pure hM rfl ?_ | (refine go_get (fs := ?_) (v := ?_) hM rfl ?_ ?_ ?_; rotate_left 2; assumption; rfl) | refine go_ldc hM rfl ?_)
    exact go_zret hM rfl rfl (Or.inr rfl) ⟨by rw [if_pos (by omega)], rfl, rfl⟩
theorem c_hasEntry {i : Int} (ho : h o = some (gNd num room tk dep ent w)) (r1 : (-2147483648 ≤ room ∧ room ≤ 2147483647)) (r2 : (-2147483648 ≤ ent ∧ ent ≤ 2147483647)) (r3 : (-2147483648 ≤ i ∧ i ≤ 2147483647)) : Rd G m_Node_hasEntry [vR o, vI i] N h (some (vI (if 0 ≤ i ∧ i < ent ∧ i < room then 1 else 0))) N h := by
  refine Rn.of rfl rfl rfl ?_
  have hM := ok_Node_hasEntry
  repeat (first | refine go_pure hM rfl ?_ | (refine go_get (fs := ?_) (v := ?_) hM rfl ?_ ?_ ?_; rotate_left 2; assumption; rfl) | refine go_ldc hM rfl ?_)
  refine go_if_lt hM rfl r3 (fun hc => ?_) (fun hc => ?_)
  · repeat (first | refine go_pure hM rfl ?_ | (refine go_get (fs := ?_) (v := ?_) hM rfl ?_ ?_ ?_; rotate_left 2; assumption; rfl) | refine go_ldc hM rfl ?_)
    exact go_zret hM rfl rfl (Or.inl rfl) ⟨by rw [if_neg (by omega)], rfl, rfl⟩
  · repeat (first | refine go_pure hM rfl ?_ | (refine go_get (fs := ?_) (v := ?_) hM rfl ?_ ?_ ?_; rotate_left 2; assumption; rfl) | refine go_ldc hM rfl ?_)
    refine go_icmp_ge hM rfl r3 r2 (fun hc => ?_) (fun hc => ?_)
    · repeat (first | refine go_pure hM rfl ?_ | (refine go_get (fs := ?_) (v := ?_) hM rfl ?_ ?_ ?_; rotate_left 2; assumption; rfl) | refine go_ldc hM rfl ?_)
      exact go_zret hM rfl rfl (Or.inl rfl) ⟨by rw [if_neg (by omega)], rfl, rfl⟩
    · repeat (first | refine go_pure hM rfl ?_ | (refine go_get (fs := ?_) (v := ?_) hM rfl ?_ ?_ ?_; rotate_left 2; assumption; rfl) | refine go_ldc hM rfl ?_)
      refine go_icmp_ge hM rfl r3 r1 (fun hc => ?_) (fun hc => ?_)
      · repeat (first | refine go_pure hM rfl ?_ | (refine go_get (fs := ?_) (v := ?_) hM rfl ?_ ?_ ?_; rotate_left 2; assumption; rfl) | refine go_ldc hM rfl ?_)
        exact go_zret hM rfl rfl (Or.inl rfl) ⟨by rw [if_neg (by omega)], rfl, rfl⟩
      · repeat (first | refine go_pure hM rfl ?_ | (refine go_get (fs := ?_) (v := ?_) hM rfl ?_ ?_ ?_; rotate_left 2; assumption; rfl) | refine go_ldc hM rfl ?_)
        exact go_zret hM rfl rfl (Or.inr rfl) ⟨by rw [if_pos (by omega)], rfl, rfl⟩
end
