/-! Node: new entries, entries that go, tails that move -/
section
variable {G : gG} {N : Option Nat} {h : gH} {o w nw : Nat} {num room tk dep ent : Int} {f : Nat → Int}
/-- the words behind a new entry -/
def gIns (f : Nat → Int) (ent i x y z : Int) : Nat → Int := gT3 (gCp f f (i * 3).toNat (i * 3 + 3).toNat ((ent - i) * 3).toNat) (i * 3).toNat x y z
set_option maxHeartbeats 1000000 in
theorem c_insert {i x y z : Int} (hN : h o = some (gNd num room tk dep ent w)) (hA : h w = some (gIA nw f)) (hnw : (nw : Int) = room * 3) (hro : 4 ≤ room ∧ room ≤ 84) (hen : 0 ≤ ent ∧ ent ≤ room) (hne : o ≠ w) (hi : 0 ≤ i ∧ i ≤ ent) (hf : ent < room) : Rd G m_Node_insert [vR o, vI i, vI x, vI y, vI z] N h none none (gU (gU h w (gIA nw (gIns f ent i x y z))) o (gNd num room tk dep (ent + 1) w)) := by
  refine Rn.of rfl rfl rfl ?_
  have hM := ok_Node_insert
  have q := c_isFull (G := G) (N := N) hN hro hen
  rw [if_neg (by omega)] at q
  repeat (first | refine go_pure hM rfl ?_ | (refine go_get (fs := ?_) (v := ?_) hM rfl ?_ ?_ ?_; rotate_left 2; assumption; rfl) | refine go_ldc hM rfl ?_)
  refine go_cV hM rfl rfl rfl hN rfl q rfl ?_
  refine go_if_ne hM rfl (by omega) (fun hc => absurd rfl hc) (fun hc => ?_)
  repeat (first | refine go_pure hM rfl ?_ | (refine go_get (fs := ?_) (v := ?_) hM rfl ?_ ?_ ?_; rotate_left 2; assumption; rfl) | refine go_ldc hM rfl ?_)
  refine go_if_lt hM rfl (by omega) (fun hc => absurd hc (by omega)) (fun hc => ?_)
  repeat (first | refine go_pure hM rfl ?_ | (refine go_get (fs := ?_) (v := ?_) hM rfl ?_ ?_ ?_; rotate_left 2; assumption; rfl) | refine go_ldc hM rfl ?_)
  refine go_icmp_le hM rfl (by omega) (by omega) (fun hc => ?_) (fun hc => absurd hi.2 hc)
  repeat (first | refine go_pure hM rfl ?_ | (refine go_get (fs := ?_) (v := ?_) hM rfl ?_ ?_ ?_; rotate_left 2; assumption; rfl) | refine go_ldc hM rfl ?_)
  refine go_copy hM rfl hA hA (by omega) (by omega) (by omega) (by omega) (by omega) (by omega) (by omega) rfl ?_
  have hN1 : gU h w (gIA nw (gCp f f (i * 3).toNat (i * 3 + 3).toNat ((ent - i) * 3).toNat)) o = some (gNd num room tk dep ent w) := by rw [gU_n hne]; exact hN
  repeat (first | refine go_pure hM rfl ?_ | (refine go_get (fs := ?_) (v := ?_) hM rfl ?_ ?_ ?_; rotate_left 2; assumption; rfl) | refine go_ldc hM rfl ?_)
  refine go_put hM rfl hN1 rfl rfl ?_
  have hN2 : gU (gU h w (gIA nw (gCp f f (i * 3).toNat (i * 3 + 3).toNat ((ent - i) * 3).toNat))) o (gNd num room tk dep (ent + 1) w) o = some (gNd num room tk dep (ent + 1) w) := gU_s _ _ _
  have hA2 : gU (gU h w (gIA nw (gCp f f (i * 3).toNat (i * 3 + 3).toNat ((ent - i) * 3).toNat))) o (gNd num room tk dep (ent + 1) w) w = some (gIA nw (gCp f f (i * 3).toNat (i * 3 + 3).toNat ((ent - i) * 3).toNat)) := by rw [gU_n (Ne.symm hne), gU_s]
  repeat (first | refine go_pure hM rfl ?_ | (refine go_get (fs := ?_) (v := ?_) hM rfl ?_ ?_ ?_; rotate_left 2; assumption; rfl) | refine go_ldc hM rfl ?_)
  refine go_cV hM rfl rfl rfl hN2 rfl (c_setEntry hN2 hA2 hnw hro (by omega) hne (by omega) (by omega)) rfl ?_
  refine go_vret hM rfl rfl ⟨rfl, rfl, ?_⟩
  rw [gU_comm hne, gU_uu]
  rfl
/-- the words behind an entry that goes -/
def gRem (f : Nat → Int) (ent i : Int) : Nat → Int := gCp f f (i * 3 + 3).toNat (i * 3).toNat ((ent - i - 1) * 3).toNat
set_option maxHeartbeats 1000000 in
theorem c_remove {i : Int} (hN : h o = some (gNd num room tk dep ent w)) (hA : h w = some (gIA nw f)) (hnw : (nw : Int) = room * 3) (hro : 4 ≤ room ∧ room ≤ 84) (hen : 0 ≤ ent ∧ ent ≤ room) (hne : o ≠ w) (hi : 0 ≤ i ∧ i < ent) : Rd G m_Node_remove [vR o, vI i] N h none none (gU (gU h w (gIA nw (gRem f ent i))) o (gNd num room tk dep (ent - 1) w)) := by
  refine Rn.of rfl rfl rfl ?_
  have hM := ok_Node_remove
  repeat (first | refine go_pure hM rfl ?_ | (refine go_get (fs := ?_) (v := ?_) hM rfl ?_ ?_ ?_; rotate_left 2; assumption; rfl) | refine go_ldc hM rfl ?_)
  refine go_cV hM rfl rfl rfl hN rfl (c_hasEntry_t hN hro hen (by omega) hi) rfl ?_
  refine go_if_ne hM rfl (by omega) (fun hc => ?_) (fun hc => absurd hc (by omega))
  repeat (first | refine go_pure hM rfl ?_ | (refine go_get (fs := ?_) (v := ?_) hM rfl ?_ ?_ ?_; rotate_left 2; assumption; rfl) | refine go_ldc hM rfl ?_)
  refine go_copy hM rfl hA hA (by omega) (by omega) (by omega) (by omega) (by omega) (by omega) (by omega) rfl ?_
  have hN1 : gU h w (gIA nw (gCp f f (i * 3 + 3).toNat (i * 3).toNat ((ent - i - 1) * 3).toNat)) o = some (gNd num room tk dep ent w) := by rw [gU_n hne]; exact hN
  repeat (first | refine go_pure hM rfl ?_ | (refine go_get (fs := ?_) (v := ?_) hM rfl ?_ ?_ ?_; rotate_left 2; assumption; rfl) | refine go_ldc hM rfl ?_)
  refine go_put hM rfl hN1 rfl rfl ?_
  exact go_vret hM rfl rfl ⟨rfl, rfl, rfl⟩
set_option maxHeartbeats 1000000 in
theorem c_moveTail {i : Int} {o2 w2 nw2 : Nat} {num2 room2 tk2 dep2 ent2 : Int} {f2 : Nat → Int} (hN : h o = some (gNd num room tk dep ent w)) (hA : h w = some (gIA nw f)) (hnw : (nw : Int) = room * 3) (hro : 4 ≤ room ∧ room ≤ 84) (hen : 0 ≤ ent ∧ ent ≤ room) (hN2 : h o2 = some (gNd num2 room2 tk2 dep2 ent2 w2)) (hA2 : h w2 = some (gIA nw2 f2)) (hnw2 : (nw2 : Int) = room2 * 3) (hro2 : 4 ≤ room2 ∧ room2 ≤ 84) (n1 : o ≠ w) (n2 : o ≠ o2) (n3 : o ≠ w2) (n4 : o2 ≠ w2) (n5 : o2 ≠ w) (hi : 0 ≤ i ∧ i ≤ ent) (hm : ent - i ≤ room2) :
    Rd G m_Node_moveTail [vR o, vI i, vR o2] N h none none (gU (gU (gU h w2 (gIA nw2 (gCp f f2 (i * 3).toNat 0 ((ent - i) * 3).toNat))) o2 (gNd num2 room2 tk2 dep (ent - i) w2)) o (gNd num room tk dep i w)) := by
  refine Rn.of rfl rfl rfl ?_
  have hM := ok_Node_moveTail
  repeat (first | refine go_pure hM rfl ?_ | (refine go_get (fs := ?_) (v := ?_) hM rfl ?_ ?_ ?_; rotate_left 2; assumption; rfl) | refine go_ldc hM rfl ?_)
  refine go_if_lt hM rfl (by omega) (fun hc => absurd hc (by omega)) (fun hc => ?_)
  repeat (first | refine go_pure hM rfl ?_ | (refine go_get (fs := ?_) (v := ?_) hM rfl ?_ ?_ ?_; rotate_left 2; assumption; rfl) | refine go_ldc hM rfl ?_)
  refine go_if_lt hM rfl (by omega) (fun hc => absurd hc (by omega)) (fun hc => ?_)
  repeat (first | refine go_pure hM rfl ?_ | (refine go_get (fs := ?_) (v := ?_) hM rfl ?_ ?_ ?_; rotate_left 2; assumption; rfl) | refine go_ldc hM rfl ?_)
  refine go_icmp_le hM rfl (by omega) (by omega) (fun hc => ?_) (fun hc => absurd hm hc)
  repeat (first | refine go_pure hM rfl ?_ | (refine go_get (fs := ?_) (v := ?_) hM rfl ?_ ?_ ?_; rotate_left 2; assumption; rfl) | refine go_ldc hM rfl ?_)
  refine go_copy hM rfl hA hA2 (by omega) (by omega) (by omega) (by omega) (by omega) (by omega) (by omega) rfl ?_
  generalize hf3 : gCp f f2 (i * 3).toNat (0 : Int).toNat ((ent - i) * 3).toNat = f3
  have hf3' : gCp f f2 (i * 3).toNat 0 ((ent - i) * 3).toNat = f3 := hf3
  rw [hf3']
  have k1 : gU h w2 (gIA nw2 f3) o2 = some (gNd num2 room2 tk2 dep2 ent2 w2) := by rw [gU_n n4]; exact hN2
  repeat (first | refine go_pure hM rfl ?_ | (refine go_get (fs := ?_) (v := ?_) hM rfl ?_ ?_ ?_; rotate_left 2; assumption; rfl) | refine go_ldc hM rfl ?_)
  refine go_put hM rfl k1 rfl rfl ?_
  have k2 : gU (gU h w2 (gIA nw2 f3)) o2 (gNd num2 room2 tk2 dep2 (ent - i) w2) o2 = some (gNd num2 room2 tk2 dep2 (ent - i) w2) := gU_s _ _ _
  have k3 : gU (gU h w2 (gIA nw2 f3)) o2 (gNd num2 room2 tk2 dep2 (ent - i) w2) o = some (gNd num room tk dep ent w) := by rw [gU_n n2, gU_n n3]; exact hN
  repeat (first | refine go_pure hM rfl ?_ | (refine go_get (fs := ?_) (v := ?_) hM rfl ?_ ?_ ?_; rotate_left 2; assumption; rfl) | refine go_ldc hM rfl ?_)
  refine go_put hM rfl k2 rfl rfl ?_
  rw [gU_uu]
  have k4 : gU (gU h w2 (gIA nw2 f3)) o2 (gNd num2 room2 tk2 dep (ent - i) w2) o = some (gNd num room tk dep ent w) := by rw [gU_n n2, gU_n n3]; exact hN
  repeat (first | refine go_pure hM rfl ?_ | (refine go_get (fs := ?_) (v := ?_) hM rfl ?_ ?_ ?_; rotate_left 2; assumption; rfl) | refine go_ldc hM rfl ?_)
  refine go_put hM rfl k4 rfl rfl ?_
  exact go_vret hM rfl rfl ⟨rfl, rfl, rfl⟩
end
