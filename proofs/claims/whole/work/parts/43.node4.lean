/-! Node: bytes; a new Node -/
section
variable {G : gG} {N : Option Nat} {h : gH} {o w nw : Nat} {num room tk dep ent : Int} {f : Nat → Int}
/-- four bytes of a node -/
def gWb (f : Nat → Int) (room dep ent i : Int) : Int := if i = 0 then 62218 + ent * 2 ^ 16 else if i = 1 then room + dep * 2 ^ 16 else if 3 ≤ i ∧ i < ent * 3 + 3 then f (i - 3).toNat else 0
set_option maxHeartbeats 1000000 in
theorem c_wordOfBytes {i : Int} (hN : h o = some (gNd num room tk dep ent w)) (hA : h w = some (gIA nw f)) (hnw : (nw : Int) = room * 3) (hro : 4 ≤ room ∧ room ≤ 84) (hen : 0 ≤ ent ∧ ent ≤ room) (hd : 0 ≤ dep ∧ dep ≤ 5) (hi : 0 ≤ i ∧ i ≤ 1000) : Rd G m_Node_wordOfBytes [vR o, vI i] N h (some (vI (gWb f room dep ent i))) N h := by
  refine Rn.of rfl rfl rfl ?_
  have hM := ok_Node_wordOfBytes
  repeat (first | refine go_pure hM rfl ?_ | (refine go_get (fs := ?_) (v := ?_) hM rfl ?_ ?_ ?_; rotate_left 2; assumption; rfl) | refine go_ldc hM rfl ?_)
  refine go_if_ne hM rfl (by omega) (fun hc => ?_) (fun hc => ?_)
  · repeat (first | refine go_pure hM rfl ?_ | (refine go_get (fs := ?_) (v := ?_) hM rfl ?_ ?_ ?_; rotate_left 2; assumption; rfl) | refine go_ldc hM rfl ?_)
    refine go_icmp_ne hM rfl (by omega) (by omega) (fun hc1 => ?_) (fun hc1 => ?_)
    · repeat (first | refine go_pure hM rfl ?_ | (refine go_get (fs := ?_) (v := ?_) hM rfl ?_ ?_ ?_; rotate_left 2; assumption; rfl) | refine go_ldc hM rfl ?_)
      refine go_if_lt hM rfl (by omega) (fun hc2 => ?_) (fun hc2 => ?_)
      · repeat (first | refine go_pure hM rfl ?_ | (refine go_get (fs := ?_) (v := ?_) hM rfl ?_ ?_ ?_; rotate_left 2; assumption; rfl) | refine go_ldc hM rfl ?_)
        exact go_iret hM rfl rfl ⟨by rw [gWb, if_neg hc, if_neg hc1, if_neg (by omega)], rfl, rfl⟩
      · repeat (first | refine go_pure hM rfl ?_ | (refine go_get (fs := ?_) (v := ?_) hM rfl ?_ ?_ ?_; rotate_left 2; assumption; rfl) | refine go_ldc hM rfl ?_)
        refine go_icmp_ge hM rfl (by omega) (by omega) (fun hc3 => ?_) (fun hc3 => ?_)
        · repeat (first | refine go_pure hM rfl ?_ | (refine go_get (fs := ?_) (v := ?_) hM rfl ?_ ?_ ?_; rotate_left 2; assumption; rfl) | refine go_ldc hM rfl ?_)
          exact go_iret hM rfl rfl ⟨by rw [gWb, if_neg hc, if_neg hc1, if_neg (by omega)], rfl, rfl⟩
        · repeat (first | refine go_pure hM rfl ?_ | (refine go_get (fs := ?_) (v := ?_) hM rfl ?_ ?_ ?_; rotate_left 2; assumption; rfl) | refine go_ldc hM rfl ?_)
          refine go_alen hM rfl hA rfl ?_
          refine go_icmp_ge hM rfl (by omega) (by omega) (fun hc4 => absurd hc4 (by omega)) (fun hc4 => ?_)
          repeat (first | refine go_pure hM rfl ?_ | (refine go_get (fs := ?_) (v := ?_) hM rfl ?_ ?_ ?_; rotate_left 2; assumption; rfl) | refine go_ldc hM rfl ?_)
          refine go_iald hM rfl hA (by omega) (by omega) (by omega) ?_
          repeat (first | refine go_pure hM rfl ?_ | (refine go_get (fs := ?_) (v := ?_) hM rfl ?_ ?_ ?_; rotate_left 2; assumption; rfl) | refine go_ldc hM rfl ?_)
          exact go_iret hM rfl rfl ⟨by rw [gWb, if_neg hc, if_neg hc1, if_pos (by omega)], rfl, rfl⟩
    · repeat (first | refine go_pure hM rfl ?_ | (refine go_get (fs := ?_) (v := ?_) hM rfl ?_ ?_ ?_; rotate_left 2; assumption; rfl) | refine go_ldc hM rfl ?_)
      refine go_ishl 16 hM rfl (by decide) (by omega) (by omega) ?_
      refine go_ior 16 hM rfl (by omega) (by omega) (by omega) ?_
      exact go_iret hM rfl rfl ⟨by rw [gWb, if_neg hc, if_pos hc1], rfl, rfl⟩
  · repeat (first | refine go_pure hM rfl ?_ | (refine go_get (fs := ?_) (v := ?_) hM rfl ?_ ?_ ?_; rotate_left 2; assumption; rfl) | refine go_ldc hM rfl ?_)
    refine go_ishl 16 hM rfl (by decide) (by omega) (by omega) ?_
    refine go_ior 16 hM rfl (by omega) (by omega) (by omega) ?_
    exact go_iret hM rfl rfl ⟨by rw [gWb, if_pos hc], rfl, rfl⟩
/-- a byte of four -/
def gBy (x r : Int) : Int := if r = 0 then x % 256 else if r = 1 then x / 256 % 256 else if r = 2 then x / 65536 % 256 else x / 16777216 % 256
set_option maxHeartbeats 1000000 in
theorem c_byteAt {i : Int} (hN : h o = some (gNd num room tk dep ent w)) (hA : h w = some (gIA nw f)) (hnw : (nw : Int) = room * 3) (hro : 4 ≤ room ∧ room ≤ 84) (hen : 0 ≤ ent ∧ ent ≤ room) (hd : 0 ≤ dep ∧ dep ≤ 5) (hi : 0 ≤ i ∧ i ≤ 1023) (rf : ∀ i, 0 ≤ f i ∧ f i ≤ 2147483647) : Rd G m_Node_byteAt [vR o, vI i] N h (some (vI (gBy (gWb f room dep ent (i / 4)) (i % 4)))) N h := by
  refine Rn.of rfl rfl rfl ?_
  have hM := ok_Node_byteAt
  have rw9 : 0 ≤ gWb f room dep ent (i / 4) ∧ gWb f room dep ent (i / 4) ≤ 2147483647 := by
    unfold gWb
    split
    · omega
    · split
      · omega
      · split
        · exact rf _
        · omega
  repeat (first | refine go_pure hM rfl ?_ | (refine go_get (fs := ?_) (v := ?_) hM rfl ?_ ?_ ?_; rotate_left 2; assumption; rfl) | refine go_ldc hM rfl ?_)
  refine go_iand (q := 4) 2 hM rfl (by decide) (by decide) (by decide) ?_
  repeat (first | refine go_pure hM rfl ?_ | (refine go_get (fs := ?_) (v := ?_) hM rfl ?_ ?_ ?_; rotate_left 2; assumption; rfl) | refine go_ldc hM rfl ?_)
  refine go_idiv hM rfl (by omega) (by omega) ?_
  repeat (first | refine go_pure hM rfl ?_ | (refine go_get (fs := ?_) (v := ?_) hM rfl ?_ ?_ ?_; rotate_left 2; assumption; rfl) | refine go_ldc hM rfl ?_)
  refine go_cV hM rfl rfl rfl hN rfl (c_wordOfBytes hN hA hnw hro hen hd (by omega)) rfl ?_
  generalize gWb f room dep ent (i / 4) = x at rw9 ⊢
  repeat (first | refine go_pure hM rfl ?_ | (refine go_get (fs := ?_) (v := ?_) hM rfl ?_ ?_ ?_; rotate_left 2; assumption; rfl) | refine go_ldc hM rfl ?_)
  have hc : i % 4 = 0 ∨ i % 4 = 1 ∨ i % 4 = 2 ∨ i % 4 = 3 := by omega
  have e4 : ((4 : Nat) : Int) = 4 := rfl
  rw [e4]
  rcases hc with hc | hc | hc | hc
  · rw [hc]
    refine go_iushr 0 hM rfl (by decide) (by omega) (by omega) ?_
    repeat (first | refine go_pure hM rfl ?_ | (refine go_get (fs := ?_) (v := ?_) hM rfl ?_ ?_ ?_; rotate_left 2; assumption; rfl) | refine go_ldc hM rfl ?_)
    refine go_iand (q := 256) 8 hM rfl (by decide) (by decide) (by decide) ?_
    exact go_iret hM rfl rfl ⟨by rw [gBy, if_pos rfl]; congr 2; omega, rfl, rfl⟩
  · rw [hc]
    refine go_iushr 8 hM rfl (by decide) (by omega) (by omega) ?_
    repeat (first | refine go_pure hM rfl ?_ | (refine go_get (fs := ?_) (v := ?_) hM rfl ?_ ?_ ?_; rotate_left 2; assumption; rfl) | refine go_ldc hM rfl ?_)
    refine go_iand (q := 256) 8 hM rfl (by decide) (by decide) (by decide) ?_
    exact go_iret hM rfl rfl ⟨by rw [gBy, if_neg (by decide), if_pos rfl]; congr 2, rfl, rfl⟩
  · rw [hc]
    refine go_iushr 16 hM rfl (by decide) (by omega) (by omega) ?_
    repeat (first | refine go_pure hM rfl ?_ | (refine go_get (fs := ?_) (v := ?_) hM rfl ?_ ?_ ?_; rotate_left 2; assumption; rfl) | refine go_ldc hM rfl ?_)
    refine go_iand (q := 256) 8 hM rfl (by decide) (by decide) (by decide) ?_
    exact go_iret hM rfl rfl ⟨by rw [gBy, if_neg (by decide), if_neg (by decide), if_pos rfl]; congr 2, rfl, rfl⟩
  · rw [hc]
    refine go_iushr 24 hM rfl (by decide) (by omega) (by omega) ?_
    repeat (first | refine go_pure hM rfl ?_ | (refine go_get (fs := ?_) (v := ?_) hM rfl ?_ ?_ ?_; rotate_left 2; assumption; rfl) | refine go_ldc hM rfl ?_)
    refine go_iand (q := 256) 8 hM rfl (by decide) (by decide) (by decide) ?_
    exact go_iret hM rfl rfl ⟨by rw [gBy, if_neg (by decide), if_neg (by decide), if_neg (by decide)]; congr 2, rfl, rfl⟩
set_option maxHeartbeats 1000000 in
/-- new Node(number, room), its object is there; the words are the cell n -/
theorem c_Node_init {n r : Nat} {x : Int} (hn : 0 < n) (hno : n ≠ o) (hr : 4 ≤ r ∧ r ≤ 84) (ho : h o = some (.inr (0, [vI 0, vI 0, vI 0, vI 0, vI 0, vN]))) : Rn G m_Node_init [vR o, vI x, vI r] (some n) h 1 252 (gEq none (some (n + 1)) (gU (gU h n (gIA (r * 3) (fun _ => 0))) o (gNd x r 0 0 0 n))) gNo := by
  refine Rn.of rfl rfl rfl ?_
  have hM := ok_Node_init
  repeat (first | refine go_pure hM rfl ?_ | (refine go_get (fs := ?_) (v := ?_) hM rfl ?_ ?_ ?_; rotate_left 2; assumption; rfl) | refine go_ldc hM rfl ?_)
  refine go_obj hM rfl rfl ?_
  repeat (first | refine go_pure hM rfl ?_ | (refine go_get (fs := ?_) (v := ?_) hM rfl ?_ ?_ ?_; rotate_left 2; assumption; rfl) | refine go_ldc hM rfl ?_)
  refine go_put hM rfl ho rfl rfl ?_
  repeat (first | refine go_pure hM rfl ?_ | (refine go_get (fs := ?_) (v := ?_) hM rfl ?_ ?_ ?_; rotate_left 2; assumption; rfl) | refine go_ldc hM rfl ?_)
  refine go_min hM rfl (by omega) (by omega) rfl ?_
  have e0 : (if (r : Int) < 84 then (r : Int) else 84) = r := by split <;> omega
  rw [e0]
  refine go_max hM rfl (by omega) (by omega) rfl ?_
  have e1 : (if (4 : Int) < r then (r : Int) else 4) = r := by split <;> omega
  rw [e1]
  refine go_put hM rfl (gU_s _ _ _) rfl rfl ?_
  rw [gU_uu]
  refine go_pure hM rfl ?_
  refine go_pure hM rfl ?_
  refine go_get hM rfl (gU_s _ _ _) rfl ?_
  repeat (first | refine go_pure hM rfl ?_ | (refine go_get (fs := ?_) (v := ?_) hM rfl ?_ ?_ ?_; rotate_left 2; assumption; rfl) | refine go_ldc hM rfl ?_)
  refine go_room (c := 0 + 1) (s := 0 + r * 3) (by omega) (by omega) ?_
  refine go_newI (ln := r * 3) hM rfl hn (by omega) (by omega) ?_
  refine go_put hM rfl (by rw [gU_n (Ne.symm hno)]; exact gU_s _ _ _) rfl rfl ?_
  refine go_vret hM rfl rfl ⟨rfl, rfl, ?_⟩
  rw [gU_comm (Ne.symm hno), gU_uu]
end
