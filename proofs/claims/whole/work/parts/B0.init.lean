/-! the constructors: Pool, Tree -/
def hPo (h : gH) (m j : Nat) : gH := fun a => if a = 2 then some (.inr (1, [vI 255, vR 3])) else if a = 3 then some (.inl (2, 256, .inr (.inr (fun i => if i < j then some (4 + 2 * i) else none)))) else if 4 ≤ a ∧ a < 4 + 2 * j then (if a % 2 = 0 then some (gNd (((a - 4) / 2 : Nat) : Int) (m : Int) 0 0 0 (a + 1)) else some (gIA (m * 3) (fun _ => 0))) else h a
section
variable {G : gG} {h : gH} {m j : Nat}
theorem hPo_2 : hPo h m j 2 = some (.inr (1, [vI 255, vR 3])) := by simp [hPo]
theorem hPo_3 : hPo h m j 3 = some (.inl (2, 256, .inr (.inr (fun i => if i < j then some (4 + 2 * i) else none)))) := by simp [hPo]
theorem hPo_s {X : gE} : gU (gU (gU (gU (hPo h m j) (4 + 2 * j) X) (4 + 2 * j + 1) (gIA (m * 3) (fun _ => 0))) (4 + 2 * j) (gNd (j : Int) (m : Int) 0 0 0 (4 + 2 * j + 1))) 3 (.inl (2, 256, .inr (.inr (gF (fun i => if i < j then some (4 + 2 * i) else none) j (some (4 + 2 * j)))))) = hPo h m (j + 1) := by
  funext a
  by_cases h3 : a = 3
  · rw [h3, gU_s, hPo_3]
    have e9 : gF (fun i => if i < j then some (4 + 2 * i) else none) j (some (4 + 2 * j)) = (fun i => if i < j + 1 then some (4 + 2 * i) else none) := by
      funext i
      by_cases e : i = j
      · rw [e, gF_s, if_pos (by omega)]
      · rw [gF_n e]
        by_cases e2 : i < j
        · rw [if_pos e2, if_pos (by omega)]
        · rw [if_neg e2, if_neg (by omega)]
    rw [e9]
  · rw [gU_n h3]
    by_cases h4 : a = 4 + 2 * j
    · rw [h4, gU_s]
      unfold hPo
      rw [if_neg (by omega), if_neg (by omega), if_pos (by omega), if_pos (by omega), show (4 + 2 * j - 4) / 2 = j by omega]
    · rw [gU_n h4]
      by_cases h5 : a = 4 + 2 * j + 1
      · rw [h5, gU_s]
        unfold hPo
        rw [if_neg (by omega), if_neg (by omega), if_pos (by omega), if_neg (by omega)]
      · rw [gU_n h5, gU_n h4]
        unfold hPo
        by_cases h2 : a = 2
        · rw [if_pos h2, if_pos h2]
        · rw [if_neg h2, if_neg h2, if_neg h3, if_neg h3]
          by_cases h6 : 4 ≤ a ∧ a < 4 + 2 * j
          · rw [if_pos h6, if_pos (show 4 ≤ a ∧ a < 4 + 2 * (j + 1) by omega)]
          · rw [if_neg h6, if_neg (show ¬ (4 ≤ a ∧ a < 4 + 2 * (j + 1)) by omega)]
set_option maxHeartbeats 4000000 in
theorem c_Pool_init (hm : 5 ≤ m ∧ m ≤ 84) (h2 : h 2 = some (.inr (1, [vI 0, vN]))) : Rn G m_Pool_init [vR 2, vI m] (some 3) h 513 66304 (gEq none (some 516) (hPo h m 256)) gNo := by
  refine Rn.of rfl rfl rfl ?_
  have hM := ok_Pool_init
  have loop : ∀ (q j : Nat) (i : Int), q + j = 256 → i = j → Go G m_Pool_init (gFin G (gEq none (some 516) (hPo h m 256)) gNo) 23 [some (vR 2), some (vI m), some (vI i)] [] (some (4 + 2 * j)) (hPo h m j) (2 * q) (258 * q) := by
    intro q
    induction q with
    | zero =>
      intro j i h1 h2
      have h1 : j = 256 := by omega
      subst h1
      repeat (first | refine go_pure hM rfl ?_ | (refine go_get (fs := ?_) (v := ?_) hM rfl ?_ ?_ ?_; rotate_left 2; assumption; rfl) | refine go_ldc hM rfl ?_)
      refine go_icmp_ge hM rfl (by omega) (by omega) (fun _ => ?_) (fun h9 => absurd h9 (by omega))
      exact go_vret hM rfl rfl ⟨rfl, rfl, rfl⟩
    | succ q ih =>
      intro j i h1 h2
      subst h2
      have k2 := hPo_2 (h := h) (m := m) (j := j)
      repeat (first | refine go_pure hM rfl ?_ | (refine go_get (fs := ?_) (v := ?_) hM rfl ?_ ?_ ?_; rotate_left 2; assumption; rfl) | refine go_ldc hM rfl ?_)
      refine go_icmp_ge hM rfl (by omega) (by omega) (fun h9 => absurd h9 (by omega)) (fun _ => ?_)
      repeat (first | refine go_pure hM rfl ?_ | (refine go_get (fs := ?_) (v := ?_) hM rfl ?_ ?_ ?_; rotate_left 2; assumption; rfl) | refine go_ldc hM rfl ?_)
      refine go_room (c := (2 * q + 1) + 1) (s := (258 * q + 252) + 6) (by omega) (by omega) ?_
      refine go_new (n := 4 + 2 * j) hM rfl (by omega) rfl ?_
      repeat (first | refine go_pure hM rfl ?_ | (refine go_get (fs := ?_) (v := ?_) hM rfl ?_ ?_ ?_; rotate_left 2; assumption; rfl) | refine go_ldc hM rfl ?_)
      refine go_callI (mc := 1) (ms := 252) (c := 2 * q) (s := 258 * q) hM rfl rfl rfl (c_Node_init (n := 4 + 2 * j + 1) (r := m) (by omega) (by omega) (by omega) (gU_s _ _ _)) rfl (fun v N' h' hq => ?_)
      obtain ⟨rfl, rfl, rfl⟩ := hq
      refine go_aast (f := fun i => if i < j then some (4 + 2 * i) else none) (v := 4 + 2 * j) (ci := 0) hM rfl (by rw [gU_n (by omega), gU_n (by omega), gU_n (by omega)]; exact hPo_3) rfl (gU_s _ _ _) rfl (by omega) (by omega) (by omega) ?_
      rw [show ((j : Nat) : Int).toNat = j by omega, hPo_s]
      have nx := ih (j + 1) ((j : Int) + 1) (by omega) (by omega)
      repeat (first | exact nx | refine go_pure hM rfl ?_ | (refine go_get (fs := ?_) (v := ?_) hM rfl ?_ ?_ ?_; rotate_left 2; assumption; rfl) | refine go_ldc hM rfl ?_)
  have k2 := h2
  repeat (first | refine go_pure hM rfl ?_ | (refine go_get (fs := ?_) (v := ?_) hM rfl ?_ ?_ ?_; rotate_left 2; assumption; rfl) | refine go_ldc hM rfl ?_)
  refine go_obj hM rfl rfl ?_
  repeat (first | refine go_pure hM rfl ?_ | (refine go_get (fs := ?_) (v := ?_) hM rfl ?_ ?_ ?_; rotate_left 2; assumption; rfl) | refine go_ldc hM rfl ?_)
  refine go_put hM rfl h2 rfl rfl ?_
  repeat (first | refine go_pure hM rfl ?_ | (refine go_get (fs := ?_) (v := ?_) hM rfl ?_ ?_ ?_; rotate_left 2; assumption; rfl) | refine go_ldc hM rfl ?_)
  refine go_room (c := 512 + 1) (s := 66048 + 256) (by omega) (by omega) ?_
  refine go_newA (n := 3) (ln := 256) hM rfl rfl (by omega) rfl (by omega) ?_
  refine go_put hM rfl (by rw [gU_n (by omega)]; exact gU_s _ _ _) rfl rfl ?_
  have e : gU (gU (gU h 2 (.inr (1, [vI 255, vN]))) 3 (.inl (2, 256, .inr (.inr (fun _ => none))))) 2 (.inr (1, [vI 255, vR 3])) = hPo h m 0 := by
    funext a
    unfold hPo
    by_cases a2 : a = 2
    · rw [a2, gU_s, if_pos rfl]
    · rw [gU_n a2, if_neg a2]
      by_cases a3 : a = 3
      · rw [a3, gU_s, if_pos rfl]
        rfl
      · rw [gU_n a3, gU_n a2, if_neg a3, if_neg (by omega)]
  rw [e]
  have nx := loop 256 0 0 rfl rfl
  repeat (first | exact nx | refine go_pure hM rfl ?_ | (refine go_get (fs := ?_) (v := ?_) hM rfl ?_ ?_ ?_; rotate_left 2; assumption; rfl) | refine go_ldc hM rfl ?_)
end
def hTr (h : gH) (o j : Nat) : gH := fun a => if a = o then some (.inr (2, [vR (o + 1), vI 0, vI 0, vI 0, vI 0, vI 0, vR 2, vR (o + 3), vR (o + 4), vI 0, vR (o + 5)])) else if a = o + 1 then some (gNd 0 4 0 0 0 (o + 2)) else if a = o + 2 then some (gIA 12 (fun _ => 0)) else if a = o + 3 ∨ a = o + 5 then some (.inl (2, 6, .inr (.inr (fun k => if k < j then some (o + 1) else none)))) else if a = o + 4 then some (gIA 6 (fun _ => 0)) else h a
section
variable {G : gG} {h : gH} {o j : Nat}
theorem hTr_0 : hTr h o j o = some (.inr (2, [vR (o + 1), vI 0, vI 0, vI 0, vI 0, vI 0, vR 2, vR (o + 3), vR (o + 4), vI 0, vR (o + 5)])) := by simp [hTr]
theorem hTr_1 : hTr h o j (o + 1) = some (gNd 0 4 0 0 0 (o + 2)) := by simp [hTr]
theorem hTr_3 : hTr h o j (o + 3) = some (.inl (2, 6, .inr (.inr (fun k => if k < j then some (o + 1) else none)))) := by simp [hTr]
theorem hTr_5 : hTr h o j (o + 5) = some (.inl (2, 6, .inr (.inr (fun k => if k < j then some (o + 1) else none)))) := by simp [hTr]
theorem gFj : gF (fun k => if k < j then some (o + 1) else none) j (some (o + 1)) = (fun k => if k < j + 1 then some (o + 1) else none) := by
  funext i
  by_cases e : i = j
  · rw [e, gF_s, if_pos (by omega)]
  · rw [gF_n e]
    by_cases e2 : i < j
    · rw [if_pos e2, if_pos (by omega)]
    · rw [if_neg e2, if_neg (by omega)]
theorem hTr_s : gU (gU (hTr h o j) (o + 3) (.inl (2, 6, .inr (.inr (fun k => if k < j + 1 then some (o + 1) else none))))) (o + 5) (.inl (2, 6, .inr (.inr (fun k => if k < j + 1 then some (o + 1) else none)))) = hTr h o (j + 1) := by
  funext a
  by_cases h5 : a = o + 5
  · rw [h5, gU_s, hTr_5]
  · rw [gU_n h5]
    by_cases h3 : a = o + 3
    · rw [h3, gU_s, hTr_3]
    · rw [gU_n h3]
      unfold hTr
      rw [if_neg (c := a = o + 3 ∨ a = o + 5) (by omega), if_neg (c := a = o + 3 ∨ a = o + 5) (by omega)]
set_option maxHeartbeats 4000000 in
theorem c_Tree_init (ho : 2 < o) (h2 : h o = some (.inr (2, [vN, vI 0, vI 0, vI 0, vI 0, vI 0, vN, vN, vN, vI 0, vN]))) : Rn G m_Tree_init [vR o, vR 2] (some (o + 1)) h 5 276 (gEq none (some (o + 6)) (hTr h o 6)) gNo := by
  refine Rn.of rfl rfl rfl ?_
  have hM := ok_Tree_init
  have loop : ∀ (q j : Nat) (i : Int), q + j = 6 → i = j → Go G m_Tree_init (gFin G (gEq none (some (o + 6)) (hTr h o 6)) gNo) 50 [some (vR o), some (vR 2), some (vI i)] [] (some (o + 6)) (hTr h o j) 0 0 := by
    intro q
    induction q with
    | zero =>
      intro j i h1 h2
      have h1 : j = 6 := by omega
      subst h1
      repeat (first | refine go_pure hM rfl ?_ | (refine go_get (fs := ?_) (v := ?_) hM rfl ?_ ?_ ?_; rotate_left 2; assumption; rfl) | refine go_ldc hM rfl ?_)
      refine go_icmp_ge hM rfl (by omega) (by omega) (fun _ => ?_) (fun h9 => absurd h9 (by omega))
      exact go_vret hM rfl rfl ⟨rfl, rfl, rfl⟩
    | succ q ih =>
      intro j i h1 h2
      subst h2
      have k2 := hTr_0 (h := h) (o := o) (j := j)
      repeat (first | refine go_pure hM rfl ?_ | (refine go_get (fs := ?_) (v := ?_) hM rfl ?_ ?_ ?_; rotate_left 2; assumption; rfl) | refine go_ldc hM rfl ?_)
      refine go_icmp_ge hM rfl (by omega) (by omega) (fun h9 => absurd h9 (by omega)) (fun _ => ?_)
      repeat (first | refine go_pure hM rfl ?_ | (refine go_get (fs := ?_) (v := ?_) hM rfl ?_ ?_ ?_; rotate_left 2; assumption; rfl) | refine go_ldc hM rfl ?_)
      refine go_aast (f := fun k => if k < j then some (o + 1) else none) (v := o + 1) (ci := 0) hM rfl hTr_3 rfl hTr_1 rfl (by omega) (by omega) (by omega) ?_
      rw [show ((j : Nat) : Int).toNat = j by omega, gFj]
      have k3 : gU (hTr h o j) (o + 3) (.inl (2, 6, .inr (.inr (fun k => if k < j + 1 then some (o + 1) else none)))) o = some (.inr (2, [vR (o + 1), vI 0, vI 0, vI 0, vI 0, vI 0, vR 2, vR (o + 3), vR (o + 4), vI 0, vR (o + 5)])) := by
        rw [gU_n (by omega)]
        exact k2
      repeat (first | refine go_pure hM rfl ?_ | (refine go_get (fs := ?_) (v := ?_) hM rfl ?_ ?_ ?_; rotate_left 2; assumption; rfl) | refine go_ldc hM rfl ?_)
      refine go_aast (f := fun k => if k < j then some (o + 1) else none) (v := o + 1) (ci := 0) hM rfl (by rw [gU_n (by omega)]; exact hTr_5) rfl (by rw [gU_n (by omega)]; exact hTr_1) rfl (by omega) (by omega) (by omega) ?_
      rw [show ((j : Nat) : Int).toNat = j by omega, gFj, hTr_s]
      have nx := ih (j + 1) ((j : Int) + 1) (by omega) (by omega)
      repeat (first | exact nx | refine go_pure hM rfl ?_ | (refine go_get (fs := ?_) (v := ?_) hM rfl ?_ ?_ ?_; rotate_left 2; assumption; rfl) | refine go_ldc hM rfl ?_)
  repeat (first | refine go_pure hM rfl ?_ | (refine go_get (fs := ?_) (v := ?_) hM rfl ?_ ?_ ?_; rotate_left 2; assumption; rfl) | refine go_ldc hM rfl ?_)
  refine go_obj hM rfl rfl ?_
  repeat (first | refine go_pure hM rfl ?_ | (refine go_get (fs := ?_) (v := ?_) hM rfl ?_ ?_ ?_; rotate_left 2; assumption; rfl) | refine go_ldc hM rfl ?_)
  refine go_put hM rfl h2 rfl rfl ?_
  repeat (first | refine go_pure hM rfl ?_ | (refine go_get (fs := ?_) (v := ?_) hM rfl ?_ ?_ ?_; rotate_left 2; assumption; rfl) | refine go_ldc hM rfl ?_)
  refine go_room (c := (3 + 1) + 1) (s := (18 + 252) + 6) (by omega) (by omega) ?_
  refine go_new (n := o + 1) hM rfl (by omega) rfl ?_
  repeat (first | refine go_pure hM rfl ?_ | (refine go_get (fs := ?_) (v := ?_) hM rfl ?_ ?_ ?_; rotate_left 2; assumption; rfl) | refine go_ldc hM rfl ?_)
  refine go_callI (mc := 1) (ms := 252) (c := 3) (s := 18) hM rfl rfl rfl (c_Node_init (n := o + 1 + 1) (r := 4) (by omega) (by omega) (by omega) (gU_s _ _ _)) rfl (fun v N' h' hq => ?_)
  obtain ⟨rfl, rfl, rfl⟩ := hq
  refine go_put hM rfl (by rw [gU_n (by omega), gU_n (by omega), gU_n (by omega)]; exact gU_s _ _ _) rfl rfl ?_
  repeat (first | refine go_pure hM rfl ?_ | (refine go_get (fs := ?_) (v := ?_) hM rfl ?_ ?_ ?_; rotate_left 2; assumption; rfl) | refine go_ldc hM rfl ?_)
  refine go_room (c := 2 + 1) (s := 12 + 6) (by omega) (by omega) ?_
  refine go_newA (n := o + 1 + 1 + 1) (ln := 6) hM rfl rfl (by omega) rfl (by omega) ?_
  refine go_put hM rfl (by rw [gU_n (by omega)]; exact gU_s _ _ _) rfl rfl ?_
  repeat (first | refine go_pure hM rfl ?_ | (refine go_get (fs := ?_) (v := ?_) hM rfl ?_ ?_ ?_; rotate_left 2; assumption; rfl) | refine go_ldc hM rfl ?_)
  refine go_room (c := 1 + 1) (s := 6 + 6) (by omega) (by omega) ?_
  refine go_newI (n := o + 1 + 1 + 1 + 1) (ln := 6) hM rfl (by omega) rfl (by omega) ?_
  refine go_put hM rfl (by rw [gU_n (by omega)]; exact gU_s _ _ _) rfl rfl ?_
  repeat (first | refine go_pure hM rfl ?_ | (refine go_get (fs := ?_) (v := ?_) hM rfl ?_ ?_ ?_; rotate_left 2; assumption; rfl) | refine go_ldc hM rfl ?_)
  refine go_room (c := 0 + 1) (s := 0 + 6) (by omega) (by omega) ?_
  refine go_newA (n := o + 1 + 1 + 1 + 1 + 1) (ln := 6) hM rfl rfl (by omega) rfl (by omega) ?_
  refine go_put hM rfl (by rw [gU_n (by omega)]; exact gU_s _ _ _) rfl rfl ?_
  have nx := loop 6 0 0 rfl rfl
  have e : ∀ h' : gH, h' = hTr h o 0 → Go G m_Tree_init (gFin G (gEq none (some (o + 6)) (hTr h o 6)) gNo) 48 [some (vR o), some (vR 2), none] [] (some (o + 6)) h' 0 0 := by
    intro h' e9
    subst e9
    repeat (first | exact nx | refine go_pure hM rfl ?_ | (refine go_get (fs := ?_) (v := ?_) hM rfl ?_ ?_ ?_; rotate_left 2; assumption; rfl) | refine go_ldc hM rfl ?_)
  refine e _ ?_
  funext a
  unfold hTr
  by_cases a0 : a = o
  · rw [a0, gU_s, if_pos rfl]
  rw [gU_n a0, if_neg a0]
  by_cases a5 : a = o + 5
  · rw [if_neg (by omega), if_neg (by omega), if_pos (Or.inr a5), a5]
    refine (gU_s _ _ _).trans ?_
    congr 5
  rw [gU_n (by omega), gU_n a0]
  by_cases a4 : a = o + 4
  · rw [if_neg (by omega), if_neg (by omega), if_neg (by omega), if_pos a4, a4]
    exact gU_s _ _ _
  rw [gU_n (by omega), gU_n a0]
  by_cases a3 : a = o + 3
  · rw [if_neg (by omega), if_neg (by omega), if_pos (Or.inl a3), a3]
    refine (gU_s _ _ _).trans ?_
    congr 5
  rw [gU_n (by omega), gU_n a0, if_neg (c := a = o + 3 ∨ a = o + 5) (by omega), if_neg a4]
  by_cases a1 : a = o + 1
  · rw [if_pos a1, a1]
    exact gU_s _ _ _
  rw [gU_n (by omega), if_neg a1]
  by_cases a2 : a = o + 2
  · rw [if_pos a2, a2]
    exact gU_s _ _ _
  rw [gU_n (by omega), if_neg a2, gU_n (by omega), gU_n a0]
end
