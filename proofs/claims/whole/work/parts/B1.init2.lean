/-! the constructor of the class -/
def A0 (m : Nat) : cA := (fun _ => 0, fun _ => 0, fun _ => 0, fun _ _ => 0, fun _ => 0, fun _ => 0, fun _ => 0, fun _ => 0, fun _ => 0, fun _ => 0, fun t _ => 256 + t, fun _ _ => 0, fun t _ => 256 + t, 255, m)
def hEt (h : gH) (m j : Nat) : gH := fun a => if a = 516 then some (.inl (3, 4, .inr (.inr (fun t => if t < j then some (517 + 6 * t) else none)))) else if 1 ≤ a ∧ a < 517 + 6 * j then hpx (A0 m) h a else h a
def mCl (x : Int) : Nat := (if 5 < (if x < 84 then x else 84) then (if x < 84 then x else 84) else 5).toNat
section
variable {G : gG} {h : gH} {m j : Nat} {x : Int}
theorem mCl_r : 5 ≤ mCl x ∧ mCl x ≤ 84 := by
  unfold mCl
  split <;> split <;> omega
theorem hEt_1 : hEt h m j 1 = some eEt := by
  unfold hEt
  rw [if_neg (by omega), if_pos (by omega)]
  exact hp_et
theorem hEt_516 : hEt h m j 516 = some (.inl (3, 4, .inr (.inr (fun t => if t < j then some (517 + 6 * t) else none)))) := if_pos rfl
/-- a new tree -/
theorem hTr_2 {o : Nat} : hTr h o j (o + 2) = some (gIA 12 (fun _ => 0)) := by simp [hTr]
theorem hTr_4 {o : Nat} : hTr h o j (o + 4) = some (gIA 6 (fun _ => 0)) := by simp [hTr]
theorem hEt_t {t r : Nat} (ht : t < 4) (hr : r < 6) : hpx (A0 m) h (517 + 6 * t + r) = hTr (fun _ => none) (517 + 6 * t) 6 (517 + 6 * t + r) := by
  rw [hp_t r ht hr]
  have o1 : oA (256 + t) = 517 + 6 * t + 1 := by
    unfold oA
    rw [if_neg (by omega)]
    omega
  have e1 : nNo (256 + t) = 0 := if_neg (by omega)
  have e2 : aRm (A0 m) (256 + t) = 4 := if_neg (by omega)
  have er : eRf (fun _ => 256 + t) = (.inl (2, 6, .inr (.inr (fun k => if k < 6 then some (517 + 6 * t + 1) else none))) : gE) := by
    show (.inl (2, 6, .inr (.inr (fun k => if k < 6 then some (oA (256 + t)) else none))) : gE) = _
    rw [o1]
  match r, hr with
  | 0, _ =>
    rw [Nat.add_zero, hTr_0]
    show some (eTr (A0 m) t) = _
    unfold eTr
    rw [o1, show 520 + 6 * t = 517 + 6 * t + 3 by omega, show 521 + 6 * t = 517 + 6 * t + 4 by omega, show 522 + 6 * t = 517 + 6 * t + 5 by omega]
    rfl
  | 1, _ =>
    rw [hTr_1]
    show some (eNd (A0 m) (256 + t)) = _
    unfold eNd wA
    rw [o1, e1, e2]
    rfl
  | 2, _ =>
    rw [hTr_2]
    show some (eWd (A0 m) (256 + t)) = _
    unfold eWd
    rw [e2]
    rfl
  | 3, _ =>
    rw [hTr_3]
    exact congrArg some er
  | 4, _ =>
    rw [hTr_4]
    rfl
  | 5, _ =>
    rw [hTr_5]
    exact congrArg some er
theorem hTr_in {h' : gH} {o a : Nat} (h1 : o ≤ a) (h2 : a < o + 6) : hTr h o j a = hTr h' o j a := by
  unfold hTr
  split
  · rfl
  split
  · rfl
  split
  · rfl
  split
  · rfl
  split
  · rfl
  omega
theorem hTr_out {o a : Nat} (h1 : ¬ (o ≤ a ∧ a < o + 6)) : hTr h o j a = h a := by
  unfold hTr
  rw [if_neg (by omega), if_neg (by omega), if_neg (by omega), if_neg (by omega), if_neg (by omega)]
theorem hEt_s {X : gE} (hj : j < 4) : gU (hTr (gU (hEt h m j) (517 + 6 * j) X) (517 + 6 * j) 6) 516 (.inl (3, 4, .inr (.inr (gF (fun t => if t < j then some (517 + 6 * t) else none) j (some (517 + 6 * j)))))) = hEt h m (j + 1) := by
  funext a
  by_cases a1 : a = 516
  · rw [a1, gU_s, hEt_516]
    have e9 : gF (fun t => if t < j then some (517 + 6 * t) else none) j (some (517 + 6 * j)) = (fun t => if t < j + 1 then some (517 + 6 * t) else none) := by
      funext i
      by_cases e : i = j
      · rw [e, gF_s, if_pos (by omega)]
      · rw [gF_n e]
        by_cases e2 : i < j
        · rw [if_pos e2, if_pos (by omega)]
        · rw [if_neg e2, if_neg (by omega)]
    rw [e9]
  · rw [gU_n a1]
    by_cases a2 : 517 + 6 * j ≤ a ∧ a < 517 + 6 * j + 6
    · rw [hTr_in (h' := fun _ => none) a2.1 a2.2]
      unfold hEt
      rw [if_neg a1, if_pos (by omega)]
      obtain ⟨r, rfl⟩ : ∃ r, a = 517 + 6 * j + r := ⟨a - (517 + 6 * j), by omega⟩
      exact (hEt_t hj (by omega)).symm
    · rw [hTr_out a2, gU_n (by omega)]
      unfold hEt
      rw [if_neg a1, if_neg a1]
      by_cases a3 : 1 ≤ a ∧ a < 517 + 6 * j
      · rw [if_pos a3, if_pos (by omega)]
      · rw [if_neg a3, if_neg (by omega)]
theorem hEt_4 (h0 : h 0 = none) : hEt h m 4 = hpx (A0 m) h := by
  funext a
  unfold hEt
  by_cases a1 : a = 516
  · rw [if_pos a1, a1, hp_ts]
  · rw [if_neg a1]
    by_cases a2 : 1 ≤ a ∧ a < 517 + 6 * 4
    · rw [if_pos a2]
    · rw [if_neg a2]
      unfold hpx
      by_cases a3 : 541 ≤ a
      · rw [if_pos a3]
      · have a4 : a = 0 := by omega
        rw [if_neg a3, if_pos a4, a4, h0]
theorem hEt_0 : gU (gU (gU (hPo (gU h 2 (.inr (1, [vI 0, vN]))) m 256) 1 (.inr (3, [vR 2, vN]))) 516 (.inl (3, 4, .inr (.inr (fun _ => none))))) 1 (.inr (3, [vR 2, vR 516])) = hEt h m 0 := by
  funext a
  unfold hEt
  by_cases a1 : a = 1
  · rw [a1, gU_s, if_neg (by omega), if_pos (by omega), hp_et]
  rw [gU_n a1]
  by_cases a2 : a = 516
  · rw [a2, gU_s, if_pos rfl]
    rfl
  rw [gU_n a2, gU_n a1, if_neg a2]
  unfold hPo
  by_cases a3 : a = 2
  · rw [if_pos a3, if_pos (by omega), a3, hp_po]
    rfl
  rw [if_neg a3]
  by_cases a4 : a = 3
  · rw [if_pos a4, if_pos (by omega), a4, hp_ns]
    unfold eNs
    have e9 : (fun i => if i < 256 then some (4 + 2 * i) else none) = (fun i => if i < 256 then some (oA i) else none) := by
      funext i
      by_cases e : i < 256
      · rw [if_pos e, if_pos e]
        unfold oA
        rw [if_pos e]
      · rw [if_neg e, if_neg e]
    rw [e9]
  rw [if_neg a4]
  by_cases a5 : 4 ≤ a ∧ a < 4 + 2 * 256
  · rw [if_pos a5, if_pos (show 1 ≤ a ∧ a < 517 + 6 * 0 by omega)]
    obtain ⟨i, hi⟩ : ∃ i, i = (a - 4) / 2 := ⟨_, rfl⟩
    rw [← hi]
    have lt : i < 256 := by omega
    have e1 : nNo i = (i : Int) := if_pos lt
    have e2 : aRm (A0 m) i = m := if_pos lt
    have e3 : oA i = 4 + 2 * i := if_pos lt
    by_cases a6 : a % 2 = 0
    · rw [if_pos a6, show a = oA i by omega, hp_nd (by omega)]
      unfold eNd wA
      rw [e1, e2]
      rfl
    · rw [if_neg a6, show a = wA i by unfold wA; omega, hp_wd (by omega)]
      unfold eWd
      rw [e2]
      rfl
  · rw [if_neg a5, gU_n a3, if_neg (by omega)]
set_option maxHeartbeats 4000000 in
theorem c_ET_init (rx : (-2147483648 ≤ x ∧ x ≤ 2147483647)) (h1 : h 1 = some (.inr (3, [vN, vN]))) : Rn G m_ET_init [vR 1, vI x] (some 2) h 539 67458 (gEq none (some 541) (hEt h (mCl x) 4)) gNo := by
  refine Rn.of rfl rfl rfl ?_
  have hM := ok_ET_init
  have hm := mCl_r (x := x)
  have loop : ∀ (q j : Nat) (i : Int), q + j = 4 → i = j → Go G m_ET_init (gFin G (gEq none (some 541) (hEt h (mCl x) 4)) gNo) 35 [some (vR 1), some (vI x), some (vI i)] [] (some (517 + 6 * j)) (hEt h (mCl x) j) (6 * q) (287 * q) := by
    intro q
    induction q with
    | zero =>
      intro j i h1 h2
      have h1 : j = 4 := by omega
      subst h1
      repeat (first | refine go_pure hM rfl ?_ | (refine go_get (fs := ?_) (v := ?_) hM rfl ?_ ?_ ?_; rotate_left 2; assumption; rfl) | refine go_ldc hM rfl ?_)
      refine go_icmp_ge hM rfl (by omega) (by omega) (fun _ => ?_) (fun h9 => absurd h9 (by omega))
      exact go_vret hM rfl rfl ⟨rfl, rfl, rfl⟩
    | succ q ih =>
      intro j i h1 h2
      subst h2
      have k2 := hEt_1 (h := h) (m := mCl x) (j := j)
      repeat (first | refine go_pure hM rfl ?_ | (refine go_get (fs := ?_) (v := ?_) hM rfl ?_ ?_ ?_; rotate_left 2; assumption; rfl) | refine go_ldc hM rfl ?_)
      refine go_icmp_ge hM rfl (by omega) (by omega) (fun h9 => absurd h9 (by omega)) (fun _ => ?_)
      repeat (first | refine go_pure hM rfl ?_ | (refine go_get (fs := ?_) (v := ?_) hM rfl ?_ ?_ ?_; rotate_left 2; assumption; rfl) | refine go_ldc hM rfl ?_)
      refine go_room (c := (6 * q + 5) + 1) (s := (287 * q + 276) + 11) (by omega) (by omega) ?_
      refine go_new (n := 517 + 6 * j) hM rfl (by omega) rfl ?_
      have k3 : ∀ X : gE, gU (hEt h (mCl x) j) (517 + 6 * j) X 1 = some eEt := fun X => by
        rw [gU_n (by omega)]
        exact k2
      have k4 := k3 (.inr (2, gDfs 2 11))
      repeat (first | refine go_pure hM rfl ?_ | (refine go_get (fs := ?_) (v := ?_) hM rfl ?_ ?_ ?_; rotate_left 2; assumption; rfl) | refine go_ldc hM rfl ?_)
      refine go_callI (mc := 5) (ms := 276) (c := 6 * q) (s := 287 * q) hM rfl rfl rfl (c_Tree_init (o := 517 + 6 * j) (by omega) (gU_s _ _ _)) rfl (fun v N' h' hq => ?_)
      obtain ⟨rfl, rfl, rfl⟩ := hq
      refine go_aast (f := fun t => if t < j then some (517 + 6 * t) else none) (v := 517 + 6 * j) (ci := 2) hM rfl (by rw [hTr_out (by omega), gU_n (by omega)]; exact hEt_516) rfl hTr_0 rfl (by omega) (by omega) (by omega) ?_
      rw [show ((j : Nat) : Int).toNat = j by omega, hEt_s (by omega)]
      have nx := ih (j + 1) ((j : Int) + 1) (by omega) (by omega)
      repeat (first | exact nx | refine go_pure hM rfl ?_ | (refine go_get (fs := ?_) (v := ?_) hM rfl ?_ ?_ ?_; rotate_left 2; assumption; rfl) | refine go_ldc hM rfl ?_)
  repeat (first | refine go_pure hM rfl ?_ | (refine go_get (fs := ?_) (v := ?_) hM rfl ?_ ?_ ?_; rotate_left 2; assumption; rfl) | refine go_ldc hM rfl ?_)
  refine go_obj hM rfl rfl ?_
  repeat (first | refine go_pure hM rfl ?_ | (refine go_get (fs := ?_) (v := ?_) hM rfl ?_ ?_ ?_; rotate_left 2; assumption; rfl) | refine go_ldc hM rfl ?_)
  refine go_room (c := (25 + 513) + 1) (s := (1152 + 66304) + 2) (by omega) (by omega) ?_
  refine go_new (n := 2) hM rfl (by omega) rfl ?_
  repeat (first | refine go_pure hM rfl ?_ | (refine go_get (fs := ?_) (v := ?_) hM rfl ?_ ?_ ?_; rotate_left 2; assumption; rfl) | refine go_ldc hM rfl ?_)
  refine go_min hM rfl (by omega) (by omega) rfl ?_
  refine go_max hM rfl (by omega) (by split <;> omega) rfl ?_
  have em : (if 5 < (if x < 84 then x else 84) then (if x < 84 then x else 84) else 5) = ((mCl x : Nat) : Int) := by
    unfold mCl
    split <;> split <;> omega
  rw [em]
  refine go_callI (mc := 513) (ms := 66304) (c := 25) (s := 1152) hM rfl rfl rfl (c_Pool_init (m := mCl x) hm (gU_s _ _ _)) rfl (fun v N' h' hq => ?_)
  obtain ⟨rfl, rfl, rfl⟩ := hq
  have k1 : hPo (gU h 2 (.inr (1, gDfs 1 2))) (mCl x) 256 1 = some (.inr (3, [vN, vN])) := by
    unfold hPo
    rw [if_neg (by omega), if_neg (by omega), if_neg (by omega), gU_n (by omega)]
    exact h1
  refine go_put hM rfl k1 rfl rfl ?_
  repeat (first | refine go_pure hM rfl ?_ | (refine go_get (fs := ?_) (v := ?_) hM rfl ?_ ?_ ?_; rotate_left 2; assumption; rfl) | refine go_ldc hM rfl ?_)
  refine go_room (c := 24 + 1) (s := 1148 + 4) (by omega) (by omega) ?_
  refine go_newA (n := 516) (ln := 4) hM rfl rfl (by omega) rfl (by omega) ?_
  refine go_put hM rfl (by rw [gU_n (by omega)]; exact gU_s _ _ _) rfl rfl ?_
  have e9 := hEt_0 (h := h) (m := mCl x)
  have nx := loop 4 0 0 rfl rfl
  rw [← e9] at nx
  repeat (first | exact nx | refine go_pure hM rfl ?_ | (refine go_get (fs := ?_) (v := ?_) hM rfl ?_ ?_ ?_; rotate_left 2; assumption; rfl) | refine go_ldc hM rfl ?_)
end
