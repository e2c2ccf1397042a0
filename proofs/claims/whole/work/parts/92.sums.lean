/-! sums over the runs -/
section
variable {f g : Nat → Int} {n q j : Nat} {x y : Int}
theorem smI_congr : ∀ {n : Nat}, (∀ i, i < n → f i = g i) → smI f n = smI g n := by
  intro n
  induction n with
  | zero => intro _; rfl
  | succ n ih =>
    intro h
    show smI f n + f n = smI g n + g n
    rw [ih (fun i hi => h i (by omega)), h n (by omega)]
theorem smI_gF : ∀ {n : Nat}, q < n → smI (gF f q y) n = smI f n - f q + y := by
  intro n
  induction n with
  | zero => intro h; omega
  | succ n ih =>
    intro h
    show smI (gF f q y) n + gF f q y n = smI f n + f n - f q + y
    by_cases e : n = q
    · subst e
      rw [gF_s, smI_congr (f := gF f n y) (g := f) (fun i hi => gF_n (by omega))]
      omega
    · rw [ih (by omega), gF_n e]
      omega
theorem smI_del : ∀ {n : Nat}, q ≤ n → smI (delN f q) n = smI f (n + 1) - f q := by
  intro n
  induction n with
  | zero =>
    intro h
    have : q = 0 := by omega
    subst this
    show 0 = 0 + f 0 - f 0
    omega
  | succ n ih =>
    intro h
    show smI (delN f q) n + delN f q n = smI f (n + 1) + f (n + 1) - f q
    by_cases e : q = n + 1
    · subst e
      rw [del_lo (by omega), smI_congr (f := delN f (n + 1)) (g := f) (fun i hi => del_lo (by omega))]
      show smI f n + f n = smI f n + f n + _ - _
      omega
    · rw [ih (by omega), del_hi (by omega)]
      omega
theorem smI_ins : ∀ {n : Nat}, j ≤ n → smI (insN f j x) (n + 1) = smI f n + x := by
  intro n
  induction n with
  | zero =>
    intro h
    have : j = 0 := by omega
    subst this
    show 0 + insN f 0 x 0 = 0 + x
    rw [insN_at]
  | succ n ih =>
    intro h
    show smI (insN f j x) (n + 1) + insN f j x (n + 1) = smI f n + f n + x
    by_cases e : j = n + 1
    · subst e
      rw [insN_at, smI_congr (f := insN f (n + 1) x) (g := f) (fun i hi => insN_lo (by omega))]
      rfl
    · rw [ih (by omega), insN_hi (by omega)]
      omega
theorem mul_gF : (fun i => gF f q x i * gF g q y i) = gF (fun i => f i * g i) q (x * y) := by
  funext i
  by_cases e : i = q
  · subst e
    rw [gF_s, gF_s, gF_s]
  · rw [gF_n e, gF_n e, gF_n e]
theorem mul_del : (fun i => delN f q i * delN g q i) = delN (fun i => f i * g i) q := by
  funext i
  by_cases e : i < q
  · rw [del_lo e, del_lo e, del_lo e]
  · rw [del_hi (by omega), del_hi (by omega), del_hi (by omega)]
theorem mul_ins : (fun i => insN f j x i * insN g j y i) = insN (fun i => f i * g i) j (x * y) := by
  funext i
  rcases Nat.lt_trichotomy i j with h | h | h
  · rw [insN_lo h, insN_lo h, insN_lo h]
  · rw [h, insN_at, insN_at, insN_at]
  · obtain ⟨k, rfl⟩ : ∃ k, i = k + 1 := ⟨i - 1, by omega⟩
    rw [insN_hi (by omega), insN_hi (by omega), insN_hi (by omega)]
end
