/-! the reference: behind, joins, runs -/
def Bh (S : mS) (k : Nat) (b : Int) : Prop := k ≤ mn S ∧ (∀ p, p < k → ms S p + ml S p ≤ b) ∧ ∀ p, k ≤ p → p < mn S → b < ms S p + ml S p
def jnR (s l v w s2 l2 v2 w2 : Int) : Prop := s + l = s2 ∧ v + l = v2 ∧ w = w2 ∧ l + l2 ≤ 32767 + w
section
variable {G : gG} {N : Option Nat} {h : gH} {R : rA} {SS : Nat → mS} {S : mS} {t k : Nat} {b : Int}
theorem mRn.ends (hr : mRn S) {i j : Nat} (h : i ≤ j) (hj : j < mn S) : ms S i + ml S i ≤ ms S j + ml S j := by
  by_cases e : i = j
  · rw [e]
    exact Int.le_refl _
  · have h1 := hr.mono (show i < j by omega) hj
    have h2 := (hr.1 j hj).2.1
    omega
theorem bh_ex (hr : mRn S) (b : Int) : ∃ k, Bh S k b := by
  have key : ∀ n, n ≤ mn S → ∃ k, k ≤ n ∧ (∀ p, p < k → ms S p + ml S p ≤ b) ∧ ∀ p, k ≤ p → p < n → b < ms S p + ml S p := by
    intro n
    induction n with
    | zero => intro _; exact ⟨0, Nat.le_refl _, fun p hp => absurd hp (Nat.not_lt_zero _), fun p _ hp => absurd hp (Nat.not_lt_zero _)⟩
    | succ n ih =>
      intro hn
      obtain ⟨k, k1, k2, k3⟩ := ih (by omega)
      by_cases e : ms S n + ml S n ≤ b
      · refine ⟨n + 1, Nat.le_refl _, fun p hp => ?_, fun p p1 p2 => by omega⟩
        have := hr.ends (show p ≤ n by omega) (by omega)
        omega
      · refine ⟨k, by omega, k2, fun p p1 p2 => ?_⟩
        by_cases e2 : p = n
        · rw [e2]
          omega
        · exact k3 p p1 (by omega)
  obtain ⟨k, k1, k2, k3⟩ := key (mn S) (Nat.le_refl _)
  exact ⟨k, k1, k2, k3⟩
theorem bh_un {k' : Nat} (h1 : Bh S k b) (h2 : Bh S k' b) : k = k' := by
  rcases Nat.lt_trichotomy k k' with h | h | h
  · have a := h1.2.2 k (Nat.le_refl _) (by have := h2.1; omega)
    have c := h2.2.1 k h
    omega
  · exact h
  · have a := h2.2.2 k' (Nat.le_refl _) (by have := h1.1; omega)
    have c := h1.2.1 k' h
    omega
set_option maxHeartbeats 2000000 in
theorem m_behind (hr : RR R SS) (hn : mRn (SS t)) (ht : t < 4) (hk : Bh (SS t) k b) (rb : (-2147483648 ≤ b ∧ b ≤ 2147483647)) : Rd G m_Mod_behind [vR 541, vI t, vI b] N (hrx R h) (some (vI ((bg SS t + k : Nat) : Int))) N (hrx R h) := by
  refine Rn.of rfl rfl rfl ?_
  have hM := ok_Mod_behind
  obtain ⟨h1, h2, h3⟩ := hr
  obtain ⟨k1, k2, k3⟩ := hk
  have bt := bg_le (SS := SS) ht
  have loop : ∀ (q lo hi : Nat) (i j : Int) (y : Option gV), hi - lo ≤ q → lo ≤ k → k ≤ hi → hi ≤ mn (SS t) → i = ((bg SS t + lo : Nat) : Int) → j = ((bg SS t + hi : Nat) : Int) → Go G m_Mod_behind (gFin G (gEq (some (vI ((bg SS t + k : Nat) : Int))) N (hrx R h)) gNo) 17 [some (vR 541), some (vI t), some (vI b), some (vI i), some (vI j), y] [] N (hrx R h) 0 0 := by
    intro q
    induction q with
    | zero =>
      intro lo hi i j y e1 e2 e3 e4 e5 e6
      subst e5
      subst e6
      have e7 : lo = k := by omega
      subst e7
      repeat (first | refine go_pure hM rfl ?_ | refine go_get hM rfl hr_o rfl ?_ | refine go_ldc hM rfl ?_)
      refine go_icmp_ge hM rfl (by omega) (by omega) (fun _ => ?_) (fun h9 => absurd h9 (by omega))
      repeat (first | refine go_pure hM rfl ?_ | refine go_get hM rfl hr_o rfl ?_ | refine go_ldc hM rfl ?_)
      exact go_iret hM rfl rfl ⟨rfl, rfl, rfl⟩
    | succ q ih =>
      intro lo hi i j y e1 e2 e3 e4 e5 e6
      subst e5
      subst e6
      repeat (first | refine go_pure hM rfl ?_ | refine go_get hM rfl hr_o rfl ?_ | refine go_ldc hM rfl ?_)
      refine go_icmp_ge hM rfl (by omega) (by omega) (fun h9 => ?_) (fun h9 => ?_)
      · have e7 : lo = k := by omega
        subst e7
        repeat (first | refine go_pure hM rfl ?_ | refine go_get hM rfl hr_o rfl ?_ | refine go_ldc hM rfl ?_)
        exact go_iret hM rfl rfl ⟨rfl, rfl, rfl⟩
      · obtain ⟨md9, hmd⟩ : ∃ md9, (2 * bg SS t + lo + hi) / 2 = bg SS t + md9 := ⟨(lo + hi) / 2, by omega⟩
        have m1 : lo ≤ md9 ∧ md9 < hi := by omega
        obtain ⟨s1, s2, -⟩ := h3 t ht md9 (by omega)
        obtain ⟨c1, c2, c3, -⟩ := hn.1 md9 (by omega)
        have ed : (((bg SS t + lo : Nat) : Int) + ((bg SS t + hi : Nat) : Int)) / 2 = ((bg SS t + md9 : Nat) : Int) := by omega
        have s1 : R.2.2 1 (bg SS t + md9) = ms (SS t) md9 := s1
        have s2 : R.2.2 2 (bg SS t + md9) = ml (SS t) md9 := s2
        have tm : ((bg SS t + md9 : Nat) : Int).toNat = bg SS t + md9 := by omega
        repeat (first | refine go_pure hM rfl ?_ | refine go_get hM rfl hr_o rfl ?_ | refine go_ldc hM rfl ?_)
        refine go_idiv hM rfl (by omega) (by omega) ?_
        rw [ed]
        repeat (first | refine go_pure hM rfl ?_ | refine go_get hM rfl hr_o rfl ?_ | refine go_ldc hM rfl ?_)
        refine go_iald hM rfl hr_S (by omega) (by omega) (by omega) ?_
        rw [tm, s1]
        repeat (first | refine go_pure hM rfl ?_ | refine go_get hM rfl hr_o rfl ?_ | refine go_ldc hM rfl ?_)
        refine go_iald hM rfl hr_L (by omega) (by omega) (by omega) ?_
        rw [tm, s2]
        repeat (first | refine go_pure hM rfl ?_ | refine go_get hM rfl hr_o rfl ?_ | refine go_ldc hM rfl ?_)
        refine go_icmp_gt hM rfl (by omega) rb (fun h8 => ?_) (fun h8 => ?_)
        · have : k ≤ md9 := by
            by_cases e9 : k ≤ md9
            · exact e9
            · have := k2 md9 (by omega)
              omega
          have nx := ih lo md9 ((bg SS t + lo : Nat) : Int) ((bg SS t + md9 : Nat) : Int) (some (vI ((bg SS t + md9 : Nat) : Int))) (by omega) e2 this (by omega) rfl rfl
          repeat (first | exact nx | refine go_pure hM rfl ?_ | refine go_get hM rfl hr_o rfl ?_ | refine go_ldc hM rfl ?_)
        · have : md9 + 1 ≤ k := by
            by_cases e9 : md9 < k
            · exact e9
            · have := k3 md9 (by omega) (by omega)
              omega
          have nx := ih (md9 + 1) hi (((bg SS t + md9 : Nat) : Int) + 1) ((bg SS t + hi : Nat) : Int) (some (vI ((bg SS t + md9 : Nat) : Int))) (by omega) this e3 e4 (by omega) rfl
          repeat (first | exact nx | refine go_pure hM rfl ?_ | refine go_get hM rfl hr_o rfl ?_ | refine go_ldc hM rfl ?_)
  have b1 : R.2.2 0 t = ((bg SS t : Nat) : Int) := h2 t (by omega)
  have b2 : R.2.2 0 (t + 1) = ((bg SS t + mn (SS t) : Nat) : Int) := h2 (t + 1) (by omega)
  have nx := loop (mn (SS t)) 0 (mn (SS t)) ((bg SS t : Nat) : Int) ((bg SS t + mn (SS t) : Nat) : Int) none (by omega) (Nat.zero_le _) k1 (Nat.le_refl _) rfl rfl
  repeat (first | refine go_pure hM rfl ?_ | refine go_get hM rfl hr_o rfl ?_ | refine go_ldc hM rfl ?_)
  refine go_iald hM rfl hr_B (by omega) (by omega) (by omega) ?_
  rw [show ((t : Nat) : Int).toNat = t by omega, b1]
  repeat (first | refine go_pure hM rfl ?_ | refine go_get hM rfl hr_o rfl ?_ | refine go_ldc hM rfl ?_)
  refine go_iald hM rfl hr_B (by omega) (by omega) (by omega) ?_
  rw [show (((t : Nat) : Int) + 1).toNat = t + 1 by omega, b2]
  repeat (first | exact nx | refine go_pure hM rfl ?_ | refine go_get hM rfl hr_o rfl ?_ | refine go_ldc hM rfl ?_)
theorem m_runs (hr : RR R SS) (ht : t < 4) : Rd G m_Mod_runs [vR 541, vI t] N (hrx R h) (some (vI (mn (SS t)))) N (hrx R h) := by
  refine Rn.of rfl rfl rfl ?_
  have hM := ok_Mod_runs
  obtain ⟨h1, h2, h3⟩ := hr
  have b1 : R.2.2 0 t = ((bg SS t : Nat) : Int) := h2 t (by omega)
  have b2 : R.2.2 0 (t + 1) = ((bg SS t + mn (SS t) : Nat) : Int) := h2 (t + 1) (by omega)
  repeat (first | refine go_pure hM rfl ?_ | refine go_get hM rfl hr_o rfl ?_ | refine go_ldc hM rfl ?_)
  refine go_iald hM rfl hr_B (by omega) (by omega) (by omega) ?_
  rw [show (((t : Nat) : Int) + 1).toNat = t + 1 by omega, b2]
  repeat (first | refine go_pure hM rfl ?_ | refine go_get hM rfl hr_o rfl ?_ | refine go_ldc hM rfl ?_)
  refine go_iald hM rfl hr_B (by omega) (by omega) (by omega) ?_
  rw [show ((t : Nat) : Int).toNat = t by omega, b1]
  repeat (first | refine go_pure hM rfl ?_ | refine go_get hM rfl hr_o rfl ?_ | refine go_ldc hM rfl ?_)
  exact go_iret hM rfl rfl ⟨by congr 2; omega, rfl, rfl⟩
set_option maxHeartbeats 2000000 in
theorem m_joins {s l v w s2 l2 v2 w2 : Int} (a1 : 0 ≤ s ∧ s ≤ 100000000) (a2 : 0 ≤ l ∧ l ≤ 100000000) (a3 : 0 ≤ v ∧ v ≤ 100000000) (a4 : w = 0 ∨ w = 1) (c1 : 0 ≤ s2 ∧ s2 ≤ 100000000) (c2 : 0 ≤ l2 ∧ l2 ≤ 100000000) (c3 : 0 ≤ v2 ∧ v2 ≤ 100000000) (c4 : w2 = 0 ∨ w2 = 1) : (jnR s l v w s2 l2 v2 w2 ∧ Rd G m_Mod_joins [vR 541, vI s, vI l, vI v, vI w, vI s2, vI l2, vI v2, vI w2] N (hrx R h) (some (vI 1)) N (hrx R h)) ∨ (¬ jnR s l v w s2 l2 v2 w2 ∧ Rd G m_Mod_joins [vR 541, vI s, vI l, vI v, vI w, vI s2, vI l2, vI v2, vI w2] N (hrx R h) (some (vI 0)) N (hrx R h)) := by
  have key : ∀ z : Int, (jnR s l v w s2 l2 v2 w2 → z = 1) → (¬ jnR s l v w s2 l2 v2 w2 → z = 0) → Rd G m_Mod_joins [vR 541, vI s, vI l, vI v, vI w, vI s2, vI l2, vI v2, vI w2] N (hrx R h) (some (vI z)) N (hrx R h) := by
    intro z z1 z2
    refine Rn.of rfl rfl rfl ?_
    have hM := ok_Mod_joins
    have no : ¬ jnR s l v w s2 l2 v2 w2 → Go G m_Mod_joins (gFin G (gEq (some (vI z)) N (hrx R h)) gNo) 47 [some (vR 541), some (vI s), some (vI l), some (vI v), some (vI w), some (vI s2), some (vI l2), some (vI v2), some (vI w2)] [] N (hrx R h) 0 0 := by
      intro hno
      repeat (first | refine go_pure hM rfl ?_ | refine go_get hM rfl hr_o rfl ?_ | refine go_ldc hM rfl ?_)
      exact go_zret hM rfl rfl (Or.inl rfl) ⟨by rw [z2 hno], rfl, rfl⟩
    have tl : ∀ y : Int, y = 32767 + w → s + l = s2 → v + l = v2 → w = w2 → Go G m_Mod_joins (gFin G (gEq (some (vI z)) N (hrx R h)) gNo) 40 [some (vR 541), some (vI s), some (vI l), some (vI v), some (vI w), some (vI s2), some (vI l2), some (vI v2), some (vI w2)] [vI y, vI (l + l2)] N (hrx R h) 0 0 := by
      intro y hy q1 q2 q3
      refine go_icmp_gt hM rfl (by omega) (by omega) (fun h9 => no (fun q => absurd q.2.2.2 (by omega))) (fun h9 => ?_)
      repeat (first | refine go_pure hM rfl ?_ | refine go_get hM rfl hr_o rfl ?_ | refine go_ldc hM rfl ?_)
      exact go_zret hM rfl rfl (Or.inr rfl) ⟨by rw [z1 ⟨q1, q2, q3, by omega⟩], rfl, rfl⟩
    repeat (first | refine go_pure hM rfl ?_ | refine go_get hM rfl hr_o rfl ?_ | refine go_ldc hM rfl ?_)
    refine go_icmp_ne hM rfl (by omega) (by omega) (fun h9 => no (fun q => h9 q.1)) (fun q1 => ?_)
    repeat (first | refine go_pure hM rfl ?_ | refine go_get hM rfl hr_o rfl ?_ | refine go_ldc hM rfl ?_)
    refine go_icmp_ne hM rfl (by omega) (by omega) (fun h9 => no (fun q => h9 q.2.1)) (fun q2 => ?_)
    repeat (first | refine go_pure hM rfl ?_ | refine go_get hM rfl hr_o rfl ?_ | refine go_ldc hM rfl ?_)
    refine go_icmp_ne hM rfl (by omega) (by omega) (fun h9 => no (fun q => h9 q.2.2.1)) (fun q3 => ?_)
    repeat (first | refine go_pure hM rfl ?_ | refine go_get hM rfl hr_o rfl ?_ | refine go_ldc hM rfl ?_)
    refine go_if_eq hM rfl (by omega) (fun h9 => ?_) (fun h9 => ?_)
    · have n2 := tl 32767 (by omega) q1 q2 q3
      repeat (first | exact n2 | refine go_pure hM rfl ?_ | refine go_get hM rfl hr_o rfl ?_ | refine go_ldc hM rfl ?_)
    · have n2 := tl 32768 (by omega) q1 q2 q3
      repeat (first | exact n2 | refine go_pure hM rfl ?_ | refine go_get hM rfl hr_o rfl ?_ | refine go_ldc hM rfl ?_)
  by_cases e : jnR s l v w s2 l2 v2 w2
  · exact Or.inl ⟨e, key 1 (fun _ => rfl) (fun z => absurd e z)⟩
  · exact Or.inr ⟨e, key 0 (fun z => absurd z e) (fun _ => rfl)⟩
end
