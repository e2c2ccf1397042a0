/-! the reference: a node comes in, a node goes -/
def shU (f : Nat → Int) (a e : Nat) : Nat → Int := fun x => if a < x ∧ x ≤ e then f (x - 1) else f x
def shD (f : Nat → Int) (a e : Nat) : Nat → Int := fun x => if a ≤ x ∧ x < e then f (x + 1) else f x
def sNE (R : rA) (a b : Nat → Int) : rA := (R.1, R.2.1, gF (gF R.2.2 7 a) 8 b)
section
variable {G : gG} {N : Option Nat} {h : gH} {R : rA} {a b : Nat → Int}
theorem sNE_7 : (sNE R a b).2.2 7 = a := by
  show gF (gF R.2.2 7 a) 8 b 7 = a
  rw [gF_n (by omega), gF_s]
theorem sNE_8 : (sNE R a b).2.2 8 = b := gF_s (gF R.2.2 7 a) 8 b
theorem sNE_o {k : Nat} (h7 : k ≠ 7) (h8 : k ≠ 8) : (sNE R a b).2.2 k = R.2.2 k := by
  show gF (gF R.2.2 7 a) 8 b k = _
  rw [gF_n h8, gF_n h7]
theorem sNE_s7 {a' : Nat → Int} : sR (sNE R a b) 7 a' = sNE R a' b := by
  have : gF (gF (gF R.2.2 7 a) 8 b) 7 a' = gF (gF R.2.2 7 a') 8 b := by
    funext k
    by_cases e7 : k = 7
    · rw [e7, gF_s, gF_n (by omega), gF_s]
    · rw [gF_n e7]
      by_cases e8 : k = 8
      · rw [e8, gF_s, gF_s]
      · rw [gF_n e8, gF_n e8, gF_n e7, gF_n e7]
  show (R.1, R.2.1, gF (gF (gF R.2.2 7 a) 8 b) 7 a') = (R.1, R.2.1, gF (gF R.2.2 7 a') 8 b)
  rw [this]
theorem sNE_s8 {b' : Nat → Int} : sR (sNE R a b) 8 b' = sNE R a b' := by
  show (R.1, R.2.1, gF (gF (gF R.2.2 7 a) 8 b) 8 b') = (R.1, R.2.1, gF (gF R.2.2 7 a) 8 b')
  rw [gF_uu]
theorem sNE_0 : sNE R (zN R) (zE R) = R := by
  show (R.1, R.2.1, gF (gF R.2.2 7 (R.2.2 7)) 8 (R.2.2 8)) = R
  rw [gF_same, gF_same]
theorem shU_s {f : Nat → Int} {k e : Nat} (hk : 1 ≤ k ∧ k ≤ e) : gF (shU f k e) k (shU f k e (k - 1)) = shU f (k - 1) e := by
  funext x
  have e1 : shU f k e (k - 1) = f (k - 1) := if_neg (by omega)
  rw [e1]
  by_cases e2 : x = k
  · rw [e2, gF_s]
    exact (if_pos (by omega)).symm
  · rw [gF_n e2]
    unfold shU
    by_cases e3 : k < x ∧ x ≤ e
    · rw [if_pos e3, if_pos (by omega)]
    · rw [if_neg e3, if_neg (by omega)]
theorem shU_0 {f : Nat → Int} {e : Nat} : shU f e e = f := by
  funext x
  exact if_neg (by omega)
/-- x of the cells from a on are the cells behind them -/
def shE (f : Nat → Int) (a k : Nat) : Nat → Int := fun x => if a ≤ x ∧ x < k then f (x + 1) else f x
theorem shE_s {f : Nat → Int} {p k : Nat} (hk : p ≤ k) : gF (shE f p k) k (shE f p k (k + 1)) = shE f p (k + 1) := by
  funext x
  have e1 : shE f p k (k + 1) = f (k + 1) := if_neg (by omega)
  rw [e1]
  by_cases e2 : x = k
  · rw [e2, gF_s]
    exact (if_pos (by omega)).symm
  · rw [gF_n e2]
    unfold shE
    by_cases e3 : p ≤ x ∧ x < k
    · rw [if_pos e3, if_pos (by omega)]
    · rw [if_neg e3, if_neg (by omega)]
theorem shE_0 {f : Nat → Int} {p : Nat} : shE f p p = f := by
  funext x
  exact if_neg (by omega)
set_option maxHeartbeats 2000000 in
theorem m_insertNode {f l p e : Nat} {x n : Int} (hf : f < 4) (hl : l < 6) (he : lvO R 4 l = (e : Int)) (hp : p ≤ e) (he2 : e < 1536) : Rd G m_Mod_insertNode [vR 541, vI f, vI l, vI p, vI x, vI n] N (hrx R h) none N (hrx (sR (sNE R (gF (shU (zN R) p e) p x) (gF (shU (zE R) p e) p n)) 9 (gF (zM R) (6 * f + l) (zM R (6 * f + l) + 1))) h) := by
  refine Rn.of rfl rfl rfl ?_
  have hM := ok_Mod_insertNode
  have loop : ∀ (q k : Nat) (i : Int), q + p = k → k ≤ e → i = k → Go G m_Mod_insertNode (gFin G (gEq none N (hrx (sR (sNE R (gF (shU (zN R) p e) p x) (gF (shU (zE R) p e) p n)) 9 (gF (zM R) (6 * f + l) (zM R (6 * f + l) + 1))) h)) gNo) 7 [some (vR 541), some (vI f), some (vI l), some (vI p), some (vI x), some (vI n), some (vI i)] [] N (hrx (sNE R (shU (zN R) k e) (shU (zE R) k e)) h) 0 0 := by
    intro q
    induction q with
    | zero =>
      intro k i e1 e2 e3
      subst e3
      have e1 : p = k := by omega
      subst e1
      repeat (first | refine go_pure hM rfl ?_ | refine go_get hM rfl hr_o rfl ?_ | refine go_ldc hM rfl ?_)
      refine go_icmp_le hM rfl (by omega) (by omega) (fun _ => ?_) (fun h9 => absurd h9 (by omega))
      repeat (first | refine go_pure hM rfl ?_ | refine go_get hM rfl hr_o rfl ?_ | refine go_ldc hM rfl ?_)
      refine go_iast hM rfl hr_N (by omega) (by omega) (by omega) ?_
      rw [show ((p : Nat) : Int).toNat = p by omega, ur_N, sNE_s7, sNE_7]
      repeat (first | refine go_pure hM rfl ?_ | refine go_get hM rfl hr_o rfl ?_ | refine go_ldc hM rfl ?_)
      refine go_iast hM rfl hr_E (by omega) (by omega) (by omega) ?_
      rw [show ((p : Nat) : Int).toNat = p by omega, ur_E, sNE_s8, sNE_8]
      repeat (first | refine go_pure hM rfl ?_ | refine go_get hM rfl hr_o rfl ?_ | refine go_ldc hM rfl ?_)
      refine go_dup2 hM rfl ?_
      refine go_iald hM rfl hr_M (by omega) (by omega) (by omega) ?_
      rw [show (6 * ((f : Nat) : Int) + (l : Int)).toNat = 6 * f + l by omega, sNE_o (by omega) (by omega)]
      repeat (first | refine go_pure hM rfl ?_ | refine go_get hM rfl hr_o rfl ?_ | refine go_ldc hM rfl ?_)
      refine go_iast hM rfl hr_M (by omega) (by omega) (by omega) ?_
      rw [show (6 * ((f : Nat) : Int) + (l : Int)).toNat = 6 * f + l by omega, ur_M, sNE_o (by omega) (by omega)]
      repeat (first | refine go_pure hM rfl ?_ | refine go_get hM rfl hr_o rfl ?_ | refine go_ldc hM rfl ?_)
      exact go_vret hM rfl rfl ⟨rfl, rfl, rfl⟩
    | succ q ih =>
      intro k i e1 e2 e3
      subst e3
      have nx := ih (k - 1) ((k : Int) + -1) (by omega) (by omega) (by omega)
      repeat (first | refine go_pure hM rfl ?_ | refine go_get hM rfl hr_o rfl ?_ | refine go_ldc hM rfl ?_)
      refine go_icmp_le hM rfl (by omega) (by omega) (fun h9 => absurd h9 (by omega)) (fun _ => ?_)
      repeat (first | refine go_pure hM rfl ?_ | refine go_get hM rfl hr_o rfl ?_ | refine go_ldc hM rfl ?_)
      refine go_iald hM rfl hr_N (by omega) (by omega) (by omega) ?_
      rw [show (((k : Nat) : Int) - 1).toNat = k - 1 by omega, sNE_7]
      repeat (first | refine go_pure hM rfl ?_ | refine go_get hM rfl hr_o rfl ?_ | refine go_ldc hM rfl ?_)
      refine go_iast hM rfl hr_N (by omega) (by omega) (by omega) ?_
      rw [show ((k : Nat) : Int).toNat = k by omega, ur_N, sNE_s7, sNE_7, shU_s (by omega)]
      repeat (first | refine go_pure hM rfl ?_ | refine go_get hM rfl hr_o rfl ?_ | refine go_ldc hM rfl ?_)
      refine go_iald hM rfl hr_E (by omega) (by omega) (by omega) ?_
      rw [show (((k : Nat) : Int) - 1).toNat = k - 1 by omega, sNE_8]
      repeat (first | refine go_pure hM rfl ?_ | refine go_get hM rfl hr_o rfl ?_ | refine go_ldc hM rfl ?_)
      refine go_iast hM rfl hr_E (by omega) (by omega) (by omega) ?_
      rw [show ((k : Nat) : Int).toNat = k by omega, ur_E, sNE_s8, sNE_8, shU_s (by omega)]
      repeat (first | exact nx | refine go_pure hM rfl ?_ | refine go_get hM rfl hr_o rfl ?_ | refine go_ldc hM rfl ?_)
  repeat (first | refine go_pure hM rfl ?_ | refine go_get hM rfl hr_o rfl ?_ | refine go_ldc hM rfl ?_)
  refine go_cV hM rfl rfl rfl hr_o rfl (m_levelEnd hl) rfl ?_
  rw [he]
  have nx := loop (e - p) e e (by omega) (Nat.le_refl _) rfl
  rw [shU_0, shU_0, sNE_0] at nx
  repeat (first | exact nx | refine go_pure hM rfl ?_ | refine go_get hM rfl hr_o rfl ?_ | refine go_ldc hM rfl ?_)
set_option maxHeartbeats 2000000 in
theorem m_removeNode {f l p e b : Nat} (hf : f < 4) (hl : l < 6) (he : lvO R 4 l = ((e + 1 : Nat) : Int)) (hp : p ≤ e) (he2 : e + 1 < 1536) (hb : zN R p = (b : Int)) (hb2 : b < 256) : Rd G m_Mod_removeNode [vR 541, vI f, vI l, vI p] N (hrx R h) none N (hrx (sR (sNE (sR R 10 (gF (zT R) b 0)) (shE (zN R) p e) (shE (zE R) p e)) 9 (gF (zM R) (6 * f + l) (zM R (6 * f + l) - 1))) h) := by
  refine Rn.of rfl rfl rfl ?_
  have hM := ok_Mod_removeNode
  obtain ⟨R1, hR1⟩ : ∃ R1, sR R 10 (gF (zT R) b 0) = R1 := ⟨_, rfl⟩
  have n1 : zN R1 = zN R := by
    rw [← hR1]
    exact sR_n (by omega)
  have n2 : zE R1 = zE R := by
    rw [← hR1]
    exact sR_n (by omega)
  have n3 : zM R1 = zM R := by
    rw [← hR1]
    exact sR_n (by omega)
  have he' : lvO R1 4 l = ((e + 1 : Nat) : Int) := by
    unfold lvO
    rw [n3]
    exact he
  rw [hR1]
  have loop : ∀ (q k : Nat) (i : Int), q + k = e → p ≤ k → i = k → Go G m_Mod_removeNode (gFin G (gEq none N (hrx (sR (sNE R1 (shE (zN R) p e) (shE (zE R) p e)) 9 (gF (zM R) (6 * f + l) (zM R (6 * f + l) - 1))) h)) gNo) 24 [some (vR 541), some (vI f), some (vI l), some (vI p), some (vI e), some (vI i)] [] N (hrx (sNE R1 (shE (zN R) p k) (shE (zE R) p k)) h) 0 0 := by
    intro q
    induction q with
    | zero =>
      intro k i e1 e2 e3
      subst e3
      have e1 : k = e := by omega
      subst e1
      repeat (first | refine go_pure hM rfl ?_ | refine go_get hM rfl hr_o rfl ?_ | refine go_ldc hM rfl ?_)
      refine go_icmp_ge hM rfl (by omega) (by omega) (fun _ => ?_) (fun h9 => absurd h9 (by omega))
      repeat (first | refine go_pure hM rfl ?_ | refine go_get hM rfl hr_o rfl ?_ | refine go_ldc hM rfl ?_)
      refine go_dup2 hM rfl ?_
      refine go_iald hM rfl hr_M (by omega) (by omega) (by omega) ?_
      rw [show (6 * ((f : Nat) : Int) + (l : Int)).toNat = 6 * f + l by omega, sNE_o (by omega) (by omega)]
      repeat (first | refine go_pure hM rfl ?_ | refine go_get hM rfl hr_o rfl ?_ | refine go_ldc hM rfl ?_)
      refine go_iast hM rfl hr_M (by omega) (by omega) (by omega) ?_
      rw [show (6 * ((f : Nat) : Int) + (l : Int)).toNat = 6 * f + l by omega, ur_M, sNE_o (by omega) (by omega)]
      have n3 : R1.2.2 9 = R.2.2 9 := n3
      rw [n3]
      repeat (first | refine go_pure hM rfl ?_ | refine go_get hM rfl hr_o rfl ?_ | refine go_ldc hM rfl ?_)
      exact go_vret hM rfl rfl ⟨rfl, rfl, rfl⟩
    | succ q ih =>
      intro k i e1 e2 e3
      subst e3
      have nx := ih (k + 1) ((k : Int) + 1) (by omega) (by omega) (by omega)
      repeat (first | refine go_pure hM rfl ?_ | refine go_get hM rfl hr_o rfl ?_ | refine go_ldc hM rfl ?_)
      refine go_icmp_ge hM rfl (by omega) (by omega) (fun h9 => absurd h9 (by omega)) (fun _ => ?_)
      repeat (first | refine go_pure hM rfl ?_ | refine go_get hM rfl hr_o rfl ?_ | refine go_ldc hM rfl ?_)
      refine go_iald hM rfl hr_N (by omega) (by omega) (by omega) ?_
      rw [show (((k : Nat) : Int) + 1).toNat = k + 1 by omega, sNE_7]
      repeat (first | refine go_pure hM rfl ?_ | refine go_get hM rfl hr_o rfl ?_ | refine go_ldc hM rfl ?_)
      refine go_iast hM rfl hr_N (by omega) (by omega) (by omega) ?_
      rw [show ((k : Nat) : Int).toNat = k by omega, ur_N, sNE_s7, sNE_7, shE_s (by omega)]
      repeat (first | refine go_pure hM rfl ?_ | refine go_get hM rfl hr_o rfl ?_ | refine go_ldc hM rfl ?_)
      refine go_iald hM rfl hr_E (by omega) (by omega) (by omega) ?_
      rw [show (((k : Nat) : Int) + 1).toNat = k + 1 by omega, sNE_8]
      repeat (first | refine go_pure hM rfl ?_ | refine go_get hM rfl hr_o rfl ?_ | refine go_ldc hM rfl ?_)
      refine go_iast hM rfl hr_E (by omega) (by omega) (by omega) ?_
      rw [show ((k : Nat) : Int).toNat = k by omega, ur_E, sNE_s8, sNE_8, shE_s (by omega)]
      repeat (first | exact nx | refine go_pure hM rfl ?_ | refine go_get hM rfl hr_o rfl ?_ | refine go_ldc hM rfl ?_)
  repeat (first | refine go_pure hM rfl ?_ | refine go_get hM rfl hr_o rfl ?_ | refine go_ldc hM rfl ?_)
  refine go_iald hM rfl hr_N (by omega) (by omega) (by omega) ?_
  rw [show ((p : Nat) : Int).toNat = p by omega]
  have hb : R.2.2 7 p = (b : Int) := hb
  rw [hb]
  repeat (first | refine go_pure hM rfl ?_ | refine go_get hM rfl hr_o rfl ?_ | refine go_ldc hM rfl ?_)
  refine go_zast hM rfl hr_T (by omega) (by omega) (by omega) (Or.inl rfl) ?_
  rw [show ((b : Nat) : Int).toNat = b by omega, ur_T, hR1]
  repeat (first | refine go_pure hM rfl ?_ | refine go_get hM rfl hr_o rfl ?_ | refine go_ldc hM rfl ?_)
  refine go_cV hM rfl rfl rfl hr_o rfl (m_levelEnd hl) rfl ?_
  rw [he']
  have nx := loop (e - p) p p (by omega) (Nat.le_refl _) rfl
  rw [shE_0, shE_0, ← n1, ← n2, sNE_0] at nx
  rw [n1, n2] at nx
  have ee : ((e + 1 : Nat) : Int) - 1 = (e : Int) := by omega
  refine go_pure hM rfl ?_
  refine go_pure hM rfl ?_
  rw [ee]
  repeat (first | exact nx | refine go_pure hM rfl ?_ | refine go_get hM rfl hr_o rfl ?_ | refine go_ldc hM rfl ?_)
end
