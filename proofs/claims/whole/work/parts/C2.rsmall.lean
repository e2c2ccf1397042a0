/-! the reference: small methods -/
def cnZ (f : Nat → Int) : Nat → Int
  | 0 => 0
  | n + 1 => cnZ f n + if f n = 0 then 1 else 0
theorem cnZ_F {f : Nat → Int} (h : f 0 ≠ 0) : ∀ n, cnZ f (n + 1) = cnF f n := by
  intro n
  induction n with
  | zero =>
    show 0 + (if f 0 = 0 then 1 else 0) = (0 : Int)
    rw [if_neg h]
    rfl
  | succ n ih =>
    show cnZ f (n + 1) + (if f (n + 1) = 0 then 1 else 0) = cnF f n + (if f (n + 1) = 0 then 1 else 0)
    rw [ih]
section
variable {G : gG} {N : Option Nat} {h : gH} {R : rA}
theorem m_thrown : Rd G m_Mod_thrown [vR 541] N (hrx R h) (some (vI R.1)) N (hrx R h) := by
  refine Rn.of rfl rfl rfl ?_
  have hM := ok_Mod_thrown
  repeat (first | refine go_pure hM rfl ?_ | refine go_get hM rfl hr_o rfl ?_ | refine go_ldc hM rfl ?_)
  exact go_iret hM rfl rfl ⟨rfl, rfl, rfl⟩
theorem m_takeBlock {b : Nat} (hb : b < 256) (h0 : zT R b = 0) (h1 : ∀ j, j < b → zT R j = 1) : Rd G m_Mod_takeBlock [vR 541] N (hrx R h) (some (vI b)) N (hrx (sR R 10 (gF (zT R) b 1)) h) := by
  refine Rn.of rfl rfl rfl ?_
  have hM := ok_Mod_takeBlock
  have h0 : R.2.2 10 b = 0 := h0
  have h1 : ∀ j, j < b → R.2.2 10 j = 1 := h1
  have loop : ∀ (q j : Nat) (i : Int), q + j = b → i = j → Go G m_Mod_takeBlock (gFin G (gEq (some (vI b)) N (hrx (sR R 10 (gF (zT R) b 1)) h)) gNo) 2 [some (vR 541), some (vI i)] [] N (hrx R h) 0 0 := by
    intro q
    induction q with
    | zero =>
      intro j i e1 e2
      subst e2
      have e1 : j = b := by omega
      subst e1
      repeat (first | refine go_pure hM rfl ?_ | refine go_get hM rfl hr_o rfl ?_ | refine go_ldc hM rfl ?_)
      refine go_zald hM rfl hr_T (by omega) (by omega) (by omega) ?_
      rw [show ((j : Nat) : Int).toNat = j by omega, h0]
      refine go_if_eq hM rfl (by omega) (fun _ => ?_) (fun h9 => absurd rfl h9)
      repeat (first | refine go_pure hM rfl ?_ | refine go_get hM rfl hr_o rfl ?_ | refine go_ldc hM rfl ?_)
      refine go_zast hM rfl hr_T (by omega) (by omega) (by omega) (Or.inr rfl) ?_
      rw [show ((j : Nat) : Int).toNat = j by omega, ur_T]
      repeat (first | refine go_pure hM rfl ?_ | refine go_get hM rfl hr_o rfl ?_ | refine go_ldc hM rfl ?_)
      exact go_iret hM rfl rfl ⟨rfl, rfl, rfl⟩
    | succ q ih =>
      intro j i e1 e2
      subst e2
      repeat (first | refine go_pure hM rfl ?_ | refine go_get hM rfl hr_o rfl ?_ | refine go_ldc hM rfl ?_)
      refine go_zald hM rfl hr_T (by omega) (by omega) (by omega) ?_
      rw [show ((j : Nat) : Int).toNat = j by omega, h1 j (by omega)]
      refine go_if_eq hM rfl (by omega) (fun h9 => absurd h9 (by omega)) (fun _ => ?_)
      have nx := ih (j + 1) ((j : Int) + 1) (by omega) (by omega)
      repeat (first | exact nx | refine go_pure hM rfl ?_ | refine go_get hM rfl hr_o rfl ?_ | refine go_ldc hM rfl ?_)
  have nx := loop b 0 0 (by omega) rfl
  repeat (first | exact nx | refine go_pure hM rfl ?_ | refine go_get hM rfl hr_o rfl ?_ | refine go_ldc hM rfl ?_)
theorem m_freeBlocks (hT : ∀ j, j < 256 → zT R j = 0 ∨ zT R j = 1) : Rd G m_Mod_freeBlocks [vR 541] N (hrx R h) (some (vI (cnZ (zT R) 256))) N (hrx R h) := by
  refine Rn.of rfl rfl rfl ?_
  have hM := ok_Mod_freeBlocks
  have loop : ∀ (q j : Nat) (i n : Int), q + j = 256 → i = j → n = cnZ (zT R) j → Go G m_Mod_freeBlocks (gFin G (gEq (some (vI (cnZ (zT R) 256))) N (hrx R h)) gNo) 4 [some (vR 541), some (vI n), some (vI i)] [] N (hrx R h) 0 0 := by
    intro q
    induction q with
    | zero =>
      intro j i n e1 e2 e3
      subst e2
      have e1 : j = 256 := by omega
      subst e1
      repeat (first | refine go_pure hM rfl ?_ | refine go_get hM rfl hr_o rfl ?_ | refine go_ldc hM rfl ?_)
      refine go_icmp_ge hM rfl (by omega) (by omega) (fun _ => ?_) (fun h9 => absurd h9 (by omega))
      repeat (first | refine go_pure hM rfl ?_ | refine go_get hM rfl hr_o rfl ?_ | refine go_ldc hM rfl ?_)
      exact go_iret hM rfl rfl ⟨by rw [e3], rfl, rfl⟩
    | succ q ih =>
      intro j i n e1 e2 e3
      subst e2
      have tj : R.2.2 10 j = 0 ∨ R.2.2 10 j = 1 := hT j (by omega)
      have nx := fun m h9 => ih (j + 1) ((j : Int) + 1) m (by omega) (by omega) h9
      have es : cnZ (zT R) (j + 1) = cnZ (zT R) j + if zT R j = 0 then 1 else 0 := rfl
      repeat (first | refine go_pure hM rfl ?_ | refine go_get hM rfl hr_o rfl ?_ | refine go_ldc hM rfl ?_)
      refine go_icmp_ge hM rfl (by omega) (by omega) (fun h9 => absurd h9 (by omega)) (fun _ => ?_)
      repeat (first | refine go_pure hM rfl ?_ | refine go_get hM rfl hr_o rfl ?_ | refine go_ldc hM rfl ?_)
      refine go_zald hM rfl hr_T (by omega) (by omega) (by omega) ?_
      rw [show ((j : Nat) : Int).toNat = j by omega]
      refine go_if_eq hM rfl (by omega) (fun h9 => ?_) (fun h9 => ?_)
      · have n2 := nx (n + 1) (by rw [es, if_pos h9, e3])
        repeat (first | exact n2 | refine go_pure hM rfl ?_ | refine go_get hM rfl hr_o rfl ?_ | refine go_ldc hM rfl ?_)
      · have n2 := nx (n + 0) (by rw [es, if_neg h9, e3])
        repeat (first | exact n2 | refine go_pure hM rfl ?_ | refine go_get hM rfl hr_o rfl ?_ | refine go_ldc hM rfl ?_)
  have nx := loop 256 0 0 0 rfl rfl rfl
  repeat (first | exact nx | refine go_pure hM rfl ?_ | refine go_get hM rfl hr_o rfl ?_ | refine go_ldc hM rfl ?_)
/-- where a file's nodes of a level begin -/
def lvO (R : rA) (f l : Nat) : Int := 256 * (l : Int) + smI (fun g => zM R (6 * g + l)) f
theorem m_levelOf {f l : Nat} (hf : f ≤ 4) (hl : l < 6) : Rd G m_Mod_levelOf [vR 541, vI f, vI l] N (hrx R h) (some (vI (lvO R f l))) N (hrx R h) := by
  refine Rn.of rfl rfl rfl ?_
  have hM := ok_Mod_levelOf
  have loop : ∀ (q j : Nat) (i n : Int), q + j = f → i = j → n = lvO R j l → Go G m_Mod_levelOf (gFin G (gEq (some (vI (lvO R f l))) N (hrx R h)) gNo) 9 [some (vR 541), some (vI f), some (vI l), some (vI n), some (vI i)] [] N (hrx R h) 0 0 := by
    intro q
    induction q with
    | zero =>
      intro j i n e1 e2 e3
      subst e2
      have e1 : j = f := by omega
      subst e1
      repeat (first | refine go_pure hM rfl ?_ | refine go_get hM rfl hr_o rfl ?_ | refine go_ldc hM rfl ?_)
      refine go_icmp_ge hM rfl (by omega) (by omega) (fun _ => ?_) (fun h9 => absurd h9 (by omega))
      repeat (first | refine go_pure hM rfl ?_ | refine go_get hM rfl hr_o rfl ?_ | refine go_ldc hM rfl ?_)
      exact go_iret hM rfl rfl ⟨by rw [e3], rfl, rfl⟩
    | succ q ih =>
      intro j i n e1 e2 e3
      subst e2
      have es : lvO R (j + 1) l = lvO R j l + zM R (6 * j + l) := by
        show 256 * (l : Int) + (smI (fun g => zM R (6 * g + l)) j + zM R (6 * j + l)) = 256 * (l : Int) + smI (fun g => zM R (6 * g + l)) j + zM R (6 * j + l)
        omega
      have nx := ih (j + 1) ((j : Int) + 1) (n + zM R (6 * j + l)) (by omega) (by omega) (by rw [es, e3])
      repeat (first | refine go_pure hM rfl ?_ | refine go_get hM rfl hr_o rfl ?_ | refine go_ldc hM rfl ?_)
      refine go_icmp_ge hM rfl (by omega) (by omega) (fun h9 => absurd h9 (by omega)) (fun _ => ?_)
      repeat (first | refine go_pure hM rfl ?_ | refine go_get hM rfl hr_o rfl ?_ | refine go_ldc hM rfl ?_)
      refine go_iald hM rfl hr_M (by omega) (by omega) (by omega) ?_
      rw [show (6 * ((j : Nat) : Int) + (l : Int)).toNat = 6 * j + l by omega]
      repeat (first | exact nx | refine go_pure hM rfl ?_ | refine go_get hM rfl hr_o rfl ?_ | refine go_ldc hM rfl ?_)
  have nx := loop f 0 0 (256 * (l : Int)) (by omega) rfl (by show _ = 256 * (l : Int) + 0; omega)
  repeat (first | exact nx | refine go_pure hM rfl ?_ | refine go_get hM rfl hr_o rfl ?_ | refine go_ldc hM rfl ?_)
theorem m_levelEnd {l : Nat} (hl : l < 6) : Rd G m_Mod_levelEnd [vR 541, vI l] N (hrx R h) (some (vI (lvO R 4 l))) N (hrx R h) := by
  refine Rn.of rfl rfl rfl ?_
  have hM := ok_Mod_levelEnd
  repeat (first | refine go_pure hM rfl ?_ | refine go_get hM rfl hr_o rfl ?_ | refine go_ldc hM rfl ?_)
  refine go_cV hM rfl rfl rfl hr_o rfl (m_levelOf (f := 4) (by omega) hl) rfl ?_
  exact go_iret hM rfl rfl ⟨rfl, rfl, rfl⟩
end
