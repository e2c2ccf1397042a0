/-! THE REFERENCE'S CELLS, as a function of what they hold: 541 the object, 542 .. 555 its arrays -/
abbrev rA : Type := Int × Int × (Nat → Nat → Int)
def rLn (k : Nat) : Nat := if k = 0 then 5 else if k < 5 then 21600 else if k < 7 then 4 else if k < 9 then 1536 else if k = 9 then 24 else if k = 10 then 256 else 8
def rTy (k : Nat) : Nat := if k = 4 ∨ k = 10 then 4 else 0
abbrev eMo (x y : Int) : gE := .inr (4, [vI x, vI y, vR 542, vR 543, vR 544, vR 545, vR 546, vR 547, vR 548, vR 549, vR 550, vR 551, vR 552, vR 553, vR 554, vR 555])
abbrev eAr (k : Nat) (f : Nat → Int) : gE := .inl (rTy k, rLn k, .inl f)
def hrx (R : rA) (h : gH) : gH := fun c => if c = 541 then some (eMo R.1 R.2.1) else if 542 ≤ c ∧ c < 556 then some (eAr (c - 542) (R.2.2 (c - 542))) else h c
abbrev zB (R : rA) : Nat → Int := R.2.2 0
abbrev zS (R : rA) : Nat → Int := R.2.2 1
abbrev zL (R : rA) : Nat → Int := R.2.2 2
abbrev zV (R : rA) : Nat → Int := R.2.2 3
abbrev zW (R : rA) : Nat → Int := R.2.2 4
abbrev zD (R : rA) : Nat → Int := R.2.2 5
abbrev zR (R : rA) : Nat → Int := R.2.2 6
abbrev zN (R : rA) : Nat → Int := R.2.2 7
abbrev zE (R : rA) : Nat → Int := R.2.2 8
abbrev zM (R : rA) : Nat → Int := R.2.2 9
abbrev zT (R : rA) : Nat → Int := R.2.2 10
abbrev zY (R : rA) : Nat → Int := R.2.2 11
abbrev zP (R : rA) : Nat → Int := R.2.2 12
abbrev zF (R : rA) : Nat → Int := R.2.2 13
def sR (R : rA) (k : Nat) (f : Nat → Int) : rA := (R.1, R.2.1, gF R.2.2 k f)
def sTh (R : rA) (x : Int) : rA := (x, R.2.1, R.2.2)
section
variable {R : rA} {h : gH} {k : Nat} {f : Nat → Int}
theorem sR_s : (sR R k f).2.2 k = f := gF_s _ _ _
theorem sR_n {j : Nat} (hj : j ≠ k) : (sR R k f).2.2 j = R.2.2 j := gF_n hj
theorem hr_o : hrx R h 541 = some (eMo R.1 R.2.1) := if_pos rfl
theorem hr_a (hk : k < 14) : hrx R h (542 + k) = some (eAr k (R.2.2 k)) := by
  unfold hrx
  rw [if_neg (by omega), if_pos (by omega), show 542 + k - 542 = k by omega]
theorem hr_n {c : Nat} (hc : ¬ (541 ≤ c ∧ c < 556)) : hrx R h c = h c := by
  unfold hrx
  rw [if_neg (by omega), if_neg (by omega)]
theorem ur_a (hk : k < 14) : gU (hrx R h) (542 + k) (eAr k f) = hrx (sR R k f) h := by
  funext c
  by_cases e : c = 542 + k
  · rw [e, gU_s, hr_a hk, sR_s]
  · rw [gU_n e]
    unfold hrx
    by_cases c1 : c = 541
    · rw [if_pos c1, if_pos c1]
      rfl
    · rw [if_neg c1, if_neg c1]
      by_cases c2 : 542 ≤ c ∧ c < 556
      · rw [if_pos c2, if_pos c2, sR_n (by omega)]
      · rw [if_neg c2, if_neg c2]
theorem ur_o {x : Int} : gU (hrx R h) 541 (eMo x R.2.1) = hrx (sTh R x) h := by
  funext c
  by_cases c1 : c = 541
  · rw [c1, gU_s, hr_o]
    rfl
  · rw [gU_n c1]
    unfold hrx
    rw [if_neg c1, if_neg c1]
    rfl
/-- the class's cells and the reference's -/
theorem hpr {A : cA} : hpx A (hrx R h) = hrx R (hpx A h) := by
  funext c
  by_cases c1 : 541 ≤ c
  · have e1 : ∀ h' : gH, hpx A h' c = h' c := fun h' => if_pos c1
    rw [e1]
    unfold hrx
    rw [e1]
  · rw [hr_n (by omega)]
    unfold hpx
    rw [if_neg c1, if_neg c1]
theorem hr_B : hrx R h 542 = some (.inl (0, 5, .inl (R.2.2 0))) := hr_a (k := 0) (by omega)
theorem hr_S : hrx R h 543 = some (.inl (0, 21600, .inl (R.2.2 1))) := hr_a (k := 1) (by omega)
theorem hr_L : hrx R h 544 = some (.inl (0, 21600, .inl (R.2.2 2))) := hr_a (k := 2) (by omega)
theorem hr_V : hrx R h 545 = some (.inl (0, 21600, .inl (R.2.2 3))) := hr_a (k := 3) (by omega)
theorem hr_W : hrx R h 546 = some (.inl (4, 21600, .inl (R.2.2 4))) := hr_a (k := 4) (by omega)
theorem hr_D : hrx R h 547 = some (.inl (0, 4, .inl (R.2.2 5))) := hr_a (k := 5) (by omega)
theorem hr_R : hrx R h 548 = some (.inl (0, 4, .inl (R.2.2 6))) := hr_a (k := 6) (by omega)
theorem hr_N : hrx R h 549 = some (.inl (0, 1536, .inl (R.2.2 7))) := hr_a (k := 7) (by omega)
theorem hr_E : hrx R h 550 = some (.inl (0, 1536, .inl (R.2.2 8))) := hr_a (k := 8) (by omega)
theorem hr_M : hrx R h 551 = some (.inl (0, 24, .inl (R.2.2 9))) := hr_a (k := 9) (by omega)
theorem hr_T : hrx R h 552 = some (.inl (4, 256, .inl (R.2.2 10))) := hr_a (k := 10) (by omega)
theorem hr_Y : hrx R h 553 = some (.inl (0, 8, .inl (R.2.2 11))) := hr_a (k := 11) (by omega)
theorem hr_P : hrx R h 554 = some (.inl (0, 8, .inl (R.2.2 12))) := hr_a (k := 12) (by omega)
theorem hr_F : hrx R h 555 = some (.inl (0, 8, .inl (R.2.2 13))) := hr_a (k := 13) (by omega)
theorem ur_B : gU (hrx R h) 542 (.inl (0, 5, .inl f)) = hrx (sR R 0 f) h := ur_a (k := 0) (by omega)
theorem ur_S : gU (hrx R h) 543 (.inl (0, 21600, .inl f)) = hrx (sR R 1 f) h := ur_a (k := 1) (by omega)
theorem ur_L : gU (hrx R h) 544 (.inl (0, 21600, .inl f)) = hrx (sR R 2 f) h := ur_a (k := 2) (by omega)
theorem ur_V : gU (hrx R h) 545 (.inl (0, 21600, .inl f)) = hrx (sR R 3 f) h := ur_a (k := 3) (by omega)
theorem ur_W : gU (hrx R h) 546 (.inl (4, 21600, .inl f)) = hrx (sR R 4 f) h := ur_a (k := 4) (by omega)
theorem ur_D : gU (hrx R h) 547 (.inl (0, 4, .inl f)) = hrx (sR R 5 f) h := ur_a (k := 5) (by omega)
theorem ur_R : gU (hrx R h) 548 (.inl (0, 4, .inl f)) = hrx (sR R 6 f) h := ur_a (k := 6) (by omega)
theorem ur_N : gU (hrx R h) 549 (.inl (0, 1536, .inl f)) = hrx (sR R 7 f) h := ur_a (k := 7) (by omega)
theorem ur_E : gU (hrx R h) 550 (.inl (0, 1536, .inl f)) = hrx (sR R 8 f) h := ur_a (k := 8) (by omega)
theorem ur_M : gU (hrx R h) 551 (.inl (0, 24, .inl f)) = hrx (sR R 9 f) h := ur_a (k := 9) (by omega)
theorem ur_T : gU (hrx R h) 552 (.inl (4, 256, .inl f)) = hrx (sR R 10 f) h := ur_a (k := 10) (by omega)
theorem ur_Y : gU (hrx R h) 553 (.inl (0, 8, .inl f)) = hrx (sR R 11 f) h := ur_a (k := 11) (by omega)
theorem ur_P : gU (hrx R h) 554 (.inl (0, 8, .inl f)) = hrx (sR R 12 f) h := ur_a (k := 12) (by omega)
theorem ur_F : gU (hrx R h) 555 (.inl (0, 8, .inl f)) = hrx (sR R 13 f) h := ur_a (k := 13) (by omega)
theorem gF_sw {α : Type} {f : Nat → α} {i j : Nat} {a b : α} (hij : i ≠ j) : gF (gF f i a) j b = gF (gF f j b) i a := by
  funext k
  by_cases e : k = j
  · rw [e, gF_s, gF_n (Ne.symm hij), gF_s]
  · rw [gF_n e]
    by_cases e2 : k = i
    · rw [e2, gF_s, gF_s]
    · rw [gF_n e2, gF_n e2, gF_n e]
theorem sR_sw {i j : Nat} {a b : Nat → Int} (hij : i ≠ j) : sR (sR R i a) j b = sR (sR R j b) i a := by
  show (R.1, R.2.1, gF (gF R.2.2 i a) j b) = (R.1, R.2.1, gF (gF R.2.2 j b) i a)
  rw [gF_sw hij]
theorem sR_uu {i : Nat} {a b : Nat → Int} : sR (sR R i a) i b = sR R i b := by
  show (R.1, R.2.1, gF (gF R.2.2 i a) i b) = (R.1, R.2.1, gF R.2.2 i b)
  rw [gF_uu]
end
