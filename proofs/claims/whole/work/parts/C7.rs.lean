/-! the reference holds these trees -/
def BS (SS : Nat → mS) (g l : Nat) : Nat → Nat := mb (SS g) l
def CS (SS : Nat → mS) (g l : Nat) : Nat → Nat := mc (SS g) l
def RS (R : rA) (SS : Nat → mS) (m : Nat) : Prop := R.2.1 = (m : Int) ∧ (∀ g, g < 4 → zD R g = (md (SS g) : Int) ∧ zR R g = (mc (SS g) (md (SS g)) 0 : Int)) ∧ RD R (KS SS) (BS SS) (CS SS) ∧ zT R 0 = 1 ∧ Tn SS (zT R)
def RR (R : rA) (SS : Nat → mS) : Prop := bg SS 4 ≤ 21500 ∧ (∀ g, g ≤ 4 → zB R g = (bg SS g : Int)) ∧ ∀ g, g < 4 → ∀ i, i < mn (SS g) → zS R (bg SS g + i) = ms (SS g) i ∧ zL R (bg SS g + i) = ml (SS g) i ∧ zV R (bg SS g + i) = mv (SS g) i ∧ zW R (bg SS g + i) = mw (SS g) i
