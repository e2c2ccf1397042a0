/-! countMapped leaves the files as they are -/
def cmA (A : cA) (t : Nat) (x w : Int) : cA := sTr A t (aRu A t) (aBl A t) (aMa A t + x) (if w = 1 then aMw A t + x else aMw A t) (aLb A t) (aLf A t)
section
variable {A : cA} {SS : Nat → mS} {F : Nat → Prop} {S : mS} {t : Nat} {x w : Int} {i : Int}
theorem CX.cnt (hc : CX A SS F) : CX (cmA A t x w) SS F := by
  have e1 : aRu (cmA A t x w) = aRu A := gF_same _ _
  have e2 : aBl (cmA A t x w) = aBl A := gF_same _ _
  have e3 : aLb (cmA A t x w) = aLb A := gF_same _ _
  obtain ⟨h1, h2, h3, h4, h5, h6, h7⟩ := hc
  refine ⟨h1, fun t' ht' => ?_, h3, h4, h5, h6, h7⟩
  obtain ⟨a1, a2, a3, a4, a5, a6⟩ := h2 t' ht'
  exact ⟨a1, a2, a3, by rw [e1]; exact a4, by rw [e2]; exact a5, by rw [e3]; exact a6⟩
theorem wy_cnt (hw : WyTo A t S i) : WyTo (cmA A t x w) t S i := ⟨(gF_s _ _ _).trans hw.1, hw.2⟩
theorem cnt_mm : aMa (cmA A t x w) = gF (aMa A) t (aMa A t + x) ∧ aMw (cmA A t x w) = gF (aMw A) t (if w = 1 then aMw A t + x else aMw A t) ∧ aM (cmA A t x w) = aM A ∧ aTk (cmA A t x w) = aTk A ∧ aLe (cmA A t x w) = aLe A := ⟨rfl, rfl, rfl, rfl, rfl⟩
end
