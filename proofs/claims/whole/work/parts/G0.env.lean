/-! what holds at the law's entry -/
section
variable {s : State} {b : Nat}
set_option maxRecDepth 20000 in
theorem en_cls {args : Array Value} (hts : ∀ w ∈ lw_tbl, w.before args s = true) : ∃ (dC : Nat → ClassId) (dI : Nat → Nat → Nat), ∀ (k : Nat) (q : vw_C), gCl[k]? = some q → u_Kn s q.1 q.2.1 q.2.2 (dC k) (dI k) := by
  have hT : ∀ w ∈ gT, w.before args s = true := fun w hw => hts w (gT_in hw)
  have one : ∀ (k : Nat) (q : vw_C) (n : Nat), gCl[k]? = some q → gIn (Cond.instantiable q.1 n) = true → ∃ (cC : ClassId) (iS : Nat → Nat), u_Kn s q.1 q.2.1 q.2.2 cC iS := fun k q n h1 h2 => u_known hT (gUws k q h1) (hT _ (gIn_spec h2))
  obtain ⟨c0, i0, h0⟩ := one 0 _ 6 rfl (by decide +kernel)
  obtain ⟨c1, i1, h1⟩ := one 1 _ 2 rfl (by decide +kernel)
  obtain ⟨c2, i2, h2⟩ := one 2 _ 11 rfl (by decide +kernel)
  obtain ⟨c3, i3, h3⟩ := one 3 _ 2 rfl (by decide +kernel)
  obtain ⟨c4, i4, h4⟩ := one 4 _ 16 rfl (by decide +kernel)
  refine ⟨fun k => match k with | 0 => c0 | 1 => c1 | 2 => c2 | 3 => c3 | _ => c4, fun k => match k with | 0 => i0 | 1 => i1 | 2 => i2 | 3 => i3 | _ => i4, fun k q hq => ?_⟩
  match k, hq with
  | 0, hq => cases hq; exact h0
  | 1, hq => cases hq; exact h1
  | 2, hq => cases hq; exact h2
  | 3, hq => cases hq; exact h3
  | 4, hq => cases hq; exact h4
theorem en_prim {args : Array Value} {ty : FieldType} (hp : ∀ C, ty ≠ .object C) (h : (Cond.arrayClass ty).before args s = true) : ∃ cA : ClassId, ArrOfT s cA ty ∧ va_RA s cA ty := by
  obtain ⟨c, k, comp, h1, h2, h3⟩ := Cond.arrayClass_spec h
  refine ⟨c, fun n z => ⟨fun k9 h9 => (by cases h9), k, h2, comp, h3⟩, ?_⟩
  cases ty with
  | object C => exact absurd rfl (hp C)
  | _ => exact h1
theorem en_obj {args : Array Value} {C : String} (h : (Cond.arrayOver (.object C)).before args s = true) : ∃ cA : ClassId, ArrOfT s cA (.object C) ∧ va_RA s cA (.object C) := by
  obtain ⟨comp, c, k, h1, -, h2, h3, h4⟩ := Cond.arrayOver_spec h
  exact ⟨c, fun n z => ⟨fun k9 h9 => (by cases h9), k, h2, comp, h3⟩, k, comp, h2, h3, h1, h4⟩
theorem en_arr {args : Array Value} (hts : ∀ w ∈ lw_tbl, w.before args s = true) : ∃ dA : Nat → ClassId, ∀ (k : Nat) (ty : FieldType), gTy[k]? = some ty → ArrOfT s (dA k) ty ∧ va_RA s (dA k) ty := by
  obtain ⟨c0, h0⟩ := en_prim (ty := .int) (fun C e => by cases e) (hts (.arrayClass .int) (by decide +kernel))
  obtain ⟨c1, h1⟩ := en_prim (ty := .long) (fun C e => by cases e) (hts (.arrayClass .long) (by decide +kernel))
  obtain ⟨c2, h2⟩ := en_obj (hts (.arrayOver (.object "ExtentTree$Node")) (by decide +kernel))
  obtain ⟨c3, h3⟩ := en_obj (hts (.arrayOver (.object "ExtentTree$Tree")) (by decide +kernel))
  obtain ⟨c4, h4⟩ := en_prim (ty := .boolean) (fun C e => by cases e) (hts (.arrayClass .boolean) (by decide +kernel))
  refine ⟨fun k => match k with | 0 => c0 | 1 => c1 | 2 => c2 | 3 => c3 | _ => c4, fun k q hq => ?_⟩
  match k, hq with
  | 0, hq => cases hq; exact h0
  | 1, hq => cases hq; exact h1
  | 2, hq => cases hq; exact h2
  | 3, hq => cases hq; exact h3
  | 4, hq => cases hq; exact h4
theorem gSt_in : ∀ q ∈ gSt, Cond.stringRef q.1 q.2.1 q.2.2 ∈ lw_tbl := by decide +kernel
theorem gSt_own : ∀ q ∈ gSt, q.1 = "ExtentTree" := by decide +kernel
theorem en_str {args : Array Value} {m : ClassId} (hts : ∀ w ∈ lw_tbl, w.before args s = true) (hown : s.vm.findClass "ExtentTree" = some m) : ∃ sa : Nat → Nat, ∀ (k : Nat) (q : String × Nat × String), gSt[k]? = some q → vk_R q.1 q.2.1 q.2.2 (sa k) s := by
  have h1 : ∀ k : Nat, ∃ a : Nat, ∀ q : String × Nat × String, gSt[k]? = some q → vk_R q.1 q.2.1 q.2.2 a s := by
    intro k
    cases hk : gSt[k]? with
    | none => exact ⟨0, fun q h => by cases h⟩
    | some q9 =>
      have hm := List.mem_of_getElem? hk
      have h2 := hts _ (gSt_in q9 hm)
      obtain ⟨k2, cf, i, a, e1, e2, e3, e4, e5, e6⟩ := Cond.stringRef_spec (by rw [gSt_own q9 hm]; exact hown) h2
      exact ⟨a, fun q h => by cases h; exact vk_R.of h2 e6⟩
  obtain ⟨f, hf⟩ := Classical.axiomOfChoice h1
  exact ⟨f, hf⟩
theorem gCa_in : ∀ q ∈ gCa, Cond.castable q.1 q.2 ∈ lw_tbl := by decide +kernel
theorem gNl_in : ∀ q ∈ gNl, Cond.methodLinkNest q.1 q.2.1 q.2.2.1 q.2.2.2 ∈ lw_tbl := by decide +kernel
theorem gDe_in : ∀ y ∈ gDe, Cond.declares y ∈ lw_tbl := by decide +kernel
theorem gAo_in : ∀ C ∈ gAo, Cond.arrayOver (.object C) ∈ lw_tbl := by decide +kernel
end
