/-! more room than is needed -/
theorem go_room {G : gG} {M : gM} {F : gK → State → Prop} {pc : Nat} {lv : List (Option gV)} {st : List gV} {N : Option Nat} {h : gH} {c s c' s' : Nat} (hc : c ≤ c') (hs : s ≤ s') (kk : Go G M F pc lv st N h c s) : Go G M F pc lv st N h c' s' := by
  intro κ H locs ls cells slots hC hH hl hr
  obtain ⟨p, e, R, s0, m, args, below, meth, cd⟩ := κ
  have hr : cells + c' ≤ R.cells ∧ slots + s' ≤ R.slots := hr
  exact kk _ H locs ls cells slots hC hH hl ⟨by omega, by omega⟩
