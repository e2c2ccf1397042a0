/-! two rules for the law -/
section
variable {G : gG} {M : gM} {F : gK → State → Prop} {pc : Nat} {lv lv' : List (Option gV)} {st st' : List gV} {N : Option Nat} {h : gH} {c s : Nat} {pc0 nx k j : Nat} {z : Int}
theorem go_scr {i : Int} (hM : gOk M) (hi : gAt (mT M) pc = some (pc0, .iaload, nx, z, k, j)) (h0 : 0 ≤ i) (h1 : i < gL G) (hn : gL G ≤ 2147483647) (kk : Go G M F nx lv (vI (scr G i) :: st) N h c s) : Go G M F pc lv (vI i :: vR 0 :: st) N h c s := go_sld hM hi h0 h1 hn kk
theorem go_flag {a w off o2 : Int} {p1 p2 p3 p4 x1 x2 x3 x4 y1 y2 y3 : Nat} {z2 : Int} (hM : gOk M) (hi : gAt (mT M) pc = some (pc0, .ifCond .eq off, nx, z, k, j)) (h1 : gAt (mT M) nx = some (p1, .iconst 1, p2, 1, x1, y1)) (h2 : gAt (mT M) p2 = some (p3, .goto o2, x2, z2, p4, y2)) (h3 : gAt (mT M) k = some (x3, .iconst 0, p4, 0, x4, y3)) (ra : -2147483648 ≤ a ∧ a ≤ 2147483647) (hv : w = 0 ∧ a = 0 ∨ w = 1 ∧ ¬ a = 0) (kk : Go G M F p4 lv (vI w :: st) N h c s) : Go G M F pc lv (vI a :: st) N h c s := by
  refine go_if_eq hM hi ra (fun e => ?_) (fun e => ?_)
  · rcases hv with ⟨rfl, _⟩ | ⟨_, e2⟩
    · exact go_pure hM (by unfold gStep; rw [h3]; rfl) kk
    · exact absurd e e2
  · rcases hv with ⟨_, e2⟩ | ⟨rfl, _⟩
    · exact absurd e2 e
    · refine go_pure (pc' := p2) hM (by unfold gStep; rw [h1]; rfl) ?_
      exact go_pure hM (by unfold gStep; rw [h2]; rfl) kk
theorem rng0 {a : Int} (h : a = 0) : -2147483648 ≤ a ∧ a ≤ 2147483647 := by omega
theorem wrt_01 {SS : Nat → mS} {f b c r : Int} (h : (¬ okFB f b ∧ c = 1 ∧ r = 0) ∨ (okFB f b ∧ c = 0 ∧ r = wrtS (SS f.toNat) b)) : r = 0 ∨ r = 1 := by
  rcases h with ⟨_, _, e⟩ | ⟨_, _, e⟩
  · exact Or.inl e
  · rw [e]
    unfold wrtS
    split <;> omega
end
