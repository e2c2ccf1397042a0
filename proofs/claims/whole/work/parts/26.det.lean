/-! contracts whose end is known -/
abbrev gEq (v : Option gV) (N : Option Nat) (h : gH) : Option gV → Option Nat → gH → Prop := fun v' N' h' => v' = v ∧ N' = N ∧ h' = h
abbrev gNo : String → gH → Prop := fun _ _ => False
abbrev Rd (G : gG) (M : gM) (av : List gV) (N : Option Nat) (h : gH) (v : Option gV) (N' : Option Nat) (h' : gH) : Prop := Rn G M av N h 0 0 (gEq v N' h') gNo
theorem gU_s (h : gH) (a : Nat) (e : gE) : gU h a e a = some e := by simp [gU]
theorem gU_n {h : gH} {a b : Nat} {e : gE} (hn : b ≠ a) : gU h a e b = h b := by simp [gU, hn]
theorem gU_uu (h : gH) (a : Nat) (e e' : gE) : gU (gU h a e) a e' = gU h a e' := by
  funext j
  unfold gU
  split <;> rfl
theorem gU_comm {h : gH} {a b : Nat} {e e' : gE} (hn : a ≠ b) : gU (gU h a e) b e' = gU (gU h b e') a e := by
  funext j
  unfold gU
  by_cases h1 : j = b
  · subst h1
    rw [if_pos rfl, if_neg (Ne.symm hn), if_pos rfl]
  · rw [if_neg h1]
    by_cases h2 : j = a
    · rw [if_pos h2, if_pos h2]
    · rw [if_neg h2, if_neg h2, if_neg h1]
theorem gU_same {h : gH} {a : Nat} {e : gE} (he : h a = some e) : gU h a e = h := by
  funext j
  unfold gU
  by_cases h1 : j = a
  · rw [if_pos h1, h1, he]
  · rw [if_neg h1]
section
variable {G : gG} {M M' : gM} {F : gK → State → Prop} {pc : Nat} {lv : List (Option gV)} {st : List gV} {N N' : Option Nat} {h h' : gH} {c s : Nat} {pc0 nx k j : Nat} {z : Int} {v : Option gV}
theorem go_cV {idx b ci : Nat} {fs As rest : List gV} {T : u_T} {nn : Nat} (hM : gOk M) (hi : gAt (mT M) pc = some (pc0, .invokevirtual idx, nx, z, k, j)) (hm : gMs[k]? = some M') (hp : gPop (j + 1) [] st = some (vR b :: As, rest)) (hb : h b = some (.inr (ci, fs))) (hci : gCl[ci]? = some ((mN M').cls, T, nn)) (hR : Rd G M' (vR b :: As) N h v N' h') (hw : Nat.ble (rest.map gCat).sum 8 = true) (kk : Go G M F nx lv (gPsh v rest) N' h' c s) : Go G M F pc lv st N h c s :=
  go_callV (mc := 0) (ms := 0) hM hi hm hp hb hci hR hw (fun _ _ _ q => by obtain ⟨rfl, rfl, rfl⟩ := q; exact kk) (fun _ _ q => q.elim)
theorem go_cS {idx : Nat} {As rest : List gV} (hM : gOk M) (hi : gAt (mT M) pc = some (pc0, .invokestatic idx, nx, 0, k, j)) (hm : gMs[k]? = some M') (hp : gPop j [] st = some (As, rest)) (hR : Rd G M' As N h v N' h') (hw : Nat.ble (rest.map gCat).sum 8 = true) (kk : Go G M F nx lv (gPsh v rest) N' h' c s) : Go G M F pc lv st N h c s :=
  go_callS (mc := 0) (ms := 0) hM hi hm hp hR hw (fun _ _ _ q => by obtain ⟨rfl, rfl, rfl⟩ := q; exact kk) (fun _ _ q => q.elim)
theorem go_cN {idx : Nat} {As rest : List gV} (hM : gOk M) (hi : gAt (mT M) pc = some (pc0, .invokestatic idx, nx, 4, k, j)) (hm : gMs[k]? = some M') (hp : gPop j [] st = some (As, rest)) (hR : Rd G M' As N h v N' h') (hw : Nat.ble (rest.map gCat).sum 8 = true) (kk : Go G M F nx lv (gPsh v rest) N' h' c s) : Go G M F pc lv st N h c s :=
  go_callSN (mc := 0) (ms := 0) hM hi hm hp hR hw (fun _ _ _ q => by obtain ⟨rfl, rfl, rfl⟩ := q; exact kk)
end
