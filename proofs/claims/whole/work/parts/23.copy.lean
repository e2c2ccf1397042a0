/-! System.arraycopy; all cells as a list -/
def gWl (G : gG) (h : gH) (B : Nat) : va_W := (List.range B).filterMap (fun i => (h i).map (fun e => (gZ G + i, gzE G e)))
theorem gWl_mem {G : gG} {h : gH} {B : Nat} {q : Nat × va_E} : q ∈ gWl G h B ↔ ∃ i e, i < B ∧ h i = some e ∧ q = (gZ G + i, gzE G e) := by
  unfold gWl
  rw [List.mem_filterMap]
  constructor
  · rintro ⟨i, hi, h1⟩
    cases h2 : h i with
    | none => rw [h2] at h1; simp at h1
    | some e =>
      rw [h2] at h1
      simp at h1
      exact ⟨i, e, List.mem_range.mp hi, h2, h1.symm⟩
  · rintro ⟨i, e, hi, h2, rfl⟩
    exact ⟨i, List.mem_range.mpr hi, by rw [h2]; rfl⟩
theorem gWl_inj {G : gG} {h : gH} {B : Nat} (i j : Nat) (p q : Nat × va_E) (hp : (gWl G h B)[i]? = some p) (hq : (gWl G h B)[j]? = some q) (e : p.1 = q.1) : i = j := by
  have hpw : (gWl G h B).Pairwise (fun a b => a.1 < b.1) := by
    refine List.Pairwise.filterMap (R := fun a b => a < b) _ ?_ List.pairwise_lt_range
    intro a a' haa b hb b' hb'
    cases h1 : h a with
    | none => rw [h1] at hb; simp at hb
    | some x =>
      cases h2 : h a' with
      | none => rw [h2] at hb'; simp at hb'
      | some y =>
        rw [h1] at hb
        rw [h2] at hb'
        simp at hb hb'
        subst hb
        subst hb'
        show gZ G + a < gZ G + a'
        omega
  rw [List.pairwise_iff_getElem] at hpw
  obtain ⟨hi, ei⟩ := List.getElem?_eq_some_iff.mp hp
  obtain ⟨hj, ej⟩ := List.getElem?_eq_some_iff.mp hq
  rcases Nat.lt_trichotomy i j with h9 | h9 | h9
  · have := hpw i j hi hj h9
    rw [ei, ej] at this
    omega
  · exact h9
  · have := hpw j i hj hi h9
    rw [ei, ej] at this
    omega
theorem gWl_at {G : gG} {h : gH} {B i : Nat} {e : gE} (hi : i < B) (he : h i = some e) : ∃ q : Nat, (gWl G h B)[q]? = some (gZ G + i, gzE G e) := List.getElem?_of_mem (gWl_mem.mpr ⟨i, e, hi, he, rfl⟩)
section
variable {G : gG} {M : gM} {F : gK → State → Prop} {pc : Nat} {lv lv' : List (Option gV)} {st st' : List gV} {N : Option Nat} {h : gH} {c s : Nat} {pc0 nx k j : Nat} {z : Int}

set_option maxHeartbeats 1000000 in
theorem go_copy {idx a0 a n0 n1 : Nat} {f g : Nat → Int} {sp dp n : Int} (hM : gOk M) (hi : gAt (mT M) pc = some (pc0, .invokestatic idx, nx, 3, k, j)) (hh0 : h a0 = some (.inl (0, n0, .inl f))) (hh : h a = some (.inl (0, n1, .inl g))) (h1 : 0 ≤ sp) (h2 : 0 ≤ dp) (h3 : 0 ≤ n) (h4 : sp + n ≤ n0) (h5 : dp + n ≤ n1) (h6 : n0 ≤ 100000000) (h7 : n1 ≤ 100000000) (hw : Nat.ble (st.map gCat).sum 8 = true)
    (kk : Go G M F nx lv st none (gU h a (.inl (0, n1, .inl (gCp f g sp.toNat dp.toNat n.toNat)))) c s) : Go G M F pc lv (vI n :: vI dp :: vR a :: vI sp :: vR a0 :: st) N h c s := by
  intro κ H locs ls cells slots hC hH hl hr
  obtain ⟨p, e, R, s0, m, args, below, meth, cd⟩ := κ
  obtain ⟨hd, rfl, ho⟩ := gdec' (len := 3) hM hi rfl (by decide)
  obtain ⟨htr, hx, hb, hrt, hml, hown, hts, hlk, hnm, hfr, hlo, het, hE⟩ := id hC
  have ho : (gOkW (gCpy (mN M).cls idx) = true ∧ 1 ≤ mF M) ∧ 8 + (nativeFrameWords "java/lang/System" "arraycopy" 5 + 11) ≤ mO M := by simpa [gOkI] using ho
  have hw2 : ((st.map (gz G)).map fun v => v.category).sum ≤ 8 := by rw [gz_cats]; exact Nat.le_of_ble_eq_true hw
  obtain ⟨ea0, hat0⟩ := hH.1.at hh0
  obtain ⟨ea, hat⟩ := hH.1.at hh
  have hB : ∀ i e, h i = some e → i < H.size := fun i e h9 => by
    have := (hH.1 i e h9).2.lt
    have h8 : gZ G + i < H.size := this
    omega
  obtain ⟨q0, hq0⟩ := gWl_at (G := G) (hB _ _ hh0) hh0
  obtain ⟨q1, hq1⟩ := gWl_at (G := G) (hB _ _ hh) hh
  have hP : va_P (gD G) gCl (gWl G h H.size) H := by
    intro i q hq
    obtain ⟨i9, e9, -, h9, rfl⟩ := gWl_mem.mp (List.mem_of_getElem? hq)
    exact (hH.1 i9 e9 h9).2
  have hD : va_D (gA G) (gWl G h H.size) := by
    refine ⟨gWl_inj, fun i q hq => ?_⟩
    obtain ⟨i9, e9, -, h9, rfl⟩ := gWl_mem.mp (List.mem_of_getElem? hq)
    exact gA_in (hH.1 i9 e9 h9).1
  have n2 : ∀ x : Int, 0 ≤ x → x ≤ 2147483647 → ¬ Int32.ofInt x < 0 := fun x g1 g2 g3 => by
    rw [gI_0] at g3
    have := (gI_lt (by omega) (by omega)).mp g3
    omega
  have c1 := gI_cl h1 (by omega)
  have c2 := gI_cl h2 (by omega)
  have c3 := gI_cl h3 (by omega)
  show W p (gl G) e R s0 m args below meth cd H locs cells slots (F (p, e, R, s0, m, args, below, meth, cd)) (F0 m pc ls (.int (Int32.ofInt n) :: .int (Int32.ofInt dp) :: .ref (ga G a) :: .int (Int32.ofInt sp) :: .ref (ga G a0) :: st.map (gz G)))
  rw [ea, ea0]
  refine va_copyi (f := fun i => Int32.ofInt (f i)) (g := fun i => Int32.ofInt (g i)) (ty := .int) (tys := [(gdA G 0, .int)]) hx hb (by rw [hml]; exact hl.1.symm) hown (index := idx) (hts _ (gOkW_spec ho.1.1 (by simp [gCpy]))) (hts _ (gOkW_spec ho.1.1 (by simp [gCpy]))) (hts _ (gOkW_spec ho.1.1 (by simp [gCpy]))) (hts _ (gOkW_spec ho.1.1 (by simp [gCpy]))) (gK1 hE (k := 0) rfl) hP hD hH.2.2 q0 q1 0 0 hq0 hq1 rfl rfl rfl (n2 _ h1 (by omega)) (n2 _ h2 (by omega)) (n2 _ h3 (by omega)) (by rw [c1, c3]; omega) (by rw [c2, c3]; omega) (fun _ _ => rfl) (Nat.le_trans ho.1.2 hfr) (by omega) hd (fun H1 locs1 hP1 hD1 hS1 => ?_)
  refine kk _ H1 locs1 ls cells slots hC ⟨?_, fun n9 e9 => (by cases e9), hS1⟩ hl hr
  intro i e9 hi9
  unfold gU at hi9
  by_cases hia : i = a
  · subst hia
    simp at hi9
    subst hi9
    refine ⟨(hH.1 i _ hh).1, ?_⟩
    have h9 := hP1 q1 _ (by rw [List.getElem?_set_self (List.getElem?_eq_some_iff.mp hq1).1])
    have e8 : gzE G (.inl (0, n1, .inl (gCp f g sp.toNat dp.toNat n.toNat))) = .inl (gdA G 0, n1, .inl (va_cpy (fun i => Int32.ofInt (f i)) (fun i => Int32.ofInt (g i)) (Int32.ofInt sp).toNatClampNeg (Int32.ofInt dp).toNatClampNeg (Int32.ofInt n).toNatClampNeg)) := by
      rw [c1, c2, c3]
      simp only [gzE, gzC]
      congr 3
      congr 1
      funext x
      simp only [gCp, va_cpy]
      split <;> rfl
    rw [e8]
    exact h9
  · rw [if_neg hia] at hi9
    obtain ⟨qi, hqi⟩ := gWl_at (G := G) (hB _ _ hi9) hi9
    have hne : qi ≠ q1 := by
      intro h9
      subst h9
      have := hqi.symm.trans hq1
      simp at this
      omega
    exact ⟨(hH.1 i e9 hi9).1, hP1 qi _ (by rw [List.getElem?_set_ne (Ne.symm hne)]; exact hqi)⟩
end
