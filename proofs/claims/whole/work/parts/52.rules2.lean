/-! more rules: two of the stack doubled, remainders, shifts, longs, arrays of booleans -/
section
variable {G : gG} {M : gM} {F : gK → State → Prop} {pc : Nat} {lv lv' : List (Option gV)} {st st' : List gV} {N : Option Nat} {h : gH} {c s : Nat} {pc0 nx k j : Nat} {z : Int}
theorem go_dup2 {a : Int} {b : Nat} (hM : gOk M) (hi : gAt (mT M) pc = some (pc0, .dup2, nx, z, k, j)) (kk : Go G M F nx lv (vI a :: vR b :: vI a :: vR b :: st) N h c s) : Go G M F pc lv (vI a :: vR b :: st) N h c s := by
  intro κ H locs ls cells slots hC hH hl hr
  obtain ⟨p, e, R, s0, m, args, below, meth, cd⟩ := κ
  obtain ⟨hd, rfl, ho⟩ := gdec' (len := 1) hM hi rfl (by decide)
  obtain ⟨htr, hx, hb, hrt, hml, hown, hts, hlk, hnm, hfr, hlo, het, hE⟩ := id hC
  exact lv_dup2_11 (va := .int (Int32.ofInt a)) (vb := .ref (ga G b)) hx hb hd rfl rfl (kk _ H locs ls cells slots hC hH hl hr)
theorem go_i2l {a : Int} (hM : gOk M) (hi : gAt (mT M) pc = some (pc0, .i2l, nx, z, k, j)) (kk : Go G M F nx lv (vL (Int32.ofInt a).toInt64 :: st) N h c s) : Go G M F pc lv (vI a :: st) N h c s := by
  intro κ H locs ls cells slots hC hH hl hr
  obtain ⟨p, e, R, s0, m, args, below, meth, cd⟩ := κ
  obtain ⟨hd, rfl, ho⟩ := gdec' (len := 1) hM hi rfl (by decide)
  obtain ⟨htr, hx, hb, hrt, hml, hown, hts, hlk, hnm, hfr, hlo, het, hE⟩ := id hC
  exact lv_i2l hx hb hd rfl (kk _ H locs ls cells slots hC hH hl hr)
theorem go_lconst {x : Fin 2} (hM : gOk M) (hi : gAt (mT M) pc = some (pc0, .lconst x, nx, z, k, j)) (kk : Go G M F nx lv (vL (Int64.ofNat x.val) :: st) N h c s) : Go G M F pc lv st N h c s := by
  intro κ H locs ls cells slots hC hH hl hr
  obtain ⟨p, e, R, s0, m, args, below, meth, cd⟩ := κ
  obtain ⟨hd, rfl, ho⟩ := gdec' (len := 1) hM hi rfl (by decide)
  obtain ⟨htr, hx, hb, hrt, hml, hown, hts, hlk, hnm, hfr, hlo, het, hE⟩ := id hC
  exact lv_lconst hx hb hd rfl (kk _ H locs ls cells slots hC hH hl hr)
theorem go_lcmp {x y : Int64} (hM : gOk M) (hi : gAt (mT M) pc = some (pc0, .lcmp, nx, z, k, j)) (kk : Go G M F nx lv (vI (lg_cmp x y).toInt :: st) N h c s) : Go G M F pc lv (vL y :: vL x :: st) N h c s := by
  intro κ H locs ls cells slots hC hH hl hr
  obtain ⟨p, e, R, s0, m, args, below, meth, cd⟩ := κ
  obtain ⟨hd, rfl, ho⟩ := gdec' (len := 1) hM hi rfl (by decide)
  obtain ⟨htr, hx, hb, hrt, hml, hown, hts, hlk, hnm, hfr, hlo, het, hE⟩ := id hC
  refine W.lcmp hx hb hd ?_
  have h9 := kk _ H locs ls cells slots hC hH hl hr
  have e9 : gz G (vI (lg_cmp x y).toInt) = .int (lg_cmp x y) := by simp [gz]
  simp only [gWk, List.map_cons, e9] at h9
  exact h9
theorem go_irem {a b : Int} (hM : gOk M) (hi : gAt (mT M) pc = some (pc0, .irem, nx, z, k, j)) (ha : 0 ≤ a ∧ a ≤ 2147483647) (hb9 : 0 < b ∧ b ≤ 2147483647) (kk : Go G M F nx lv (vI (a % b) :: st) N h c s) : Go G M F pc lv (vI b :: vI a :: st) N h c s := by
  intro κ H locs ls cells slots hC hH hl hr
  obtain ⟨p, e, R, s0, m, args, below, meth, cd⟩ := κ
  obtain ⟨hd, rfl, ho⟩ := gdec' (len := 1) hM hi rfl (by decide)
  obtain ⟨htr, hx, hb, hrt, hml, hown, hts, hlk, hnm, hfr, hlo, het, hE⟩ := id hC
  refine lv_irem (x := Int32.ofInt a) (y := Int32.ofInt b) hx hb hd (fun h9 => ?_) ?_
  · rw [gI_0] at h9
    have := (gI_inj (by omega) (by omega)).mp h9
    omega
  · have e9 : Int32.ofInt a - Int32.ofInt a / Int32.ofInt b * Int32.ofInt b = Int32.ofInt (a % b) := by
      rw [gI_div ha.1 ha.2 hb9.1 hb9.2, ← Int32.ofInt_mul, ← Int32.ofInt_sub]
      congr 1
      have := Int.emod_def a b
      rw [this, Int.mul_comm]
    rw [e9]
    exact kk _ H locs ls cells slots hC hH hl hr
theorem go_ishr {a b : Int} (w : Nat) (hM : gOk M) (hi : gAt (mT M) pc = some (pc0, .ishr, nx, z, k, j)) (hw : ((Int32.ofInt b &&& 31).toBitVec.smod 32).toNat = w) (ha : 0 ≤ a ∧ a ≤ 2147483647) (kk : Go G M F nx lv (vI (a / 2 ^ w) :: st) N h c s) : Go G M F pc lv (vI b :: vI a :: st) N h c s := by
  intro κ H locs ls cells slots hC hH hl hr
  obtain ⟨p, e, R, s0, m, args, below, meth, cd⟩ := κ
  obtain ⟨hd, rfl, ho⟩ := gdec' (len := 1) hM hi rfl (by decide)
  obtain ⟨htr, hx, hb, hrt, hml, hown, hts, hlk, hnm, hfr, hlo, het, hE⟩ := id hC
  refine lv_ishr (x := Int32.ofInt a) (y := Int32.ofInt b) hx hb hd ?_
  have h1 : a = (a.toNat : Int) := (Int.toNat_of_nonneg ha.1).symm
  have h2 : Int32.ofInt a >>> (Int32.ofInt b &&& 31) = Int32.ofInt (a / 2 ^ w) := by
    rw [h1, gI_nat, pk_shrN (by omega) _ w hw, ← gI_nat]
    push_cast
    rfl
  rw [h2]
  exact kk _ H locs ls cells slots hC hH hl hr
theorem go_zald {a n : Nat} {i : Int} {f : Nat → Int} (hM : gOk M) (hi : gAt (mT M) pc = some (pc0, .baload, nx, z, k, j)) (hh : h a = some (.inl (4, n, .inl f))) (h0 : 0 ≤ i) (h1 : i < n) (hn : n ≤ 2147483647) (kk : Go G M F nx lv (vI (f i.toNat) :: st) N h c s) : Go G M F pc lv (vI i :: vR a :: st) N h c s := by
  intro κ H locs ls cells slots hC hH hl hr
  obtain ⟨p, e, R, s0, m, args, below, meth, cd⟩ := κ
  obtain ⟨hd, rfl, ho⟩ := gdec' (len := 1) hM hi rfl (by decide)
  obtain ⟨htr, hx, hb, hrt, hml, hown, hts, hlk, hnm, hfr, hlo, het, hE⟩ := id hC
  obtain ⟨ea, hat⟩ := hH.1.at hh
  show W p (gl G) e R s0 m args below meth cd H locs cells slots (F (p, e, R, s0, m, args, below, meth, cd)) (F0 m pc ls (.int (Int32.ofInt i) :: .ref (ga G a) :: st.map (gz G)))
  rw [ea]
  refine va_zald (f := fun i => Int32.ofInt (f i)) hx hb (gK1 hE (k := 4) rfl) (gP1 hat) 0 0 rfl rfl (gI_in h0 h1 hn) hd ?_
  rw [gI_cl h0 (by omega)]
  exact kk _ H locs ls cells slots hC hH hl hr
end
