/-! numbers by bits, division, switches, longs -/
theorem gI_nat (n : Nat) : Int32.ofInt (n : Int) = nI n := Int32.ofInt_eq_ofNat
theorem gI_toNat {a : Int} (h : 0 ≤ a) : Int32.ofInt a = nI a.toNat := by
  rw [← gI_nat, Int.toNat_of_nonneg h]
theorem gI_div {a b : Int} (ha : 0 ≤ a) (ha2 : a ≤ 2147483647) (hb : 0 < b) (hb2 : b ≤ 2147483647) : Int32.ofInt a / Int32.ofInt b = Int32.ofInt (a / b) := by
  rw [gI_toNat ha, gI_toNat (Int.le_of_lt hb), pk_div (by omega) (by omega) (by omega), gI_toNat (Int.ediv_nonneg ha (Int.le_of_lt hb))]
  congr 1
  have h1 : (a / b).toNat = ((a.toNat : Int) / (b.toNat : Int)).toNat := by rw [Int.toNat_of_nonneg ha, Int.toNat_of_nonneg (Int.le_of_lt hb)]
  rw [h1]
  norm_cast
theorem gI_and {a b : Int} {q : Nat} (k : Nat) (hb : (Int32.ofInt b).toBitVec.toNat = 2 ^ k - 1) (hq : 2 ^ k = q) (hk : k ≤ 31) : Int32.ofInt a &&& Int32.ofInt b = Int32.ofInt (a % q) := by
  rw [pk_and _ k hb, hq]
  have h1 : (Int32.ofInt a).toBitVec.toNat = (a % 4294967296).toNat := by
    show (BitVec.ofInt 32 a).toNat = _
    rw [BitVec.toNat_ofInt]
    rfl
  have hd : (q : Int) ∣ 4294967296 := by
    have h9 : q ∣ 4294967296 := ⟨2 ^ (32 - k), by rw [← hq, ← Nat.pow_add, show k + (32 - k) = 32 by omega]⟩
    exact Int.natCast_dvd_natCast.mpr h9
  have hq0 : (0 : Int) < q := by rw [← hq]; exact_mod_cast Nat.two_pow_pos k
  have h0 : 0 ≤ a % q := Int.emod_nonneg _ (by omega)
  rw [h1, gI_toNat h0]
  congr 1
  have h2 : ((a % 4294967296).toNat % q : Nat) = ((a % 4294967296) % q).toNat := by
    have h3 : 0 ≤ a % 4294967296 := Int.emod_nonneg _ (by decide)
    have h4 : (((a % 4294967296).toNat % q : Nat) : Int) = (a % 4294967296) % q := by
      push_cast
      rw [Int.toNat_of_nonneg h3]
    rw [← h4]
    exact (Int.toNat_natCast _).symm
  rw [h2, Int.emod_emod_of_dvd a hd]
section
variable {G : gG} {M : gM} {F : gK → State → Prop} {pc : Nat} {lv lv' : List (Option gV)} {st st' : List gV} {N : Option Nat} {h : gH} {c s : Nat} {pc0 nx k j : Nat} {z : Int}

theorem go_idiv {a b : Int} (hM : gOk M) (hi : gAt (mT M) pc = some (pc0, .idiv, nx, z, k, j)) (ha : 0 ≤ a ∧ a ≤ 2147483647) (hb9 : 0 < b ∧ b ≤ 2147483647) (kk : Go G M F nx lv (vI (a / b) :: st) N h c s) : Go G M F pc lv (vI b :: vI a :: st) N h c s := by
  intro κ H locs ls cells slots hC hH hl hr
  obtain ⟨p, e, R, s0, m, args, below, meth, cd⟩ := κ
  obtain ⟨hd, rfl, ho⟩ := gdec' (len := 1) hM hi rfl (by decide)
  obtain ⟨htr, hx, hb, hrt, hml, hown, hts, hlk, hnm, hfr, hlo, het, hE⟩ := id hC
  refine lv_idiv (x := Int32.ofInt a) (y := Int32.ofInt b) hx hb hd (fun h9 => ?_) ?_
  · rw [gI_0] at h9
    have := (gI_inj (by omega) (by omega)).mp h9
    omega
  · rw [gI_div ha.1 ha.2 hb9.1 hb9.2]
    exact kk _ H locs ls cells slots hC hH hl hr
theorem go_iand {a b : Int} {q : Nat} (w : Nat) (hM : gOk M) (hi : gAt (mT M) pc = some (pc0, .iand, nx, z, k, j)) (hw : (Int32.ofInt b).toBitVec.toNat = 2 ^ w - 1) (hq : 2 ^ w = q) (hk : w ≤ 31) (kk : Go G M F nx lv (vI (a % q) :: st) N h c s) : Go G M F pc lv (vI b :: vI a :: st) N h c s := by
  intro κ H locs ls cells slots hC hH hl hr
  obtain ⟨p, e, R, s0, m, args, below, meth, cd⟩ := κ
  obtain ⟨hd, rfl, ho⟩ := gdec' (len := 1) hM hi rfl (by decide)
  obtain ⟨htr, hx, hb, hrt, hml, hown, hts, hlk, hnm, hfr, hlo, het, hE⟩ := id hC
  refine lv_iand (x := Int32.ofInt a) (y := Int32.ofInt b) hx hb hd ?_
  rw [gI_and w hw hq hk]
  exact kk _ H locs ls cells slots hC hH hl hr
theorem go_ishl {a b : Int} (w : Nat) (hM : gOk M) (hi : gAt (mT M) pc = some (pc0, .ishl, nx, z, k, j)) (hw : ((Int32.ofInt b &&& 31).toBitVec.smod 32).toNat = w) (ha : 0 ≤ a) (hb9 : a * 2 ^ w < 4294967296) (kk : Go G M F nx lv (vI (a * 2 ^ w) :: st) N h c s) : Go G M F pc lv (vI b :: vI a :: st) N h c s := by
  intro κ H locs ls cells slots hC hH hl hr
  obtain ⟨p, e, R, s0, m, args, below, meth, cd⟩ := κ
  obtain ⟨hd, rfl, ho⟩ := gdec' (len := 1) hM hi rfl (by decide)
  obtain ⟨htr, hx, hb, hrt, hml, hown, hts, hlk, hnm, hfr, hlo, het, hE⟩ := id hC
  refine lv_ishl (x := Int32.ofInt a) (y := Int32.ofInt b) hx hb hd ?_
  have h1 : a = (a.toNat : Int) := (Int.toNat_of_nonneg ha).symm
  have h2 : Int32.ofInt a <<< (Int32.ofInt b &&& 31) = Int32.ofInt (a * 2 ^ w) := by
    have e9 : ((a.toNat * 2 ^ w : Nat) : Int) = a * 2 ^ w := by
      push_cast
      rw [Int.toNat_of_nonneg ha]
    have e8 : a.toNat * 2 ^ w < 2 ^ 32 := Int.ofNat_lt.mp (by rw [e9]; exact hb9)
    rw [← e9, gI_nat, gI_toNat ha, pk_shlN _ w hw e8]
  rw [h2]
  exact kk _ H locs ls cells slots hC hH hl hr
theorem go_iushr {a b : Int} (w : Nat) (hM : gOk M) (hi : gAt (mT M) pc = some (pc0, .iushr, nx, z, k, j)) (hw : (((Int32.ofInt b).toUInt32 &&& Int32.toUInt32 31).toBitVec % 32).toNat = w) (ha : 0 ≤ a) (ha2 : a < 4294967296) (kk : Go G M F nx lv (vI (a / 2 ^ w) :: st) N h c s) : Go G M F pc lv (vI b :: vI a :: st) N h c s := by
  intro κ H locs ls cells slots hC hH hl hr
  obtain ⟨p, e, R, s0, m, args, below, meth, cd⟩ := κ
  obtain ⟨hd, rfl, ho⟩ := gdec' (len := 1) hM hi rfl (by decide)
  obtain ⟨htr, hx, hb, hrt, hml, hown, hts, hlk, hnm, hfr, hlo, het, hE⟩ := id hC
  have h1 : a = (a.toNat : Int) := (Int.toNat_of_nonneg ha).symm
  have h2 : ((Int32.ofInt a).toUInt32 >>> ((Int32.ofInt b).toUInt32 &&& Int32.toUInt32 31)).toInt32 = Int32.ofInt (a / 2 ^ w) := by
    rw [h1, gI_nat, pk_ushrN (by omega) _ w hw, ← gI_nat]
    push_cast
    rfl
  exact lv_iushr (x := Int32.ofInt a) (y := Int32.ofInt b) hx hb hd h2 (kk _ H locs ls cells slots hC hH hl hr)
theorem go_ior {a b : Int} (w : Nat) (hM : gOk M) (hi : gAt (mT M) pc = some (pc0, .ior, nx, z, k, j)) (ha : 0 ≤ a) (ha2 : a < 2 ^ w) (hb9 : 0 ≤ b) (kk : Go G M F nx lv (vI (a + b * 2 ^ w) :: st) N h c s) : Go G M F pc lv (vI (b * 2 ^ w) :: vI a :: st) N h c s := by
  intro κ H locs ls cells slots hC hH hl hr
  obtain ⟨p, e, R, s0, m, args, below, meth, cd⟩ := κ
  obtain ⟨hd, rfl, ho⟩ := gdec' (len := 1) hM hi rfl (by decide)
  obtain ⟨htr, hx, hb, hrt, hml, hown, hts, hlk, hnm, hfr, hlo, het, hE⟩ := id hC
  refine lv_ior (x := Int32.ofInt a) (y := Int32.ofInt (b * 2 ^ w)) hx hb hd ?_
  have h1 : a = (a.toNat : Int) := (Int.toNat_of_nonneg ha).symm
  have h2 : b = (b.toNat : Int) := (Int.toNat_of_nonneg hb9).symm
  have h3 : Int32.ofInt a ||| Int32.ofInt (b * 2 ^ w) = Int32.ofInt (a + b * 2 ^ w) := by
    have h4 : a.toNat < 2 ^ w := by
      rw [h1] at ha2
      exact_mod_cast ha2
    have h5 : a + b * 2 ^ w = ((2 ^ w * b.toNat ||| a.toNat : Nat) : Int) := by
      rw [← Nat.two_pow_add_eq_or_of_lt h4]
      push_cast
      rw [Int.toNat_of_nonneg ha, Int.toNat_of_nonneg hb9, Int.mul_comm, Int.add_comm]
    have h6 : b * 2 ^ w = ((2 ^ w * b.toNat : Nat) : Int) := by
      push_cast
      rw [Int.toNat_of_nonneg hb9, Int.mul_comm]
    rw [h5, h6, h1, gI_nat, gI_nat, gI_nat]
    apply Int32.toBitVec_inj.mp
    rw [Int32.toBitVec_or]
    apply BitVec.eq_of_toNat_eq
    simp only [nI, Int32.toBitVec_ofNat', BitVec.toNat_or, BitVec.toNat_ofNat, Int.toNat_natCast]
    rw [Nat.or_comm, Nat.or_mod_two_pow]
  rw [h3]
  exact kk _ H locs ls cells slots hC hH hl hr
theorem go_drop (kk : Go G M F pc lv st none h c s) : Go G M F pc lv st N h c s := by
  intro κ H locs ls cells slots hC hH hl hr
  obtain ⟨p, e, R, s0, m, args, below, meth, cd⟩ := κ
  exact kk _ H locs ls cells slots hC ⟨hH.1, fun n e9 => (by cases e9), hH.2.2⟩ hl hr
theorem go_tswIn {dflt lo hi9 off : Int} {offs : Array Int} {a : Int} {tgt : Nat} (hM : gOk M) (hi : gAt (mT M) pc = some (pc0, .tableswitch dflt lo hi9 offs, nx, z, k, j)) (ha : -2147483648 ≤ a ∧ a ≤ 2147483647) (h1 : lo ≤ a) (h2 : a ≤ hi9) (ho9 : offs[(a - lo).toNat]? = some off) (ht : (pc : Int) + off = (tgt : Int)) (kk : Go G M F tgt lv st N h c s) : Go G M F pc lv (vI a :: st) N h c s := by
  intro κ H locs ls cells slots hC hH hl hr
  obtain ⟨p, e, R, s0, m, args, below, meth, cd⟩ := κ
  obtain ⟨-, hd, -, -, -⟩ := gdec hM hi
  obtain ⟨htr, hx, hb, hrt, hml, hown, hts, hlk, hnm, hfr, hlo, het, hE⟩ := id hC
  have e9 : (Int32.ofInt a).toInt = a := Int32.toInt_ofInt_of_le (by omega) (by omega)
  exact lv_tableIn (x := Int32.ofInt a) hx hb hd (by rw [e9]; omega) (by rw [e9]; omega) (by rw [e9]; exact ho9) ht (kk _ H locs ls cells slots hC hH hl hr)
theorem go_tswOut {dflt lo hi9 : Int} {offs : Array Int} {a : Int} {tgt : Nat} (hM : gOk M) (hi : gAt (mT M) pc = some (pc0, .tableswitch dflt lo hi9 offs, nx, z, k, j)) (ha : -2147483648 ≤ a ∧ a ≤ 2147483647) (h1 : a < lo ∨ hi9 < a) (ht : (pc : Int) + dflt = (tgt : Int)) (kk : Go G M F tgt lv st N h c s) : Go G M F pc lv (vI a :: st) N h c s := by
  intro κ H locs ls cells slots hC hH hl hr
  obtain ⟨p, e, R, s0, m, args, below, meth, cd⟩ := κ
  obtain ⟨-, hd, -, -, -⟩ := gdec hM hi
  obtain ⟨htr, hx, hb, hrt, hml, hown, hts, hlk, hnm, hfr, hlo, het, hE⟩ := id hC
  have e9 : (Int32.ofInt a).toInt = a := Int32.toInt_ofInt_of_le (by omega) (by omega)
  exact lv_tableOut (x := Int32.ofInt a) hx hb hd (by rw [e9]; exact h1) ht (kk _ H locs ls cells slots hC hH hl hr)
end
