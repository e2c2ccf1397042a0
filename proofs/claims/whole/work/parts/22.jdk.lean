/-! new arrays, members of the JDK -/
section
variable {G : gG} {M : gM} {F : gK → State → Prop} {pc : Nat} {lv lv' : List (Option gV)} {st st' : List gV} {N : Option Nat} {h : gH} {c s : Nat} {pc0 nx k j : Nat} {z : Int}

theorem gPush {p : Program} {e : Env} {R : Room} {s0 : State} {m : MethodId} {args : Array Value} {below : List Frame} {meth : Method} {cd : Code} {H H1 : Heap} {locs : List Loc} {n : Nat} {e9 : gE} (hH : gHp G (p, e, R, s0, m, args, below, meth, cd) (some n) h H locs) (hn : 0 < n) (he : va_at (gD G) gCl (gZ G + n, gzE G e9) H1) (z1 : H1.size = H.size + 1) (o1 : ∀ q, q < H.size → H1[q]? = H[q]?) : gHp G (p, e, R, s0, m, args, below, meth, cd) (some (n + 1)) (gU h n e9) H1 locs := by
  have hz : H.size = gZ G + n := hH.2.1 n rfl
  refine ⟨hH.1.push hn hz he o1, fun n9 e9 => ?_, ⟨Nat.le_trans hH.2.2.1 (by omega), fun x g1 g2 => (o1 x (Nat.lt_of_lt_of_le g1 hH.2.2.1)).trans (hH.2.2.2.1 x g1 g2), hH.2.2.2.2⟩⟩
  cases e9
  omega
theorem go_newI {t : ArrayType} {n : Nat} {a : Int} {ln : Nat} (hM : gOk M) (hi : gAt (mT M) pc = some (pc0, .newarray t, nx, z, 0, j)) (hn : 0 < n) (ha : a = ln) (ha2 : ln ≤ 100000000) (kk : Go G M F nx lv (vR n :: st) (some (n + 1)) (gU h n (.inl (0, ln, .inl (fun _ => 0)))) c s) : Go G M F pc lv (vI a :: st) (some n) h (c + 1) (s + ln) := by
  intro κ H locs ls cells slots hC hH hl hr
  obtain ⟨p, e, R, s0, m, args, below, meth, cd⟩ := κ
  obtain ⟨hd, rfl, ho⟩ := gdec' (len := 2) hM hi rfl (by decide)
  obtain ⟨htr, hx, hb, hrt, hml, hown, hts, hlk, hnm, hfr, hlo, het, hE⟩ := id hC
  subst ha
  have ho : newarray.typeOf t = .int ∧ gIn (Cond.arrayClass .int) = true := by simpa [gOkI, show gTy[0]? = some .int from rfl] using ho
  have ho := And.intro ho.1 (gIn_spec ho.2)
  have hr : cells + (c + 1) ≤ R.cells ∧ slots + (s + ln) ≤ R.slots := hr
  have hz : H.size = gZ G + n := hH.2.1 n rfl
  show W p (gl G) e R s0 m args below meth cd H locs cells slots (F (p, e, R, s0, m, args, below, meth, cd)) (F0 m pc ls (.int (Int32.ofInt ln) :: st.map (gz G)))
  refine va_newaK (n := Int32.ofInt ln) (N := ln) hx hb (atype := t) (by rw [ho.1]; exact hts _ ho.2) rfl hd rfl (fun h9 => ?_) (by rw [gI_cl (by omega) (by omega)]; simp) (by rw [ho.1]; show ln * 4 ≤ _; omega) (by omega) (by omega) rfl fun H1 cA e1 z1 o1 hAr hNm => ?_
  · rw [gI_0] at h9
    have := (gI_lt (by omega) (by omega)).mp h9
    omega
  · have hA0 : cA = gdA G 0 := by
      have h9 := (hE.2.1 0 .int rfl).2
      rw [ho.1] at hNm
      exact Option.some.inj (hNm.symm.trans h9)
    subst hA0
    have he : va_at (gD G) gCl (gZ G + n, gzE G (.inl (0, ln, .inl (fun _ => 0)))) H1 := by
      show H1[gZ G + n]? = some (vp_cell _ _)
      rw [← hz, e1, ho.1]
      rfl
    have h9 := kk _ H1 locs ls (cells + 1) (slots + ln) hC (gPush hH hn he z1 o1) hl ⟨by omega, by omega⟩
    have hh : gz G (vR n) = .ref H.size := by
      show Value.ref (ga G n) = _
      rw [ga_pos hn, hz]
    simp only [gWk, List.map_cons, hh] at h9
    exact h9
theorem go_newL {t : ArrayType} {n : Nat} {a : Int} {ln : Nat} (hM : gOk M) (hi : gAt (mT M) pc = some (pc0, .newarray t, nx, z, 1, j)) (hn : 0 < n) (ha : a = ln) (ha2 : ln ≤ 50000000) (kk : Go G M F nx lv (vR n :: st) (some (n + 1)) (gU h n (.inl (1, ln, .inr (.inl (fun _ => 0))))) c s) : Go G M F pc lv (vI a :: st) (some n) h (c + 1) (s + ln) := by
  intro κ H locs ls cells slots hC hH hl hr
  obtain ⟨p, e, R, s0, m, args, below, meth, cd⟩ := κ
  obtain ⟨hd, rfl, ho⟩ := gdec' (len := 2) hM hi rfl (by decide)
  obtain ⟨htr, hx, hb, hrt, hml, hown, hts, hlk, hnm, hfr, hlo, het, hE⟩ := id hC
  subst ha
  have ho : newarray.typeOf t = .long ∧ gIn (Cond.arrayClass .long) = true := by simpa [gOkI, show gTy[1]? = some .long from rfl] using ho
  have ho := And.intro ho.1 (gIn_spec ho.2)
  have hr : cells + (c + 1) ≤ R.cells ∧ slots + (s + ln) ≤ R.slots := hr
  have hz : H.size = gZ G + n := hH.2.1 n rfl
  show W p (gl G) e R s0 m args below meth cd H locs cells slots (F (p, e, R, s0, m, args, below, meth, cd)) (F0 m pc ls (.int (Int32.ofInt ln) :: st.map (gz G)))
  refine va_newaK (n := Int32.ofInt ln) (N := ln) hx hb (atype := t) (by rw [ho.1]; exact hts _ ho.2) rfl hd rfl (fun h9 => ?_) (by rw [gI_cl (by omega) (by omega)]; simp) (by rw [ho.1]; show ln * 8 ≤ _; omega) (by omega) (by omega) rfl fun H1 cA e1 z1 o1 hAr hNm => ?_
  · rw [gI_0] at h9
    have := (gI_lt (by omega) (by omega)).mp h9
    omega
  · have hA0 : cA = gdA G 1 := by
      have h9 := (hE.2.1 1 .long rfl).2
      rw [ho.1] at hNm
      exact Option.some.inj (hNm.symm.trans h9)
    subst hA0
    have he : va_at (gD G) gCl (gZ G + n, gzE G (.inl (1, ln, .inr (.inl (fun _ => 0))))) H1 := by
      show H1[gZ G + n]? = some (vp_cell _ _)
      rw [← hz, e1, ho.1]
      rfl
    have h9 := kk _ H1 locs ls (cells + 1) (slots + ln) hC (gPush hH hn he z1 o1) hl ⟨by omega, by omega⟩
    have hh : gz G (vR n) = .ref H.size := by
      show Value.ref (ga G n) = _
      rw [ga_pos hn, hz]
    simp only [gWk, List.map_cons, hh] at h9
    exact h9
theorem go_newA {idx : Nat} {n : Nat} {a : Int} {ln : Nat} {C : String} (hM : gOk M) (hi : gAt (mT M) pc = some (pc0, .anewarray idx, nx, z, k, j)) (hty : gTy[k]? = some (.object C)) (hn : 0 < n) (ha : a = ln) (ha2 : ln ≤ 100000000) (kk : Go G M F nx lv (vR n :: st) (some (n + 1)) (gU h n (.inl (k, ln, .inr (.inr (fun _ => none))))) c s) : Go G M F pc lv (vI a :: st) (some n) h (c + 1) (s + ln) := by
  intro κ H locs ls cells slots hC hH hl hr
  obtain ⟨p, e, R, s0, m, args, below, meth, cd⟩ := κ
  obtain ⟨hd, rfl, ho⟩ := gdec' (len := 3) hM hi rfl (by decide)
  obtain ⟨htr, hx, hb, hrt, hml, hown, hts, hlk, hnm, hfr, hlo, het, hE⟩ := id hC
  subst ha
  have ho : gIn (Cond.classLink (mN M).cls idx C) = true ∧ C ∈ gAo := by simpa [gOkI, hty] using ho
  have ho := And.intro (gIn_spec ho.1) ho.2
  have hr : cells + (c + 1) ≤ R.cells ∧ slots + (s + ln) ≤ R.slots := hr
  have hz : H.size = gZ G + n := hH.2.1 n rfl
  have hcl : (Int32.ofInt ln).toNatClampNeg = ln := by rw [gI_cl (by omega) (by omega)]; simp
  show W p (gl G) e R s0 m args below meth cd H locs cells slots (F (p, e, R, s0, m, args, below, meth, cd)) (F0 m pc ls (.int (Int32.ofInt ln) :: st.map (gz G)))
  refine W.anew hx hb hown (hts _ ho.1) (va_AO.use (hE.2.2.2.2.2.2.2.2.1 C ho.2)) rfl hd rfl (fun h9 => ?_) (by rw [hcl]; omega) (by omega) (by rw [hcl]; omega) fun cA kA comp f1 f2 f3 f4 => ?_
  · rw [gI_0] at h9
    have := (gI_lt (by omega) (by omega)).mp h9
    omega
  · rw [hcl]
    have hA0 : cA = gdA G k := by
      obtain ⟨-, -, -, -, -, h9⟩ := (hE.2.1 k _ hty).2
      exact Option.some.inj (f1.symm.trans h9)
    subst hA0
    generalize hH1 : H.push ({ cls := gdA G k, slots := Array.replicate ln .null, vm := .none } : Cell) = H1
    have z1 : H1.size = H.size + 1 := by rw [← hH1, Array.size_push]
    have e1 : H1[H.size]? = some (arrV (gdA G k) ln (fun _ => .null)) := by rw [← hH1, Array.getElem?_push_size, ← arrV_new]
    have o1 : ∀ q : Nat, q < H.size → H1[q]? = H[q]? := fun q hq => by rw [← hH1, Array.getElem?_push, if_neg (Nat.ne_of_lt hq)]
    have he : va_at (gD G) gCl (gZ G + n, gzE G (.inl (k, ln, .inr (.inr (fun _ => none))))) H1 := by
      show H1[gZ G + n]? = some (vp_cell _ _)
      rw [← hz, e1]
      rfl
    have h9 := kk _ H1 locs ls (cells + 1) (slots + ln) hC (gPush hH hn he z1 o1) hl ⟨by omega, by omega⟩
    have hh : gz G (vR n) = .ref H.size := by
      show Value.ref (ga G n) = _
      rw [ga_pos hn, hz]
    simp only [gWk, List.map_cons, hh] at h9
    exact h9
theorem go_obj {idx a : Nat} (hM : gOk M) (hi : gAt (mT M) pc = some (pc0, .invokespecial idx, nx, 1, k, j)) (hw : Nat.ble (st.map gCat).sum 8 = true) (kk : Go G M F nx lv st N h c s) : Go G M F pc lv (vR a :: st) N h c s := by
  intro κ H locs ls cells slots hC hH hl hr
  obtain ⟨p, e, R, s0, m, args, below, meth, cd⟩ := κ
  obtain ⟨hd, rfl, ho⟩ := gdec' (len := 3) hM hi rfl (by decide)
  obtain ⟨htr, hx, hb, hrt, hml, hown, hts, hlk, hnm, hfr, hlo, het, hE⟩ := id hC
  have ho : (gOkW (gObj (mN M).cls idx) = true ∧ 1 ≤ mF M) ∧ 20 ≤ mO M := by simpa [gOkI] using ho
  have hw2 : ((st.map (gz G)).map fun v => v.category).sum ≤ 8 := by rw [gz_cats]; exact Nat.le_of_ble_eq_true hw
  refine W.objInit hx hb hown (idx := idx) (hts _ (gOkW_spec ho.1.1 (by simp [gObj]))) (hts _ (gOkW_spec ho.1.1 (by simp [gObj]))) (hts _ (gOkW_spec ho.1.1 (by simp [gObj]))) rfl (by rw [hml]; exact hl.1) rfl hd (Nat.le_trans ho.1.2 hfr) ?_ ?_
  · show 2 * 0 + ((st.map (gz G)).map fun v => v.category).sum + 12 ≤ R.locals
    omega
  · exact kk _ H locs ls cells slots hC hH hl hr
theorem go_max {idx : Nat} {a b : Int} (hM : gOk M) (hi : gAt (mT M) pc = some (pc0, .invokestatic idx, nx, 1, k, j)) (ha : -2147483648 ≤ a ∧ a ≤ 2147483647) (hb9 : -2147483648 ≤ b ∧ b ≤ 2147483647) (hw : Nat.ble (st.map gCat).sum 8 = true) (kk : Go G M F nx lv (vI (if a < b then b else a) :: st) N h c s) : Go G M F pc lv (vI b :: vI a :: st) N h c s := by
  intro κ H locs ls cells slots hC hH hl hr
  obtain ⟨p, e, R, s0, m, args, below, meth, cd⟩ := κ
  obtain ⟨hd, rfl, ho⟩ := gdec' (len := 3) hM hi rfl (by decide)
  obtain ⟨htr, hx, hb, hrt, hml, hown, hts, hlk, hnm, hfr, hlo, het, hE⟩ := id hC
  have ho : (gOkW (gMx (mN M).cls idx) = true ∧ 1 ≤ mF M) ∧ 21 ≤ mO M := by simpa [gOkI] using ho
  have hw2 : ((st.map (gz G)).map fun v => v.category).sum ≤ 8 := by rw [gz_cats]; exact Nat.le_of_ble_eq_true hw
  have hr2 : cells + c ≤ R.cells ∧ slots + s ≤ R.slots := hr
  refine va_mmax (x := Int32.ofInt a) (y := Int32.ofInt b) hx hb (by rw [hml]; exact hl.1.symm) hown (index := idx) (hts _ (gOkW_spec ho.1.1 (by simp [gMx]))) (hts _ (gOkW_spec ho.1.1 (by simp [gMx]))) (hts _ (gOkW_spec ho.1.1 (by simp [gMx]))) (hts _ (gOkW_spec ho.1.1 (by simp [gMx]))) (Nat.le_trans ho.1.2 hfr) (by omega) (by omega) (by omega) hd ?_
  have e9 : (if Int32.ofInt a < Int32.ofInt b then Int32.ofInt b else Int32.ofInt a) = Int32.ofInt (if a < b then b else a) := by
    by_cases h9 : a < b
    · rw [if_pos h9, if_pos ((gI_lt ha hb9).mpr h9)]
    · rw [if_neg h9, if_neg (fun q => h9 ((gI_lt ha hb9).mp q))]
  rw [e9]
  exact kk _ H locs ls cells slots hC hH hl hr
theorem go_min {idx : Nat} {a b : Int} (hM : gOk M) (hi : gAt (mT M) pc = some (pc0, .invokestatic idx, nx, 2, k, j)) (ha : -2147483648 ≤ a ∧ a ≤ 2147483647) (hb9 : -2147483648 ≤ b ∧ b ≤ 2147483647) (hw : Nat.ble (st.map gCat).sum 8 = true) (kk : Go G M F nx lv (vI (if b < a then b else a) :: st) N h c s) : Go G M F pc lv (vI b :: vI a :: st) N h c s := by
  intro κ H locs ls cells slots hC hH hl hr
  obtain ⟨p, e, R, s0, m, args, below, meth, cd⟩ := κ
  obtain ⟨hd, rfl, ho⟩ := gdec' (len := 3) hM hi rfl (by decide)
  obtain ⟨htr, hx, hb, hrt, hml, hown, hts, hlk, hnm, hfr, hlo, het, hE⟩ := id hC
  have ho : (gOkW (gMn (mN M).cls idx) = true ∧ 1 ≤ mF M) ∧ 21 ≤ mO M := by simpa [gOkI] using ho
  have hw2 : ((st.map (gz G)).map fun v => v.category).sum ≤ 8 := by rw [gz_cats]; exact Nat.le_of_ble_eq_true hw
  have hr2 : cells + c ≤ R.cells ∧ slots + s ≤ R.slots := hr
  refine va_mmin (x := Int32.ofInt a) (y := Int32.ofInt b) hx hb (by rw [hml]; exact hl.1.symm) hown (index := idx) (hts _ (gOkW_spec ho.1.1 (by simp [gMn]))) (hts _ (gOkW_spec ho.1.1 (by simp [gMn]))) (hts _ (gOkW_spec ho.1.1 (by simp [gMn]))) (hts _ (gOkW_spec ho.1.1 (by simp [gMn]))) (Nat.le_trans ho.1.2 hfr) (by omega) (by omega) (by omega) hd ?_
  have e9 : (if Int32.ofInt b < Int32.ofInt a then Int32.ofInt b else Int32.ofInt a) = Int32.ofInt (if b < a then b else a) := by
    by_cases h9 : b < a
    · rw [if_pos h9, if_pos ((gI_lt hb9 ha).mpr h9)]
    · rw [if_neg h9, if_neg (fun q => h9 ((gI_lt hb9 ha).mp q))]
  rw [e9]
  exact kk _ H locs ls cells slots hC hH hl hr
/-- what is copied -/
def gCp (f g : Nat → Int) (sp dp n : Nat) : Nat → Int := fun k => if dp ≤ k ∧ k < dp + n then f (sp + (k - dp)) else g k
end
