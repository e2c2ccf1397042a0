/-! rules for arrays of booleans -/
section
variable {G : gG} {M : gM} {F : gK → State → Prop} {pc : Nat} {lv lv' : List (Option gV)} {st st' : List gV} {N : Option Nat} {h : gH} {c s : Nat} {pc0 nx k j : Nat} {z : Int}
theorem go_zast {a n : Nat} {i x : Int} {f : Nat → Int} (hM : gOk M) (hi : gAt (mT M) pc = some (pc0, .bastore, nx, z, k, j)) (hh : h a = some (.inl (4, n, .inl f))) (h0 : 0 ≤ i) (h1 : i < n) (hn : n ≤ 2147483647) (hx9 : x = 0 ∨ x = 1) (kk : Go G M F nx lv st N (gU h a (.inl (4, n, .inl (gF f i.toNat x)))) c s) : Go G M F pc lv (vI x :: vI i :: vR a :: st) N h c s := by
  intro κ H locs ls cells slots hC hH hl hr
  obtain ⟨p, e, R, s0, m, args, below, meth, cd⟩ := κ
  obtain ⟨hd, rfl, ho⟩ := gdec' (len := 1) hM hi rfl (by decide)
  obtain ⟨-, hx, hb, hrt, hml, hown, hts, hlk, hnm, hfr, hlo, het, hE⟩ := id hC
  obtain ⟨ea, hat⟩ := hH.1.at hh
  have hpos := (hH.1 a _ hh).1
  show W p (gl G) e R s0 m args below meth cd H locs cells slots (F (p, e, R, s0, m, args, below, meth, cd)) (F0 m pc ls (.int (Int32.ofInt x) :: .int (Int32.ofInt i) :: .ref (ga G a) :: st.map (gz G)))
  rw [ea]
  refine W.zast hx hb hat ((hE.2.1 4 .boolean rfl).1 n (fun j => .int (Int32.ofInt (f j)))) (fun q => by cases q) (by show ¬ (_ < 0 ∨ (arrV _ _ _).slots.size ≤ _); rw [arrV_size]; exact gI_in h0 h1 hn) rfl rfl hd fun H1 e1 e2 e3 => ?_
  refine kk _ H1 _ ls cells slots hC ⟨hH.1.upd hh ?_ e3, fun n9 h9 => by rw [e2]; exact hH.2.1 n9 h9, gS1 hH.2.2 e2 e3 (gA_in hpos) _⟩ hl hr
  show H1[gZ G + a]? = some (vp_cell _ _)
  rw [e1]
  show some ((arrV (gdA G 4) n (fun j => .int (Int32.ofInt (f j)))).setSlot _ _) = some (arrV (gdA G 4) n (fun j => .int (Int32.ofInt (gF f i.toNat x j))))
  rw [arrV_store, gI_cl h0 (by omega)]
  congr 2
  funext q
  by_cases hq : q = i.toNat
  · subst hq
    rcases hx9 with rfl | rfl <;> simp [updV, gF] <;> rfl
  · simp [updV, gF, hq]
theorem go_newZ {t : ArrayType} {n : Nat} {a : Int} {ln : Nat} (hM : gOk M) (hi : gAt (mT M) pc = some (pc0, .newarray t, nx, z, 4, j)) (hn : 0 < n) (ha : a = ln) (ha2 : ln ≤ 100000000) (kk : Go G M F nx lv (vR n :: st) (some (n + 1)) (gU h n (.inl (4, ln, .inl (fun _ => 0)))) c s) : Go G M F pc lv (vI a :: st) (some n) h (c + 1) (s + ln) := by
  intro κ H locs ls cells slots hC hH hl hr
  obtain ⟨p, e, R, s0, m, args, below, meth, cd⟩ := κ
  obtain ⟨hd, rfl, ho⟩ := gdec' (len := 2) hM hi rfl (by decide)
  obtain ⟨htr, hx, hb, hrt, hml, hown, hts, hlk, hnm, hfr, hlo, het, hE⟩ := id hC
  subst ha
  have ho : newarray.typeOf t = .boolean ∧ gIn (Cond.arrayClass .boolean) = true := by simpa [gOkI, show gTy[4]? = some .boolean from rfl] using ho
  have ho := And.intro ho.1 (gIn_spec ho.2)
  have hr : cells + (c + 1) ≤ R.cells ∧ slots + (s + ln) ≤ R.slots := hr
  have hz : H.size = gZ G + n := hH.2.1 n rfl
  show W p (gl G) e R s0 m args below meth cd H locs cells slots (F (p, e, R, s0, m, args, below, meth, cd)) (F0 m pc ls (.int (Int32.ofInt ln) :: st.map (gz G)))
  refine va_newaK (n := Int32.ofInt ln) (N := ln) hx hb (atype := t) (by rw [ho.1]; exact hts _ ho.2) rfl hd rfl (fun h9 => ?_) (by rw [gI_cl (by omega) (by omega)]; simp) (by rw [ho.1]; show ln * 1 ≤ _; omega) (by omega) (by omega) rfl fun H1 cA e1 z1 o1 hAr hNm => ?_
  · rw [gI_0] at h9
    have := (gI_lt (by omega) (by omega)).mp h9
    omega
  · have hA0 : cA = gdA G 4 := by
      have h9 := (hE.2.1 4 .boolean rfl).2
      rw [ho.1] at hNm
      exact Option.some.inj (hNm.symm.trans h9)
    subst hA0
    have he : va_at (gD G) gCl (gZ G + n, gzE G (.inl (4, ln, .inl (fun _ => 0)))) H1 := by
      show H1[gZ G + n]? = some (vp_cell _ _)
      rw [← hz, e1, ho.1]
      rfl
    have h9 := kk _ H1 locs ls (cells + 1) (slots + ln) hC (gPush hH hn he z1 o1) hl ⟨by omega, by omega⟩
    have hh : gz G (vR n) = .ref H.size := by
      show Value.ref (ga G n) = _
      rw [ga_pos hn, hz]
    simp only [gWk, List.map_cons, hh] at h9
    exact h9
set_option maxHeartbeats 1000000 in
theorem go_copyZ {idx a0 a n0 n1 : Nat} {f g : Nat → Int} {sp dp n : Int} (hM : gOk M) (hi : gAt (mT M) pc = some (pc0, .invokestatic idx, nx, 3, k, j)) (hh0 : h a0 = some (.inl (4, n0, .inl f))) (hh : h a = some (.inl (4, n1, .inl g))) (h1 : 0 ≤ sp) (h2 : 0 ≤ dp) (h3 : 0 ≤ n) (h4 : sp + n ≤ n0) (h5 : dp + n ≤ n1) (h6 : n0 ≤ 100000000) (h7 : n1 ≤ 100000000) (hw : Nat.ble (st.map gCat).sum 8 = true) (h01 : ∀ i, i < n.toNat → f (sp.toNat + i) = 0 ∨ f (sp.toNat + i) = 1)
    (kk : Go G M F nx lv st none (gU h a (.inl (4, n1, .inl (gCp f g sp.toNat dp.toNat n.toNat)))) c s) : Go G M F pc lv (vI n :: vI dp :: vR a :: vI sp :: vR a0 :: st) N h c s := by
  intro κ H locs ls cells slots hC hH hl hr
  obtain ⟨p, e, R, s0, m, args, below, meth, cd⟩ := κ
  obtain ⟨hd, rfl, ho⟩ := gdec' (len := 3) hM hi rfl (by decide)
  obtain ⟨htr, hx, hb, hrt, hml, hown, hts, hlk, hnm, hfr, hlo, het, hE⟩ := id hC
  have ho : (gOkW (gCpy (mN M).cls idx) = true ∧ 1 ≤ mF M) ∧ 8 + (nativeFrameWords "java/lang/System" "arraycopy" 5 + 11) ≤ mO M := by simpa [gOkI] using ho
  have hw2 : ((st.map (gz G)).map fun v => v.category).sum ≤ 8 := by rw [gz_cats]; exact Nat.le_of_ble_eq_true hw
  obtain ⟨ea0, hat0⟩ := hH.1.at hh0
  obtain ⟨ea, hat⟩ := hH.1.at hh
  have hB : ∀ i e, h i = some e → i < H.size := fun i e h9 => by
    have := (hH.1 i e h9).2.lt
    have h8 : gZ G + i < H.size := this
    omega
  obtain ⟨q0, hq0⟩ := gWl_at (G := G) (hB _ _ hh0) hh0
  obtain ⟨q1, hq1⟩ := gWl_at (G := G) (hB _ _ hh) hh
  have hP : va_P (gD G) gCl (gWl G h H.size) H := by
    intro i q hq
    obtain ⟨i9, e9, -, h9, rfl⟩ := gWl_mem.mp (List.mem_of_getElem? hq)
    exact (hH.1 i9 e9 h9).2
  have hD : va_D (gA G) (gWl G h H.size) := by
    refine ⟨gWl_inj, fun i q hq => ?_⟩
    obtain ⟨i9, e9, -, h9, rfl⟩ := gWl_mem.mp (List.mem_of_getElem? hq)
    exact gA_in (hH.1 i9 e9 h9).1
  have n2 : ∀ x : Int, 0 ≤ x → x ≤ 2147483647 → ¬ Int32.ofInt x < 0 := fun x g1 g2 g3 => by
    rw [gI_0] at g3
    have := (gI_lt (by omega) (by omega)).mp g3
    omega
  have c1 := gI_cl h1 (by omega)
  have c2 := gI_cl h2 (by omega)
  have c3 := gI_cl h3 (by omega)
  show W p (gl G) e R s0 m args below meth cd H locs cells slots (F (p, e, R, s0, m, args, below, meth, cd)) (F0 m pc ls (.int (Int32.ofInt n) :: .int (Int32.ofInt dp) :: .ref (ga G a) :: .int (Int32.ofInt sp) :: .ref (ga G a0) :: st.map (gz G)))
  rw [ea, ea0]
  refine va_copyi (f := fun i => Int32.ofInt (f i)) (g := fun i => Int32.ofInt (g i)) (ty := .boolean) (tys := [(gdA G 4, .boolean)]) hx hb (by rw [hml]; exact hl.1.symm) hown (index := idx) (hts _ (gOkW_spec ho.1.1 (by simp [gCpy]))) (hts _ (gOkW_spec ho.1.1 (by simp [gCpy]))) (hts _ (gOkW_spec ho.1.1 (by simp [gCpy]))) (hts _ (gOkW_spec ho.1.1 (by simp [gCpy]))) (gK1 hE (k := 4) rfl) hP hD hH.2.2 q0 q1 0 0 hq0 hq1 rfl rfl rfl (n2 _ h1 (by omega)) (n2 _ h2 (by omega)) (n2 _ h3 (by omega)) (by rw [c1, c3]; omega) (by rw [c2, c3]; omega) (fun i hi9 => by rw [c3] at hi9; rw [c1]; rcases h01 i hi9 with h9 | h9 <;> rw [h9] <;> rfl) (Nat.le_trans ho.1.2 hfr) (by omega) hd (fun H1 locs1 hP1 hD1 hS1 => ?_)
  refine kk _ H1 locs1 ls cells slots hC ⟨?_, fun n9 e9 => (by cases e9), hS1⟩ hl hr
  intro i e9 hi9
  unfold gU at hi9
  by_cases hia : i = a
  · subst hia
    simp at hi9
    subst hi9
    refine ⟨(hH.1 i _ hh).1, ?_⟩
    have h9 := hP1 q1 _ (by rw [List.getElem?_set_self (List.getElem?_eq_some_iff.mp hq1).1])
    have e8 : gzE G (.inl (4, n1, .inl (gCp f g sp.toNat dp.toNat n.toNat))) = .inl (gdA G 4, n1, .inl (va_cpy (fun i => Int32.ofInt (f i)) (fun i => Int32.ofInt (g i)) (Int32.ofInt sp).toNatClampNeg (Int32.ofInt dp).toNatClampNeg (Int32.ofInt n).toNatClampNeg)) := by
      rw [c1, c2, c3]
      simp only [gzE, gzC]
      congr 3
      congr 1
      funext x
      simp only [gCp, va_cpy]
      split <;> rfl
    rw [e8]
    exact h9
  · rw [if_neg hia] at hi9
    obtain ⟨qi, hqi⟩ := gWl_at (G := G) (hB _ _ hi9) hi9
    have hne : qi ≠ q1 := by
      intro h9
      subst h9
      have := hqi.symm.trans hq1
      simp at this
      omega
    exact ⟨(hH.1 i e9 hi9).1, hP1 qi _ (by rw [List.getElem?_set_ne (Ne.symm hne)]; exact hqi)⟩
end
