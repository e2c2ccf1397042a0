/-! new cells, stores of references, members of the JDK -/
section
variable {G : gG} {M : gM} {F : gK → State → Prop} {pc : Nat} {lv lv' : List (Option gV)} {st st' : List gV} {N : Option Nat} {h : gH} {c s : Nat} {pc0 nx k j : Nat} {z : Int}

theorem go_aast {a n ty v ci : Nat} {C : String} {T : u_T} {nn : Nat} {fs : List gV} {i : Int} {f : Nat → Option Nat} (hM : gOk M) (hi : gAt (mT M) pc = some (pc0, .aastore, nx, z, k, j)) (hh : h a = some (.inl (ty, n, .inr (.inr f)))) (hty : gTy[ty]? = some (.object C)) (hv : h v = some (.inr (ci, fs))) (hci : gCl[ci]? = some (C, T, nn)) (h0 : 0 ≤ i) (h1 : i < n) (hn : n ≤ 2147483647) (kk : Go G M F nx lv st N (gU h a (.inl (ty, n, .inr (.inr (gF f i.toNat (some v)))))) c s) : Go G M F pc lv (vR v :: vI i :: vR a :: st) N h c s := by
  intro κ H locs ls cells slots hC hH hl hr
  obtain ⟨p, e, R, s0, m, args, below, meth, cd⟩ := κ
  obtain ⟨hd, rfl, ho⟩ := gdec' (len := 1) hM hi rfl (by decide)
  obtain ⟨-, hx, hb, hrt, hml, hown, hts, hlk, hnm, hfr, hlo, het, hE⟩ := id hC
  obtain ⟨ea, hat⟩ := hH.1.at hh
  obtain ⟨ev, hav⟩ := hH.1.at hv
  have hpos := (hH.1 a _ hh).1
  show W p (gl G) e R s0 m args below meth cd H locs cells slots (F (p, e, R, s0, m, args, below, meth, cd)) (F0 m pc ls (.ref (ga G v) :: .int (Int32.ofInt i) :: .ref (ga G a) :: st.map (gz G)))
  rw [ea, ev]
  obtain ⟨r', hr', cellV, g1, g2, g3, -⟩ := hav
  have hcls := (hE.1.1 ci _ hci).2
  obtain ⟨kA, comp, k1, k2, k3, -⟩ := (hE.2.1 ty _ hty).2
  have hcomp : comp = (gD G).1 ci := Option.some.inj (k3.symm.trans hcls.1)
  subst hcomp
  obtain ⟨kC, hkC, -⟩ := hcls.2
  have hin := gI_in h0 h1 hn
  refine W.aast hx hb hat (fun q h9 => by cases h9) (fun h9 => by cases h9) k1 k2 rfl hkC ⟨fun q => hin (Or.inl q), by show _ < (arrV _ _ _).slots.size; rw [arrV_size]; exact Nat.not_le.mp fun q => hin (Or.inr q)⟩ g1 (fun q h9 => by rw [g3] at h9; cases h9) (by rw [g2]; exact hkC) (by rw [g2]; exact va_assign hcls) rfl rfl hd fun H1 e1 e2 e3 => ?_
  refine kk _ H1 _ ls cells slots hC ⟨hH.1.upd hh ?_ e3, fun n9 h9 => by rw [e2]; exact hH.2.1 n9 h9, gS1 hH.2.2 e2 e3 (gA_in hpos) _⟩ hl hr
  show H1[gZ G + a]? = some (vp_cell _ _)
  rw [e1]
  show some ((arrV (gdA G ty) n (fun j => va_rf ((f j).map (ga G)))).setSlot _ _) = some (arrV (gdA G ty) n (fun j => va_rf ((gF f i.toNat (some v) j).map (ga G))))
  rw [arrV_store, gI_cl h0 (by omega)]
  congr 2
  funext q
  by_cases hq : q = i.toNat
  · subst hq
    simp [updV, gF, va_rf, ev]
  · simp [updV, gF, hq]
theorem gOkN_spec {own : String} {idx k : Nat} (h : gOkN own idx k = true) : ∃ (C : String) (T : u_T) (n : Nat), gCl[k]? = some (C, T, n) ∧ Cond.classLink own idx C ∈ gT ∧ Cond.instantiable C n ∈ gT ∧ Cond.initialized C ∈ gT := by
  unfold gOkN at h
  cases hc : gCl[k]? with
  | none => rw [hc] at h; cases h
  | some q =>
    rw [hc] at h
    obtain ⟨C, T, n⟩ := q
    simp only [Bool.and_eq_true, decide_eq_true_eq] at h
    exact ⟨C, T, n, rfl, gIn_spec h.1.1, gIn_spec h.1.2, gIn_spec h.2⟩
/-- the values with which a field begins -/
def gDf (ty : FieldType) : gV := match ty with
  | .int => .inl 0
  | .boolean => .inl 0
  | .long => .inr (.inl 0)
  | _ => .inr (.inr none)
def gDfs (k n : Nat) : List gV := (List.range n).map (fun i => gDf (gFt k i))
theorem gDf_spec {G : gG} {ty : FieldType} (hk : ty = .int ∨ ty = .boolean ∨ ty = .long ∨ (∃ C, ty = .object C) ∨ ∃ t, ty = .array t) : defaultValue ty = gz G (gDf ty) := by
  rcases hk with rfl | rfl | rfl | ⟨C, rfl⟩ | ⟨t, rfl⟩ <;> rfl
set_option maxHeartbeats 1000000 in
theorem go_new {idx nf : Nat} {n : Nat} {C : String} {T : u_T} (hM : gOk M) (hi : gAt (mT M) pc = some (pc0, .new idx, nx, z, k, 0)) (hn : 0 < n) (hk : gCl[k]? = some (C, T, nf)) (kk : Go G M F nx lv (vR n :: st) (some (n + 1)) (gU h n (.inr (k, gDfs k nf))) c s) : Go G M F pc lv st (some n) h (c + 1) (s + nf) := by
  intro κ H locs ls cells slots hC hH hl hr
  obtain ⟨p, e, R, s0, m, args, below, meth, cd⟩ := κ
  obtain ⟨hd, rfl, ho⟩ := gdec' (len := 3) hM hi rfl (by decide)
  obtain ⟨-, hx, hb, hrt, hml, hown, hts, hlk, hnm, hfr, hlo, het, hE⟩ := id hC
  have ho : gOkN (mN M).cls idx k = true := by simpa [gOkI] using ho
  obtain ⟨C', T', nf', hc, w1, w2, w3⟩ := gOkN_spec ho
  cases hk.symm.trans hc
  have hKn := hE.1.1 k _ hc
  have hz : H.size = gZ G + n := hH.2.1 n rfl
  have hr : cells + (c + 1) ≤ R.cells ∧ slots + (s + nf) ≤ R.slots := hr
  refine W.newcK hx hb hown (hts _ w1) (hts _ w2) (hts _ w3) rfl hd (by omega) (by omega) hKn.2.1 hz fun H1 kC hkC e1 z1 o1 => ?_
  have hh : gz G (vR n) = .ref (gZ G + n) := by
    show Value.ref (ga G n) = _
    rw [ga_pos hn]
  have hR1 : gRp G (gU h n (.inr (k, gDfs k nf))) H1 := by
    refine hH.1.push hn hz ?_ (fun q hq => o1 q (by rw [← hz]; exact hq))
    refine ⟨_, hc, (u_born (gFt k) hts (gUws k _ hc) hKn hkC e1 (gFt_ok k _ hc)).to (fun i hi9 => ?_)⟩
    rw [gDf_spec (G := G) (gFt_kind k i)]
    simp [gzE, vp_V, gDfs, hi9]
  have h9 := kk _ H1 locs ls (cells + 1) (slots + nf) hC ⟨hR1, fun n9 e9 => by cases e9; omega, ⟨Nat.le_trans hH.2.2.1 (by omega), fun x g1 g2 => (o1 x (by have := hH.2.2.1; omega)).trans (hH.2.2.2.1 x g1 g2), hH.2.2.2.2⟩⟩ hl ⟨by omega, by omega⟩
  simp only [gWk, List.map_cons, hh] at h9
  exact h9
end
