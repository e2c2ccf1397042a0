/-! handlers; calls of nest mates and of methods with handlers -/
def gHe (q : Nat × Nat × Nat × Nat) : ExceptionTableEntry := ⟨q.1, q.2.1, q.2.2.1, q.2.2.2⟩
def gOkH (own E : String) (pc : Nat) : List (Nat × Nat × Nat × Nat) → List String → Nat → Bool
  | x :: _, nm :: _, 0 => covers (gHe x) pc && decide (x.2.2.2 ≠ 0) && gIn (Cond.classLink own x.2.2.2 nm) && decide ((E, nm) ∈ gCa)
  | x :: t, nm :: ns, i + 1 => (!covers (gHe x) pc || (decide (x.2.2.2 ≠ 0) && gIn (Cond.classLink own x.2.2.2 nm) && decide ((E, nm) ∈ gNc))) && gOkH own E pc t ns i
  | _, _, _ => false
theorem gOkH_spec {own E : String} {pc : Nat} : ∀ (hh : List (Nat × Nat × Nat × Nat)) (ns : List String) (i : Nat), gOkH own E pc hh ns i = true → ∃ (pre : List (Nat × Nat × Nat × Nat)) (x : Nat × Nat × Nat × Nat) (suf : List (Nat × Nat × Nat × Nat)) (nm : String), hh = pre ++ x :: suf ∧ hh[i]? = some x ∧ covers (gHe x) pc = true ∧ x.2.2.2 ≠ 0 ∧ Cond.classLink own x.2.2.2 nm ∈ gT ∧ (E, nm) ∈ gCa ∧ ∀ y ∈ pre, covers (gHe y) pc = false ∨ (y.2.2.2 ≠ 0 ∧ ∃ nm : String, Cond.classLink own y.2.2.2 nm ∈ gT ∧ (E, nm) ∈ gNc) := by
  intro hh
  induction hh with
  | nil => intro ns i h; simp [gOkH] at h
  | cons x t ih =>
    intro ns i h
    cases ns with
    | nil => simp [gOkH] at h
    | cons nm ns =>
      cases i with
      | zero =>
        simp only [gOkH, Bool.and_eq_true, decide_eq_true_eq] at h
        exact ⟨[], x, t, nm, rfl, rfl, by simpa [covers] using h.1.1.1, h.1.1.2, gIn_spec h.1.2, h.2, fun y hy => by cases hy⟩
      | succ i =>
        simp only [gOkH, Bool.and_eq_true, Bool.or_eq_true, Bool.not_eq_true', decide_eq_true_eq] at h
        obtain ⟨pre, x9, suf, nm9, e1, e2, e3, e4, e5, e6, e7⟩ := ih ns i h.2
        refine ⟨x :: pre, x9, suf, nm9, by rw [e1]; rfl, by simpa using e2, e3, e4, e5, e6, fun y hy => ?_⟩
        rcases List.mem_cons.mp hy with rfl | hy
        · rcases h.1 with h1 | h1
          · exact Or.inl h1
          · exact Or.inr ⟨h1.1.1, nm, gIn_spec h1.1.2, h1.2⟩
        · exact e7 y hy
section
variable {G : gG} {M : gM} {F : gK → State → Prop} {pc : Nat} {lv lv' : List (Option gV)} {st st' : List gV} {N : Option Nat} {h : gH} {c s : Nat} {pc0 nx k j : Nat} {z : Int}
variable {M' : gM} {Q : Option gV → Option Nat → gH → Prop} {X : String → gH → Prop} {mc ms : Nat}

set_option maxHeartbeats 1000000 in
theorem gox_catch {E : String} {ns : List String} {n : Fin 4} {x : Nat × Nat × Nat × Nat} (i : Nat) (hM : gOk M) (hk : gOkH (mN M).cls E pc (mH M) ns i = true) (hx9 : (mH M)[i]? = some x) (hi : gAt (mT M) x.2.2.1 = some (pc0, .astore_n n, nx, z, k, j)) (hs : gSet lv k none = some lv') (kk : Go G M F nx lv' [] none h c s) : GoX G M F pc lv h E c s := by
  intro p e R s0 m args below meth cd H locs ls cells slots rest q ce hC hH hl hr hce hcv hcl
  obtain ⟨hd, rfl, ho⟩ := gdec' (len := 1) hM hi rfl (by decide)
  obtain ⟨htr, hx, hb, hrt, hml, hown, hts, hlk, hnm, hfr, hlo, het, hE⟩ := id hC
  have ho : n.val = k := by simpa [gOkI] using ho
  obtain ⟨pre, x9, suf, nm, e1, e2, e3, e4, e5, e6, e7⟩ := gOkH_spec _ _ _ hk
  cases hx9.symm.trans e2
  obtain ⟨k1, k2, k3, k4, k5, k6, k7, k8, k9, k10, k11, k12, k13⟩ := id hE
  refine vx_catch (own := (mN M).cls) (name := nm) (E := E) hown (tableOf pre) (gHe x) (tableOf suf) (by rw [het, e1]; simp [tableOf, gHe]) ?_ e3 e4 (hts _ e5) (va_Nw.use rfl (k12 _ e6)) hce hcv hcl ?_
  · intro y hy
    unfold tableOf at hy
    obtain ⟨y9, hy9, rfl⟩ := List.mem_map.mp hy
    rcases e7 y9 hy9 with h1 | ⟨h1, nm9, h2, h3⟩
    · exact Or.inl h1
    · exact Or.inr ⟨h1, nm9, hts _ h2, k11 _ h3⟩
  · have hkl : k < mL M := Nat.lt_of_lt_of_le (gSet_spec _ _ _ _ hs).1 hl.2.2.1
    exact lv_astore_n hx hb hd ho hl.has hkl rfl (fun ls' h' => kk _ H locs ls' cells slots hC hH (hl.drop hs h') hr)
set_option maxHeartbeats 1000000 in
theorem gox_catch' {E : String} {ns : List String} {n : Nat} {x : Nat × Nat × Nat × Nat} (i : Nat) (hM : gOk M) (hk : gOkH (mN M).cls E pc (mH M) ns i = true) (hx9 : (mH M)[i]? = some x) (hi : gAt (mT M) x.2.2.1 = some (pc0, .astore n, nx, z, k, j)) (hs : gSet lv k none = some lv') (kk : Go G M F nx lv' [] none h c s) : GoX G M F pc lv h E c s := by
  intro p e R s0 m args below meth cd H locs ls cells slots rest q ce hC hH hl hr hce hcv hcl
  obtain ⟨hd, rfl, ho⟩ := gdec' (len := 2) hM hi rfl (by decide)
  obtain ⟨htr, hx, hb, hrt, hml, hown, hts, hlk, hnm, hfr, hlo, het, hE⟩ := id hC
  have ho : n = k := by simpa [gOkI] using ho
  subst ho
  obtain ⟨pre, x9, suf, nm, e1, e2, e3, e4, e5, e6, e7⟩ := gOkH_spec _ _ _ hk
  cases hx9.symm.trans e2
  obtain ⟨k1, k2, k3, k4, k5, k6, k7, k8, k9, k10, k11, k12, k13⟩ := id hE
  refine vx_catch (own := (mN M).cls) (name := nm) (E := E) hown (tableOf pre) (gHe x) (tableOf suf) (by rw [het, e1]; simp [tableOf, gHe]) ?_ e3 e4 (hts _ e5) (va_Nw.use rfl (k12 _ e6)) hce hcv hcl ?_
  · intro y hy
    unfold tableOf at hy
    obtain ⟨y9, hy9, rfl⟩ := List.mem_map.mp hy
    rcases e7 y9 hy9 with h1 | ⟨h1, nm9, h2, h3⟩
    · exact Or.inl h1
    · exact Or.inr ⟨h1, nm9, hts _ h2, k11 _ h3⟩
  · have hkl : n < mL M := Nat.lt_of_lt_of_le (gSet_spec _ _ _ _ hs).1 hl.2.2.1
    exact lv_astore hx hb hd hl.has hkl rfl (fun ls' h' => kk _ H locs ls' cells slots hC hH (hl.drop hs h') hr)
set_option maxHeartbeats 1000000 in
theorem go_callSN {idx : Nat} {As rest : List gV} (hM : gOk M) (hi : gAt (mT M) pc = some (pc0, .invokestatic idx, nx, 4, k, j)) (hm : gMs[k]? = some M') (hp : gPop j [] st = some (As, rest)) (hR : Rn G M' As N h mc ms Q (fun _ _ => False)) (hw : Nat.ble (rest.map gCat).sum 8 = true)
    (kk : ∀ v N' h', Q v N' h' → Go G M F nx lv (gPsh v rest) N' h' c s) : Go G M F pc lv st N h (c + mc) (s + ms) := by
  intro κ H locs ls cells slots hC hH hl hr
  obtain ⟨p, e, R, s0, m, args, below, meth, cd⟩ := κ
  obtain ⟨hd, rfl, ho⟩ := gdec' (len := 3) hM hi rfl (by decide)
  obtain ⟨htr, hx, hb, hrt, hml, hown, hts, hlk, hnm, hfr, hlo, het, hE⟩ := id hC
  have hk : gOkC M k j = true ∧ gOkNl M idx k = true := by simpa [gOkI] using ho
  obtain ⟨l, el, en, es⟩ := gPop_spec _ _ _ _ _ hp
  obtain ⟨hh, hf, hlw, n1, n2, hpar, hini⟩ := gOkC_spec hm hk.1
  have hk2 := hk.2
  unfold gOkNl at hk2
  rw [hm] at hk2
  simp only [Bool.and_eq_true, decide_eq_true_eq, List.any_eq_true] at hk2
  obtain ⟨⟨q9, hq9, ⟨hq1, hq2⟩, hq3⟩, hsta⟩ := hk2
  obtain ⟨k1, k2, k3, k4, k5, k6, k7, k8, k9, k10, k11, k12, k13⟩ := id hE
  have hnl := k10 q9 hq9
  rw [hq1, hq2, hq3] at hnl
  rw [List.append_nil] at el
  subst el
  have hr : cells + (c + mc) ≤ R.cells ∧ slots + (s + ms) ≤ R.slots := hr
  show W p (gl G) e R s0 m args below meth cd H locs cells slots (F (p, e, R, s0, m, args, below, meth, cd)) (F0 m pc ls (st.map (gz G)))
  refine gBack hC hH hl hr (a := (As.map (gz G)).toArray) (rest := rest) (X := fun _ _ => False) ?_ kk (fun E h' h9 => h9.elim)
  refine gRunX ?_
  refine va_runSN (host := q9.2.2.2) (As := As.map (gz G)) (rest := rest.map (gz G)) (cc := mB M) (nL := mL M) (bytes := mB M') (maxL := mL M') (ret := mR M') (ws := gWs M') (rm := { frames := mF M', cells := mc, slots := ms, locals := mO M' }) (n := j) (index := idx) (own := (mN M).cls) (Ts := gT) (Pc := va_Pc (As.map (gz G)) (gPre G N h)) ⟨hx, hb, hml, hown, hts⟩ (hR.met htr) ⟨?_, hts _ (gIn_spec hsta), trivial⟩ ⟨gBlind, ?_⟩ rfl (by simpa using en) hl.1 ?_ ?_ hd ⟨by omega, by omega⟩
  · exact va_cnB (ws' := gT) j hts (gGoodM hm) (by unfold gWs gHd; rw [hh]) rfl rfl hnl (hts _ hini) ⟨n1, n2, hpar⟩ ⟨Nat.le_trans hf hfr, Nat.le_trans hlw hlo⟩
  · intro U hU hW
    exact ⟨rfl, gPre_of hE hH hU hW⟩
  · show st.map (gz G) = _
    rw [es]
    simp
  · refine lv_room ?_
    rw [gz_cats]
    exact Nat.le_of_ble_eq_true hw
end
