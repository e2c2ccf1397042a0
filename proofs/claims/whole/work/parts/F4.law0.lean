/-! calls of the law's helpers, that have handlers; the law's cell -/
def gOkX (M : gM) (idx k j : Nat) : Bool := match gMs[k]? with
  | some M' => decide (mH M' ≠ []) && decide (mF M' + 1 ≤ mF M) && decide (8 + (mL M' + 11) + mO M' ≤ mO M) && decide ((mN M').cls ≠ "java/lang/invoke/MethodHandle") && decide ((mN M').cls ≠ "java/lang/invoke/VarHandle") && decide ((parseMethodDescriptor (mN M').desc).map (fun d => d.parameters.length) = some j) && gIn (Cond.initialized (mN M').cls) && gIn (Cond.methodLink (mN M).cls idx (mN M')) && gIn (Cond.static (mN M'))
  | none => false
section
variable {G : gG} {M : gM} {F : gK → State → Prop} {pc : Nat} {lv lv' : List (Option gV)} {st st' : List gV} {N : Option Nat} {h : gH} {c s : Nat} {pc0 nx k j : Nat} {z : Int}
variable {M' : gM} {Q : Option gV → Option Nat → gH → Prop} {X : String → gH → Prop} {mc ms : Nat}
set_option maxHeartbeats 1000000 in
theorem go_callSX {idx : Nat} {As rest : List gV} (hM : gOk M) (hi : gAt (mT M) pc = some (pc0, .invokestatic idx, nx, 5, k, j)) (hk : gOkX M idx k j = true) (hm : gMs[k]? = some M') (hp : gPop j [] st = some (As, rest)) (hR : Rn G M' As N h mc ms Q X) (hw : Nat.ble (rest.map gCat).sum 8 = true)
    (kk : ∀ v N' h', Q v N' h' → Go G M F nx lv (gPsh v rest) N' h' c s) (kx : ∀ E h', X E h' → GoX G M F pc lv h' E c s) : Go G M F pc lv st N h (c + mc) (s + ms) := by
  intro κ H locs ls cells slots hC hH hl hr
  obtain ⟨p, e, R, s0, m, args, below, meth, cd⟩ := κ
  obtain ⟨hd, rfl, ho⟩ := gdec' (len := 3) hM hi rfl (by decide)
  obtain ⟨htr, hx, hb, hrt, hml, hown, hts, hlk, hnm, hfr, hlo, het, hE⟩ := id hC
  obtain ⟨l, el, en, es⟩ := gPop_spec _ _ _ _ _ hp
  unfold gOkX at hk
  rw [hm] at hk
  simp only [Bool.and_eq_true, decide_eq_true_eq] at hk
  obtain ⟨⟨⟨⟨⟨⟨⟨⟨hh, hf⟩, hlw⟩, n1⟩, n2⟩, hpar⟩, hini⟩, hlink⟩, hsta⟩ := hk
  rw [List.append_nil] at el
  subst el
  have hr : cells + (c + mc) ≤ R.cells ∧ slots + (s + ms) ≤ R.slots := hr
  have hhd : gHd M' = .codeWith (mN M') (mB M') (mL M') (mR M') (mH M') := by
    unfold gHd
    cases e9 : mH M' with
    | nil => exact absurd e9 hh
    | cons a b => rfl
  have hgd := gGoodM hm
  have hcw : Cond.codeWith (mN M') (mB M') (mL M') (mR M') (mH M') ∈ gWs M' := by
    rw [← hhd]
    exact List.mem_cons_self
  show W p (gl G) e R s0 m args below meth cd H locs cells slots (F (p, e, R, s0, m, args, below, meth, cd)) (F0 m pc ls (st.map (gz G)))
  refine gBack hC hH hl hr (a := (As.map (gz G)).toArray) (rest := rest) ?_ kk kx
  refine vx_runSX (hh := mH M') (As := As.map (gz G)) (rest := rest.map (gz G)) (cc := mB M) (nL := mL M) (bytes := mB M') (maxL := mL M') (ret := mR M') (ws := gWs M') (rm := { frames := mF M', cells := mc, slots := ms, locals := mO M' }) (n := j) (index := idx) (own := (mN M).cls) (Ts := gT) (Pc := va_Pc (As.map (gz G)) (gPre G N h)) ⟨hx, hb, hml, hown, hts⟩ (hR htr) ?_ ⟨gBlind, ?_⟩ rfl (by simpa using en) hl.1 ?_ ?_ hd ⟨by omega, by omega⟩
  · refine ⟨⟨rfl, rfl, Nat.le_trans hf hfr, Nat.le_trans hlw hlo, pay_in hts hgd, hcw⟩, hts _ (hgd _ hcw).1, hts _ (gIn_spec hini), ⟨n1, n2⟩, fun sig h => ?_, hts _ (gIn_spec hlink), hts _ (gIn_spec hsta)⟩
    have h2 := hpar
    rw [h] at h2
    exact (Option.some.inj h2).symm
  · intro U hU hW
    exact ⟨rfl, gPre_of hE hH hU hW⟩
  · show st.map (gz G) = _
    rw [es]
    simp
  · refine lv_room ?_
    rw [gz_cats]
    exact Nat.le_of_ble_eq_true hw
end
