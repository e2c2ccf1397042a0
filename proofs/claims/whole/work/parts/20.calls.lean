/-! calls -/
/-- where an exception of class E stands over the frame -/
def GoX (G : gG) (M : gM) (F : gK → State → Prop) (pc : Nat) (lv : List (Option gV)) (h : gH) (E : String) (c s : Nat) : Prop :=
  ∀ (p : Program) (e : Env) (R : Room) (s0 : State) (m : MethodId) (args : Array Value) (below : List Frame) (meth : Method) (cd : Code) (H : Heap) (locs : List Loc) (ls : Array Slot) (cells slots : Nat) (rest : List Value) (q : Addr) (ce : Cell), gCx G M (p, e, R, s0, m, args, below, meth, cd) → gHp G (p, e, R, s0, m, args, below, meth, cd) none h H locs → lvh G (mL M) lv ls → cells + c ≤ R.cells ∧ slots + s ≤ R.slots → H[q]? = some ce → ce.vm = .none → s0.vm.findClass E = some ce.cls →
    vx_W p (gl G) e R s0 m args below meth cd H locs cells slots (F (p, e, R, s0, m, args, below, meth, cd)) (F0 m pc ls rest) q
section
variable {G : gG} {M : gM} {F : gK → State → Prop} {pc : Nat} {lv lv' : List (Option gV)} {st st' : List gV} {N : Option Nat} {h : gH} {c s : Nat} {pc0 nx k j : Nat} {z : Int}
variable {M' : gM} {Q : Option gV → Option Nat → gH → Prop} {X : String → gH → Prop} {mc ms : Nat}
/-- what comes back from a call -/
theorem gBack {p : Program} {e : Env} {R : Room} {s0 : State} {m : MethodId} {args : Array Value} {below : List Frame} {meth : Method} {cd : Code} {H : Heap} {locs : List Loc} {ls : Array Slot} {cells slots : Nat} {rest : List gV} {st0 : List Value} {a : Array Value}
    (hC : gCx G M (p, e, R, s0, m, args, below, meth, cd)) (hH : gHp G (p, e, R, s0, m, args, below, meth, cd) N h H locs) (hl : lvh G (mL M) lv ls) (hr : cells + (c + mc) ≤ R.cells ∧ slots + (s + ms) ≤ R.slots)
    (hrun : vx_Run p (gl G) e R s0 m args below meth cd H locs cells slots mc ms (F0 m pc ls st0) (rest.map (gz G)) (gQc G Q a) (gXc G X) (gA G))
    (kk : ∀ v N' h', Q v N' h' → Go G M F (pc + 3) lv (gPsh v rest) N' h' c s) (kx : ∀ E h', X E h' → GoX G M F pc lv h' E c s) :
    W p (gl G) e R s0 m args below meth cd H locs cells slots (F (p, e, R, s0, m, args, below, meth, cd)) (F0 m pc ls st0) := by
  intro T hT St
  rcases hrun T hT St with ⟨v, st₀, t, T', L, h0, X', hL, e1, e2, ⟨⟨v2, N2, h2, hv, hq, hR2, hN2⟩, hF⟩, go⟩ | ⟨q, st₀, t, T', L, E, ce, h0, X', hL, e1, e2, ⟨⟨h2, hq, hR2⟩, hF⟩, hce, hcv, hcl, go⟩
  · have hS2 : va_S (gA G) s0.heap T'.heap (locs ++ L) := by
      refine ⟨?_, fun q g1 g2 => ?_, fun q hq => ?_⟩
      · rw [e1]
        have := hF.1
        rw [h0] at this
        exact Nat.le_trans hH.2.2.1 this
      · have h8 := hF.2 q (by rw [h0]; exact Nat.lt_of_lt_of_le g1 hH.2.2.1) g2
        rw [e1, h8, h0]
        exact hH.2.2.2.1 q g1 g2
      · rcases List.mem_append.mp hq with h9 | h9
        · exact hH.2.2.2.2 q h9
        · exact hL q h9
    have hv : v = v2.map (gz G) := by injection hv
    subst hv
    have h9 := kk v2 N2 h2 hq (p, e, R, s0, m, args, below, meth, cd) T'.heap (locs ++ L) ls (cells + mc) (slots + ms) hC ⟨by rw [e1]; exact hR2, by rw [e1]; exact hN2, hS2⟩ hl ⟨by omega, by omega⟩
    obtain ⟨t9, a1, b1⟩ := h9 T' rfl X'
    refine ⟨t9, go t9 ?_, b1⟩
    have e9 : (gPsh v2 rest).map (gz G) = (v2.map (gz G)).toList ++ rest.map (gz G) := by cases v2 <;> rfl
    rw [e9] at a1
    exact a1
  · have hS2 : va_S (gA G) s0.heap T'.heap (locs ++ L) := by
      refine ⟨?_, fun q g1 g2 => ?_, fun q hq => ?_⟩
      · rw [e1]
        have := hF.1
        rw [h0] at this
        exact Nat.le_trans hH.2.2.1 this
      · have h8 := hF.2 q (by rw [h0]; exact Nat.lt_of_lt_of_le g1 hH.2.2.1) g2
        rw [e1, h8, h0]
        exact hH.2.2.2.1 q g1 g2
      · rcases List.mem_append.mp hq with h9 | h9
        · exact hH.2.2.2.2 q h9
        · exact hL q h9
    have h9 := kx E h2 hq p e R s0 m args below meth cd T'.heap (locs ++ L) ls (cells + mc) (slots + ms) (rest.map (gz G)) q ce hC ⟨by rw [e1]; exact hR2, fun n e9 => (by cases e9), hS2⟩ hl ⟨by omega, by omega⟩ (by rw [e1]; exact hce) hcv hcl
    obtain ⟨t9, a1, b1⟩ := h9 T' rfl X'
    exact ⟨t9, go.trans a1, b1⟩
theorem gOkC_spec {k j : Nat} (hm : gMs[k]? = some M') (ho : gOkC M k j = true) : mH M' = [] ∧ mF M' + 1 ≤ mF M ∧ 8 + (mL M' + 11) + mO M' ≤ mO M ∧ (mN M').cls ≠ "java/lang/invoke/MethodHandle" ∧ (mN M').cls ≠ "java/lang/invoke/VarHandle" ∧ (parseMethodDescriptor (mN M').desc).map (fun d => d.parameters.length) = some j ∧ Cond.initialized (mN M').cls ∈ gT := by
  unfold gOkC at ho
  rw [hm] at ho
  simp only [Bool.and_eq_true, decide_eq_true_eq] at ho
  obtain ⟨⟨⟨⟨⟨⟨h1, h2⟩, h3⟩, h4⟩, h5⟩, h6⟩, h7⟩ := ho
  exact ⟨h1, h2, h3, h4, h5, h6, gIn_spec h7⟩
theorem gGoodM {k : Nat} (hm : gMs[k]? = some M') : GoodIn gT (gWs M') := by
  intro w hw
  rcases List.mem_cons.mp hw with rfl | hw
  · exact gGoodT _ (gHd_in k M' hm)
  · exact gGoodT _ hw
/-- the heap that a callee finds -/
theorem gPre_of {p : Program} {e : Env} {R : Room} {s0 : State} {m : MethodId} {args : Array Value} {below : List Frame} {meth : Method} {cd : Code} {H : Heap} {locs : List Loc} (hE : gEnv G s0) (hH : gHp G (p, e, R, s0, m, args, below, meth, cd) N h H locs) {U : State} (hU : U.heap = H) (hW : s0.WarmedH U.vm) : gPre G N h U := by
  subst hU
  exact ⟨hE.move hH.2.2 hW, hH.1, hH.2.1⟩
theorem gBlind {av : List Value} : FrameBlind (va_Pc av (gPre G N h)) := by
  intro a U g mk hq
  exact ⟨hq.1, hq.2.1.blind, hq.2.2.1, hq.2.2.2⟩
set_option maxHeartbeats 1000000 in
theorem go_callV {idx b ci : Nat} {fs As rest : List gV} {T : u_T} {nn : Nat} (hM : gOk M) (hi : gAt (mT M) pc = some (pc0, .invokevirtual idx, nx, z, k, j)) (hm : gMs[k]? = some M') (hp : gPop (j + 1) [] st = some (vR b :: As, rest)) (hb : h b = some (.inr (ci, fs))) (hci : gCl[ci]? = some ((mN M').cls, T, nn)) (hR : Rn G M' (vR b :: As) N h mc ms Q X) (hw : Nat.ble (rest.map gCat).sum 8 = true)
    (kk : ∀ v N' h', Q v N' h' → Go G M F nx lv (gPsh v rest) N' h' c s) (kx : ∀ E h', X E h' → GoX G M F pc lv h' E c s) : Go G M F pc lv st N h (c + mc) (s + ms) := by
  have hb' := hb
  intro κ H locs ls cells slots hC hH hl hr
  obtain ⟨p, e, R, s0, m, args, below, meth, cd⟩ := κ
  obtain ⟨hd, rfl, ho⟩ := gdec' (len := 3) hM hi rfl (by decide)
  obtain ⟨htr, hx, hbb, hrt, hml, hown, hts, hlk, hnm, hfr, hlo, het, hE⟩ := id hC
  have hk : gOkC M k j = true ∧ gOkV M idx k = true := by simpa [gOkI] using ho
  obtain ⟨l, el, en, es⟩ := gPop_spec _ _ _ _ _ hp
  obtain ⟨hh, hf, hlw, n1, n2, hpar, hini⟩ := gOkC_spec hm hk.1
  have hk2 := hk.2
  unfold gOkV at hk2
  rw [hm] at hk2
  simp only [Bool.and_eq_true, decide_eq_true_eq] at hk2
  obtain ⟨ea, hat⟩ := hH.1.at hb
  rw [List.append_nil] at el
  subst el
  have hr : cells + (c + mc) ≤ R.cells ∧ slots + (s + ms) ≤ R.slots := hr
  have hlen : As.length = j := by simpa using en
  show W p (gl G) e R s0 m args below meth cd H locs cells slots (F (p, e, R, s0, m, args, below, meth, cd)) (F0 m pc ls (st.map (gz G)))
  refine gBack hC hH hl hr (a := (Value.ref (gZ G + b) :: As.map (gz G)).toArray) (rest := rest) ?_ kk kx
  refine vx_runV (C := (mN M').cls) (b := gZ G + b) (As := As.map (gz G)) (rest := rest.map (gz G)) (cc := mB M) (nL := mL M) (bytes := mB M') (maxL := mL M') (ret := mR M') (ws := gWs M') (rm := { frames := mF M', cells := mc, slots := ms, locals := mO M' }) (n := j) (index := idx) (own := (mN M).cls) (Ts := gT) (Pc := va_Pc ((vR b :: As).map (gz G)) (gPre G N h)) ⟨hx, hbb, hml, hown, hts⟩ (hR htr) ?_ ⟨gBlind, ?_, ?_⟩ rfl (by simpa using hlen) hl.1 ?_ ?_ hd ⟨by omega, by omega⟩
  · refine cwV (C := (mN M').cls) (ws' := gT) j hts ?_ (by unfold gWs gHd; rw [hh]) rfl rfl ⟨rfl, n1, n2, hpar⟩ ⟨Nat.le_trans hf hfr, Nat.le_trans hlw hlo⟩
    intro w hw
    unfold wsV at hw
    rcases List.mem_append.mp hw with h9 | h9
    · have : w ∈ gT := by
        simp only [List.mem_cons, List.not_mem_nil, or_false] at h9
        rcases h9 with rfl | rfl | rfl | rfl
        · exact gIn_spec hk2.1.1
        · exact gIn_spec hk2.1.2
        · exact gIn_spec hk2.2
        · exact hini
      exact gGoodT _ this
    · exact gGoodM hm _ h9
  · exact va_recv (q := ((mN M').cls, T, nn)) hE.1 (gP1 hat) hci (q0 := 0) rfl
  · intro U hU hW
    refine ⟨?_, gPre_of hE hH hU hW⟩
    show _ = (Value.ref (ga G b) :: As.map (gz G)).toArray
    rw [ea]
  · show st.map (gz G) = _
    rw [es]
    simp [gz, ea]
  · refine lv_room ?_
    rw [gz_cats]
    exact Nat.le_of_ble_eq_true hw
set_option maxHeartbeats 1000000 in
theorem go_callS {idx : Nat} {As rest : List gV} (hM : gOk M) (hi : gAt (mT M) pc = some (pc0, .invokestatic idx, nx, 0, k, j)) (hm : gMs[k]? = some M') (hp : gPop j [] st = some (As, rest)) (hR : Rn G M' As N h mc ms Q X) (hw : Nat.ble (rest.map gCat).sum 8 = true)
    (kk : ∀ v N' h', Q v N' h' → Go G M F nx lv (gPsh v rest) N' h' c s) (kx : ∀ E h', X E h' → GoX G M F pc lv h' E c s) : Go G M F pc lv st N h (c + mc) (s + ms) := by
  intro κ H locs ls cells slots hC hH hl hr
  obtain ⟨p, e, R, s0, m, args, below, meth, cd⟩ := κ
  obtain ⟨hd, rfl, ho⟩ := gdec' (len := 3) hM hi rfl (by decide)
  obtain ⟨htr, hx, hb, hrt, hml, hown, hts, hlk, hnm, hfr, hlo, het, hE⟩ := id hC
  have hk : (gOkC M k j = true ∧ gOkS M idx k = true) ∧ (mN M').cls = (mN M).cls := by simpa [gOkI, hm] using ho
  obtain ⟨hk, hcl⟩ := hk
  obtain ⟨l, el, en, es⟩ := gPop_spec _ _ _ _ _ hp
  obtain ⟨hh, hf, hlw, n1, n2, hpar, hini⟩ := gOkC_spec hm hk.1
  have hk2 := hk.2
  unfold gOkS at hk2
  rw [hm] at hk2
  simp only [Bool.and_eq_true, decide_eq_true_eq] at hk2
  rw [List.append_nil] at el
  subst el
  have hr : cells + (c + mc) ≤ R.cells ∧ slots + (s + ms) ≤ R.slots := hr
  show W p (gl G) e R s0 m args below meth cd H locs cells slots (F (p, e, R, s0, m, args, below, meth, cd)) (F0 m pc ls (st.map (gz G)))
  refine gBack hC hH hl hr (a := (As.map (gz G)).toArray) (rest := rest) ?_ kk kx
  refine vx_runS (As := As.map (gz G)) (rest := rest.map (gz G)) (cc := mB M) (nL := mL M) (bytes := mB M') (maxL := mL M') (ret := mR M') (ws := gWs M') (rm := { frames := mF M', cells := mc, slots := ms, locals := mO M' }) (n := j) (index := idx) (own := (mN M).cls) (Ts := gT) (Pc := va_Pc (As.map (gz G)) (gPre G N h)) ⟨hx, hb, hml, hown, hts⟩ (hR htr) ?_ ⟨gBlind, ?_⟩ rfl (by simpa using en) hl.1 ?_ ?_ hd ⟨by omega, by omega⟩
  · refine cwS (ws' := gT) j hts ?_ (by unfold gWs gHd; rw [hh]) rfl rfl ⟨hcl, n1, n2, hpar⟩ ⟨Nat.le_trans hf hfr, Nat.le_trans hlw hlo⟩
    intro w hw
    unfold wsS at hw
    rcases List.mem_append.mp hw with h9 | h9
    · have : w ∈ gT := by
        simp only [List.mem_cons, List.not_mem_nil, or_false] at h9
        rcases h9 with rfl | rfl | rfl
        · exact gIn_spec hk2.1
        · exact gIn_spec hk2.2
        · rw [← hcl]
          exact hini
      exact gGoodT _ this
    · exact gGoodM hm _ h9
  · intro U hU hW
    exact ⟨rfl, gPre_of hE hH hU hW⟩
  · show st.map (gz G) = _
    rw [es]
    simp
  · refine lv_room ?_
    rw [gz_cats]
    exact Nat.le_of_ble_eq_true hw
theorem gRunX {p : Program} {l : Launch} {e : Env} {R : Room} {s : State} {m : MethodId} {args : Array Value} {below : List Frame} {meth : Method} {c : Code} {H : Heap} {locs : List Loc} {cells slots mc ms : Nat} {g : JFrame} {rest : List Value} {Qa : State → Outcome → State → Prop} {XC : String → State → State → Prop} {free : Addr → Prop} (h : va_Run p l e R s m args below meth c H locs cells slots mc ms g rest Qa free) : vx_Run p l e R s m args below meth c H locs cells slots mc ms g rest Qa XC free := fun T hT X => Or.inl (h T hT X)
/-- a contract of a method that doesn't throw -/
theorem Rn.met {av : List gV} (hR : Rn G M' av N h mc ms Q (fun _ _ => False)) (htr : (gl G).stackTraces = false) : Met (gl G) (mN M') (gWs M') { frames := mF M', cells := mc, slots := ms, locals := mO M' } (va_Pc (av.map (gz G)) (gPre G N h)) (gQc G Q) mc ms (gA G) := by
  intro p e a1 a2 a3 s m args below hf happ hP hK
  obtain ⟨n, o, h1, h2, h3, h4⟩ := hR htr p e a1 a2 a3 s m args below hf happ hP hK
  refine ⟨n, o, h1, h2, h3, ?_⟩
  rcases h4 with h4 | ⟨q, -, E, ce, L, ⟨⟨h9, hx, -⟩, -⟩, -⟩
  · exact h4
  · exact hx.elim
set_option maxHeartbeats 1000000 in
theorem go_callI {idx b : Nat} {As rest : List gV} (hM : gOk M) (hi : gAt (mT M) pc = some (pc0, .invokespecial idx, nx, 0, k, j)) (hm : gMs[k]? = some M') (hp : gPop (j + 1) [] st = some (vR b :: As, rest)) (hR : Rn G M' (vR b :: As) N h mc ms Q (fun _ _ => False)) (hw : Nat.ble (rest.map gCat).sum 8 = true)
    (kk : ∀ v N' h', Q v N' h' → Go G M F nx lv (gPsh v rest) N' h' c s) : Go G M F pc lv st N h (c + mc) (s + ms) := by
  intro κ H locs ls cells slots hC hH hl hr
  obtain ⟨p, e, R, s0, m, args, below, meth, cd⟩ := κ
  obtain ⟨hd, rfl, ho⟩ := gdec' (len := 3) hM hi rfl (by decide)
  obtain ⟨htr, hx, hb, hrt, hml, hown, hts, hlk, hnm, hfr, hlo, het, hE⟩ := id hC
  have hk : gOkC M k j = true ∧ gOkSp M idx k = true := by simpa [gOkI] using ho
  obtain ⟨l, el, en, es⟩ := gPop_spec _ _ _ _ _ hp
  obtain ⟨hh, hf, hlw, n1, n2, hpar, hini⟩ := gOkC_spec hm hk.1
  have hk2 := hk.2
  unfold gOkSp at hk2
  rw [hm] at hk2
  simp only [Bool.and_eq_true, decide_eq_true_eq] at hk2
  rw [List.append_nil] at el
  subst el
  have hr : cells + (c + mc) ≤ R.cells ∧ slots + (s + ms) ≤ R.slots := hr
  have hlen : As.length = j := by simpa using en
  show W p (gl G) e R s0 m args below meth cd H locs cells slots (F (p, e, R, s0, m, args, below, meth, cd)) (F0 m pc ls (st.map (gz G)))
  refine gBack hC hH hl hr (a := (Value.ref (ga G b) :: As.map (gz G)).toArray) (rest := rest) (X := fun _ _ => False) ?_ kk (fun E h' h9 => h9.elim)
  refine gRunX ?_
  refine va_runI (b := ga G b) (As := As.map (gz G)) (rest := rest.map (gz G)) (cc := mB M) (nL := mL M) (bytes := mB M') (maxL := mL M') (ws := gWs M') (rm := { frames := mF M', cells := mc, slots := ms, locals := mO M' }) (n := j) (index := idx) (own := (mN M).cls) (Ts := gT) (Pc := va_Pc ((vR b :: As).map (gz G)) (gPre G N h)) ⟨hx, hb, hml, hown, hts⟩ (hR.met htr) ?_ ⟨gBlind, ?_⟩ rfl (by simpa using hlen) hl.1 ?_ ?_ hd ⟨by omega, by omega⟩
  · exact cwI (ws' := gT) j hts (gGoodM hm) (by unfold gWs gHd; rw [hh, hk2.2]) rfl rfl (hts _ hini) (hts _ (gIn_spec hk2.1.1.1)) (hts _ (gIn_spec hk2.1.1.2)) hk2.1.2 ⟨n1, n2, hpar⟩ ⟨Nat.le_trans hf hfr, Nat.le_trans hlw hlo⟩
  · intro U hU hW
    exact ⟨rfl, gPre_of hE hH hU hW⟩
  · show st.map (gz G) = _
    rw [es]
    simp [gz]
  · refine lv_room ?_
    rw [gz_cats]
    exact Nat.le_of_ble_eq_true hw
end
