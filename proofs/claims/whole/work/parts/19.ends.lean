/-! contracts, calls, ends -/
def gQc (G : gG) (Q : Option gV → Option Nat → gH → Prop) : Array Value → State → Outcome → State → Prop := fun _ st o t => (∃ (v : Option gV) (N : Option Nat) (h : gH), o = .returned (v.map (gz G)) ∧ Q v N h ∧ gRp G h t.heap ∧ gN G N t.heap) ∧ va_F (gA G) st t
def gXc (G : gG) (X : String → gH → Prop) : String → State → State → Prop := fun E st t => (∃ h : gH, X E h ∧ gRp G h t.heap) ∧ va_F (gA G) st t
def gPre (G : gG) (N : Option Nat) (h : gH) (U : State) : Prop := gEnv G U ∧ gRp G h U.heap ∧ gN G N U.heap
def gFin (G : gG) (Q : Option gV → Option Nat → gH → Prop) (X : String → gH → Prop) : gK → State → Prop := fun κ => match κ with
  | (_, _, R, s, _, args, below, _, _) => vx_MQ below (gQc G Q) (gXc G X) args s R.cells R.slots (gA G)
/-- the contract: with these arguments, in these cells, the method returns as Q says or throws as X says, with at most mc new cells of ms slots -/
def Rn (G : gG) (M : gM) (av : List gV) (N : Option Nat) (h : gH) (mc ms : Nat) (Q : Option gV → Option Nat → gH → Prop) (X : String → gH → Prop) : Prop :=
  (gl G).stackTraces = false → vx_Met (gl G) (mN M) (gWs M) { frames := mF M, cells := mc, slots := ms, locals := mO M } (va_Pc (av.map (gz G)) (gPre G N h)) (gQc G Q) (gXc G X) mc ms (gA G)
theorem gEnt_spec (G : gG) : ∀ (av : List gV) (n k i : Nat) (v : gV), (∀ w ∈ av, gCat w = 1) → (gEnt n av)[i]? = some (some v) → gCat v = 1 ∧ (k + i, gz G v) ∈ lv_args k (av.map (gz G)) := by
  intro av
  induction av with
  | nil =>
    intro n k i v _ h
    simp only [gEnt] at h
    have := List.eq_of_mem_replicate (List.mem_of_getElem? h)
    cases this
  | cons w av ih =>
    intro n k i v hc h
    cases n with
    | zero => simp [gEnt] at h
    | succ n =>
      have hw : gCat w = 1 := hc w List.mem_cons_self
      have hw2 : ¬ (gz G w).category = 2 := by rw [gz_cat, hw]; decide
      simp only [List.map_cons, lv_args, if_neg hw2]
      cases i with
      | zero =>
        simp only [gEnt, List.getElem?_cons_zero, Option.some.injEq] at h
        subst h
        exact ⟨hw, by simp⟩
      | succ i =>
        simp only [gEnt, List.getElem?_cons_succ] at h
        obtain ⟨h1, h2⟩ := ih n (k + 1) i v (fun w hw => hc w (List.mem_cons_of_mem _ hw)) h
        exact ⟨h1, List.mem_cons_of_mem _ (by rw [show k + (i + 1) = k + 1 + i by omega]; exact h2)⟩
theorem gEnt_len : ∀ (av : List gV) (n : Nat), (gEnt n av).length ≤ n := by
  intro av
  induction av with
  | nil => intro n; simp [gEnt]
  | cons w av ih =>
    intro n
    cases n with
    | zero => simp [gEnt]
    | succ n =>
      simp only [gEnt, List.length_cons]
      have := ih n
      omega
theorem gSl_len (G : gG) : ∀ (av : List gV), (∀ w ∈ av, gCat w = 1) → (lg_sl (av.map (gz G))).length = av.length := by
  intro av
  induction av with
  | nil => intro _; rfl
  | cons w av ih =>
    intro hc
    have hw2 : ¬ (gz G w).category = 2 := by rw [gz_cat, hc w List.mem_cons_self]; decide
    have h1 := ih (fun w hw => hc w (List.mem_cons_of_mem _ hw))
    simp only [lg_sl, List.map_cons, List.flatMap_cons, if_neg hw2] at h1 ⊢
    simp only [List.length_append, List.length_cons, List.length_nil, h1]
    omega
theorem gGoodT : GoodIn gT gT := fun w hw => ⟨hw, good_of_word (gGood w hw)⟩
set_option maxHeartbeats 1000000 in
theorem Rn.of {G : gG} {M : gM} {av : List gV} {N : Option Nat} {h : gH} {mc ms : Nat} {Q : Option gV → Option Nat → gH → Prop} {X : String → gH → Prop} (hy : plainName (mN M).cls = true) (hle9 : Nat.ble av.length (mL M) = true) (hc9 : av.all (fun w => Nat.beq (gCat w) 1) = true) (body : Go G M (gFin G Q X) 0 (gEnt (mL M) av) [] N h mc ms) : Rn G M av N h mc ms Q X := by
  intro htr
  have hle : av.length ≤ mL M := Nat.le_of_ble_eq_true hle9
  have hc1 : ∀ w ∈ av, gCat w = 1 := fun w hw => Nat.eq_of_beq_eq_true (List.all_eq_true.mp hc9 w hw)
  have main : ∀ (p : Program) (e : Env) (s : State) (m : MethodId) (args : Array Value) (below : List Frame) (meth : Method) (c : Code) (s₁ : State), BodyLoose p (gl G) (mN M) (headSpec (gWs M) { frames := mF M, cells := mc, slots := ms, locals := mO M }) (mB M) (mL M) (mR M) e s m args below meth c s₁ → c.maxLocals = mL M → c.exceptionTable.toList = tableOf (mH M) → va_Pc (av.map (gz G)) (gPre G N h) args s →
      W p (gl G) e { frames := mF M, cells := mc, slots := ms, locals := mO M } s m args below meth c s.heap [] 0 0 (vx_MQ below (gQc G Q) (gXc G X) args s mc ms (gA G)) (entryFrame m args (mL M)) := by
    intro p e s m args below meth c s₁ B hml het hv
    obtain ⟨rfl, hE, hR, hN⟩ := hv
    have hts := atoms_spec (ws := gWs M) B.pre
    have hl := lv_entry (av.map (gz G)) (n := mL M) (by rw [gSl_len G av hc1]; exact hle)
    rw [lg_entry_eq]
    exact body (p, e, { frames := mF M, cells := mc, slots := ms, locals := mO M }, s, m, (av.map (gz G)).toArray, below, meth, c) s.heap [] _ 0 0
      ⟨htr, B.exec, B.bytes, B.returns, hml, findClass_of_methodNamed B.named, fun w hw => hts w (List.mem_cons_of_mem _ hw), B.notSynchronized, (name_of_methodNamed B.named B.method).1, Nat.le_refl _, Nat.le_refl _, het, hE⟩
      ⟨hR, hN, va_S.rf⟩ ⟨hl.1, hl.2.1, gEnt_len av _, fun i v h9 => ⟨(gEnt_spec G av (mL M) 0 i v hc1 h9).1, by
        have h8 := hl.2.2 _ (gEnt_spec G av (mL M) 0 i v hc1 h9).2
        simpa using h8⟩⟩ ⟨by show 0 + mc ≤ mc; omega, by show 0 + ms ≤ ms; omega⟩
  cases hh : mH M with
  | nil =>
    refine vx_ofW (cc := mB M) (maxL := mL M) (ret := mR M) (ws' := gT) hy (by unfold gWs gHd; rw [hh]) ?_
    intro p e s m args below meth c s₁ B hml ht hv
    refine main p e s m args below meth c s₁ B hml ?_ hv
    rw [hh]
    show c.exceptionTable.toList = []
    exact List.eq_nil_iff_forall_not_mem.mpr ht
  | cons q t =>
    refine vx_ofWH (cc := mB M) (maxL := mL M) (ret := mR M) (ws' := gT) (hh := q :: t) hy (by unfold gWs gHd; rw [hh]) ?_
    intro p e s m args below meth c s₁ B hml hv
    refine main p e s m args below meth c s₁ B hml ?_ hv
    rw [hh]
    have hts := atoms_spec (ws := gWs M) B.pre
    have h9 := hts (gHd M) List.mem_cons_self
    unfold gHd at h9
    rw [hh] at h9
    exact vx_table (x := mN M) B h9
section
variable {G : gG} {M : gM} {F : gK → State → Prop} {pc : Nat} {lv lv' : List (Option gV)} {st st' : List gV} {N : Option Nat} {h : gH} {c s : Nat} {pc0 nx k j : Nat} {z : Int}

/-- ends -/
theorem go_iret {a : Int} {Q : Option gV → Option Nat → gH → Prop} {X : String → gH → Prop} (hM : gOk M) (hi : gAt (mT M) pc = some (pc0, .ireturn, nx, z, k, j)) (ht : mR M = some .int) (hQ : Q (some (vI a)) N h) : Go G M (gFin G Q X) pc lv [vI a] N h c s := by
  intro κ H locs ls cells slots hC hH hl hr
  obtain ⟨p, e, R, s0, m, args, below, meth, cd⟩ := κ
  obtain ⟨hd, rfl, ho⟩ := gdec' (len := 1) hM hi rfl (by decide)
  obtain ⟨-, hx, hb, hrt, hml, hown, hts, hlk, hnm, hfr, hlo, het, hE⟩ := id hC
  have hr : cells + c ≤ R.cells ∧ slots + s ≤ R.slots := hr
  refine W.widen (k := R.cells) (n := R.slots) (by omega) (by omega) ?_
  refine vx_ret ?_
  exact W.iret (v := Int32.ofInt a) hx hb (hrt.trans ht) (fun t ht hW => ⟨⟨some (vI a), N, h, rfl, hQ, by rw [ht]; exact hH.1, by rw [ht]; exact hH.2.1⟩, hH.2.2.F ht⟩) hH.2.2.2.2 hd hlk
theorem go_zret {a : Int} {Q : Option gV → Option Nat → gH → Prop} {X : String → gH → Prop} (hM : gOk M) (hi : gAt (mT M) pc = some (pc0, .ireturn, nx, z, k, j)) (ht : mR M = some .boolean) (ha : a = 0 ∨ a = 1) (hQ : Q (some (vI a)) N h) : Go G M (gFin G Q X) pc lv [vI a] N h c s := by
  intro κ H locs ls cells slots hC hH hl hr
  obtain ⟨p, e, R, s0, m, args, below, meth, cd⟩ := κ
  obtain ⟨hd, rfl, ho⟩ := gdec' (len := 1) hM hi rfl (by decide)
  obtain ⟨-, hx, hb, hrt, hml, hown, hts, hlk, hnm, hfr, hlo, het, hE⟩ := id hC
  have hr : cells + c ≤ R.cells ∧ slots + s ≤ R.slots := hr
  refine W.widen (k := R.cells) (n := R.slots) (by omega) (by omega) ?_
  refine vx_ret ?_
  exact W.zret (v := Int32.ofInt a) (ty := .boolean) hx hb (hrt.trans ht) (by rcases ha with rfl | rfl <;> decide) (fun t ht hW => ⟨⟨some (vI a), N, h, rfl, hQ, by rw [ht]; exact hH.1, by rw [ht]; exact hH.2.1⟩, hH.2.2.F ht⟩) hH.2.2.2.2 hd hlk
theorem go_aret {a : Nat} {C : String} {Q : Option gV → Option Nat → gH → Prop} {X : String → gH → Prop} (hM : gOk M) (hi : gAt (mT M) pc = some (pc0, .areturn, nx, z, k, j)) (ht : mR M = some (.object C)) (hQ : Q (some (vR a)) N h) : Go G M (gFin G Q X) pc lv [vR a] N h c s := by
  intro κ H locs ls cells slots hC hH hl hr
  obtain ⟨p, e, R, s0, m, args, below, meth, cd⟩ := κ
  obtain ⟨hd, rfl, ho⟩ := gdec' (len := 1) hM hi rfl (by decide)
  obtain ⟨-, hx, hb, hrt, hml, hown, hts, hlk, hnm, hfr, hlo, het, hE⟩ := id hC
  have hr : cells + c ≤ R.cells ∧ slots + s ≤ R.slots := hr
  refine W.widen (k := R.cells) (n := R.slots) (by omega) (by omega) ?_
  refine vx_ret ?_
  exact W.aret (v := .ref (ga G a)) (rt := .object C) hx hb (hrt.trans ht) (Or.inl ⟨C, rfl⟩) (Or.inr ⟨_, rfl⟩) (fun t ht hW => ⟨⟨some (vR a), N, h, rfl, hQ, by rw [ht]; exact hH.1, by rw [ht]; exact hH.2.1⟩, hH.2.2.F ht⟩) hH.2.2.2.2 hd hlk
theorem go_vret {Q : Option gV → Option Nat → gH → Prop} {X : String → gH → Prop} (hM : gOk M) (hi : gAt (mT M) pc = some (pc0, .return_, nx, z, k, j)) (ht : mR M = none) (hQ : Q none N h) : Go G M (gFin G Q X) pc lv [] N h c s := by
  intro κ H locs ls cells slots hC hH hl hr
  obtain ⟨p, e, R, s0, m, args, below, meth, cd⟩ := κ
  obtain ⟨hd, rfl, ho⟩ := gdec' (len := 1) hM hi rfl (by decide)
  obtain ⟨-, hx, hb, hrt, hml, hown, hts, hlk, hnm, hfr, hlo, het, hE⟩ := id hC
  have hr : cells + c ≤ R.cells ∧ slots + s ≤ R.slots := hr
  refine W.widen (k := R.cells) (n := R.slots) (by omega) (by omega) ?_
  refine vx_ret ?_
  exact W.vret hx hb (hrt.trans ht) (fun t ht hW => ⟨⟨none, N, h, rfl, hQ, by rw [ht]; exact hH.1, by rw [ht]; exact hH.2.1⟩, hH.2.2.F ht⟩) hH.2.2.2.2 hd hlk
end
