/-! the judgement 'Go': from this pc, with these locals, stack and cells, the method comes to its end as F says -/
def gCat (v : gV) : Nat := match v with
  | .inr (.inl _) => 2
  | _ => 1
theorem gz_cat (G : gG) (v : gV) : (gz G v).category = gCat v := by
  rcases v with z | x | r
  · rfl
  · rfl
  · cases r <;> rfl
theorem gz_cats (G : gG) (st : List gV) : ((st.map (gz G)).map fun v => v.category) = st.map gCat := by
  rw [List.map_map]
  exact List.map_congr_left (fun v _ => gz_cat G v)
theorem gSet_spec : ∀ (lv : List (Option gV)) (k : Nat) (v : Option gV) (lv' : List (Option gV)), gSet lv k v = some lv' → k < lv.length ∧ lv' = lv.set k v := by
  intro lv
  induction lv with
  | nil => intro k v lv' h; simp [gSet] at h
  | cons x t ih =>
    intro k v lv' h
    cases k with
    | zero => simp [gSet] at h; subst h; simp
    | succ k =>
      simp only [gSet] at h
      cases h1 : gSet t k v with
      | none => rw [h1] at h; simp at h
      | some t' =>
        rw [h1] at h
        obtain ⟨e1, e2⟩ := ih k v t' h1
        simp at h
        subst h
        subst e2
        simp
        omega
theorem gSetF_spec : ∀ (lv : List gV) (k : Nat) (v : gV) (lv' : List gV), gSetF lv k v = some lv' → k < lv.length ∧ lv' = lv.set k v := by
  intro lv
  induction lv with
  | nil => intro k v lv' h; simp [gSetF] at h
  | cons x t ih =>
    intro k v lv' h
    cases k with
    | zero => simp [gSetF] at h; subst h; simp
    | succ k =>
      simp only [gSetF] at h
      cases h1 : gSetF t k v with
      | none => rw [h1] at h; simp at h
      | some t' =>
        rw [h1] at h
        obtain ⟨e1, e2⟩ := ih k v t' h1
        simp at h
        subst h
        subst e2
        simp
        omega
theorem gGet_spec : ∀ (lv : List (Option gV)) (k : Nat) (v : gV), gGet lv k = some v → lv[k]? = some (some v) := by
  intro lv
  induction lv with
  | nil => intro k v h; simp [gGet] at h
  | cons x t ih =>
    intro k v h
    cases k with
    | zero => simp [gGet] at h; subst h; simp
    | succ k => simp [gGet] at h; simpa using ih k v h
theorem gAt_spec : ∀ (t : List gI) (pc : Nat) (q : gI), gAt t pc = some q → q ∈ t ∧ q.1 = pc := by
  intro t
  induction t with
  | nil => intro pc q h; simp [gAt] at h
  | cons x t ih =>
    intro pc q h
    simp only [gAt] at h
    cases hb : Nat.beq x.1 pc with
    | true =>
      rw [hb] at h
      simp at h
      subst h
      exact ⟨List.mem_cons_self, Nat.eq_of_beq_eq_true hb⟩
    | false =>
      rw [hb] at h
      simp at h
      obtain ⟨e1, e2⟩ := ih pc q h
      exact ⟨List.mem_cons_of_mem _ e1, e2⟩
theorem gPop_spec : ∀ (n : Nat) (acc st As rest : List gV), gPop n acc st = some (As, rest) → ∃ l : List gV, As = l ++ acc ∧ l.length = n ∧ st = l.reverse ++ rest := by
  intro n
  induction n with
  | zero => intro acc st As rest h; simp [gPop] at h; exact ⟨[], by simp [h.1], rfl, by simp [h.2]⟩
  | succ n ih =>
    intro acc st As rest h
    cases st with
    | nil => simp [gPop] at h
    | cons v st =>
      simp only [gPop] at h
      obtain ⟨l, e1, e2, e3⟩ := ih _ _ _ _ h
      exact ⟨l ++ [v], by simp [e1], by simp [e2], by simp [e3]⟩
/-- the locals -/
def lvh (G : gG) (nL : Nat) (lv : List (Option gV)) (ls : Array Slot) : Prop := ls.size = nL ∧ lv_wf ls ∧ lv.length ≤ nL ∧ ∀ (i : Nat) (v : gV), lv[i]? = some (some v) → gCat v = 1 ∧ ls[i]? = some (Slot.val (gz G v))
def gPr (G : gG) (lv : List (Option gV)) : List (Nat × Value) := (List.range lv.length).filterMap (fun i => (lv[i]?.join).map (fun v => (i, gz G v)))
theorem gPr_mem (G : gG) (lv : List (Option gV)) (i : Nat) (w : Value) : (i, w) ∈ gPr G lv ↔ ∃ v, lv[i]? = some (some v) ∧ w = gz G v := by
  unfold gPr
  rw [List.mem_filterMap]
  constructor
  · rintro ⟨j, hj, h⟩
    cases hl : lv[j]? with
    | none => rw [hl] at h; simp at h
    | some x =>
      cases x with
      | none => rw [hl] at h; simp at h
      | some v =>
        rw [hl] at h
        simp at h
        obtain ⟨rfl, rfl⟩ := h
        exact ⟨v, hl, rfl⟩
  · rintro ⟨v, h, rfl⟩
    exact ⟨i, List.mem_range.mpr (List.getElem?_eq_some_iff.mp h).1, by rw [h]; rfl⟩
theorem lvh.has {G : gG} {nL : Nat} {lv : List (Option gV)} {ls : Array Slot} (h : lvh G nL lv ls) : lv_has ls nL (gPr G lv) := by
  refine ⟨h.1, h.2.1, fun q hq => ?_⟩
  obtain ⟨i, w⟩ := q
  obtain ⟨v, h1, rfl⟩ := (gPr_mem G lv i w).mp hq
  exact (h.2.2.2 i v h1).2
theorem lvh.get {G : gG} {nL : Nat} {lv : List (Option gV)} {ls : Array Slot} (h : lvh G nL lv ls) {k : Nat} {v : gV} (hk : gGet lv k = some v) : ls[k]? = some (.val (gz G v)) := (h.2.2.2 k v (gGet_spec _ _ _ hk)).2
theorem lvh.set {G : gG} {nL : Nat} {lv lv' : List (Option gV)} {ls ls' : Array Slot} {k : Nat} {v : gV} (h : lvh G nL lv ls) (hs : gSet lv k (some v) = some lv') (hc : gCat v = 1) (h' : lv_has ls' nL ((k, gz G v) :: (gPr G lv).filter (fun q => !(q.1 == k) && !(q.1 + 1 == k && q.2.category == 2)))) : lvh G nL lv' ls' := by
  obtain ⟨hk, rfl⟩ := gSet_spec _ _ _ _ hs
  refine ⟨h'.1, h'.2.1, by rw [List.length_set]; exact h.2.2.1, fun i w hw => ?_⟩
  by_cases hi : i = k
  · subst hi
    rw [List.getElem?_set_self hk] at hw
    cases hw
    exact ⟨hc, h'.2.2 (i, gz G v) List.mem_cons_self⟩
  · rw [List.getElem?_set_ne (Ne.symm hi)] at hw
    refine ⟨(h.2.2.2 i w hw).1, h'.2.2 (i, gz G w) (List.mem_cons_of_mem _ (List.mem_filter.mpr ⟨(gPr_mem G lv i _).mpr ⟨w, hw, rfl⟩, ?_⟩))⟩
    have h1 := (h.2.2.2 i w hw).1
    rw [← gz_cat G] at h1
    simp [hi, h1]
theorem lvh.drop {G : gG} {nL : Nat} {lv lv' : List (Option gV)} {ls ls' : Array Slot} {k : Nat} {x : Nat} (h : lvh G nL lv ls) (hs : gSet lv k none = some lv') (h' : lv_has ls' nL ((k, Value.ref x) :: (gPr G lv).filter (fun q => !(q.1 == k) && !(q.1 + 1 == k && q.2.category == 2)))) : lvh G nL lv' ls' := by
  obtain ⟨hk, rfl⟩ := gSet_spec _ _ _ _ hs
  refine ⟨h'.1, h'.2.1, by rw [List.length_set]; exact h.2.2.1, fun i w hw => ?_⟩
  by_cases hi : i = k
  · subst hi
    rw [List.getElem?_set_self hk] at hw
    cases hw
  · rw [List.getElem?_set_ne (Ne.symm hi)] at hw
    refine ⟨(h.2.2.2 i w hw).1, h'.2.2 (i, gz G w) (List.mem_cons_of_mem _ (List.mem_filter.mpr ⟨(gPr_mem G lv i _).mpr ⟨w, hw, rfl⟩, ?_⟩))⟩
    have h1 := (h.2.2.2 i w hw).1
    rw [← gz_cat G] at h1
    simp [hi, h1]
/-- which cells may change -/
def gA (G : gG) : Nat → Prop := fun q => gZ G < q
def gRp (G : gG) (h : gH) (H : Heap) : Prop := ∀ (i : Nat) (e : gE), h i = some e → 0 < i ∧ va_at (gD G) gCl (gZ G + i, gzE G e) H
def gN (G : gG) (N : Option Nat) (H : Heap) : Prop := ∀ n, N = some n → H.size = gZ G + n
/-- what stays, from the law's start on -/
def gEnv (G : gG) (U : State) : Prop :=
  va_K (gD G) gCl [] U ∧ (∀ (k : Nat) (ty : FieldType), gTy[k]? = some ty → ArrOfT U (gdA G k) ty ∧ va_RA U (gdA G k) ty) ∧
  vx_Zq Bundle.tN "UNASSIGNED_STACK" Bundle.steD (gA G) U U.heap ∧ vx_Zq Bundle.tN "SUPPRESSED_SENTINEL" Bundle.listD (gA G) U U.heap ∧
  (∀ (k : Nat) (q : String × Nat × String), gSt[k]? = some q → vk_R q.1 q.2.1 q.2.2 (gsa G k) U) ∧
  va_X (gb G) (gL G) (gxs G) U U.heap ∧ gb G ≤ gZ G ∧ gZ G < U.heap.size ∧
  (∀ C ∈ gAo, va_AO C U) ∧ (∀ q ∈ gNl, va_Nw (.methodLinkNest q.1 q.2.1 q.2.2.1 q.2.2.2) U) ∧ (∀ q ∈ gNc, va_Nc q.1 q.2 U) ∧
  (∀ q ∈ gCa, va_Nw (.castable q.1 q.2) U) ∧ ∀ y ∈ gDe, va_Nw (.declares y) U
theorem gEnv.move {G : gG} {s U : State} {locs : List Loc} (h : gEnv G s) (hS : va_S (gA G) s.heap U.heap locs) (hW : s.WarmedH U.vm) : gEnv G U := by
  obtain ⟨h1, h2, h3, h4, h5, h6, h7, h8, h9, h10, h11, h12, h13⟩ := h
  have hq : ∀ a : Nat, a < s.heap.size → ¬ gA G a → U.heap[a]? = s.heap[a]? := hS.2.1
  exact ⟨va_K.moved hW.alike h1, fun k ty hk => ⟨arrOfT_moved hW.alike (h2 k ty hk).1, (h2 k ty hk).2.moved hW.alike⟩, vx_Zq.moved hW.alike (vx_Zq.kept h3 hq), vx_Zq.moved hW.alike (vx_Zq.kept h4 hq), fun k q hk => vk_R.warm hW (h5 k q hk), va_X.moved hW.alike (va_X.kept h6 (hq _ (Nat.lt_of_le_of_lt h7 h8) (Nat.not_lt.mpr h7))), h7, Nat.lt_of_lt_of_le h8 hS.1, fun C hC => (h9 C hC).moved hW.alike, fun q hq => va_Nw.warmM hW (h10 q hq), fun q hq => (h11 q hq).moved hW.alike, fun q hq => va_Nw.warmC hW (h12 q hq), fun y hy => va_Nw.warmD hW (h13 y hy)⟩
theorem gEnv.blind {G : gG} {U : State} {g : JFrame} {mk : MethodId} {a : Array Value} (h : gEnv G U) : gEnv G (U.calling g mk a) := by
  obtain ⟨h1, h2, h3, h4, h5, h6, h7, h8, h9, h10, h11, h12, h13⟩ := h
  have hW : U.vm.Alike (U.calling g mk a).vm := Vm.Alike.refl U.vm
  exact ⟨va_K.moved hW h1, fun k ty hk => ⟨arrOfT_moved hW (h2 k ty hk).1, (h2 k ty hk).2.moved hW⟩, vx_Zq.moved hW h3, vx_Zq.moved hW h4, fun k q hk => vk_R.same rfl (h5 k q hk), va_X.moved hW h6, h7, h8, fun C hC => (h9 C hC).moved hW, fun q hq => va_Nw.same rfl rfl (h10 q hq), fun q hq => (h11 q hq).moved hW, fun q hq => va_Nw.same rfl rfl (h12 q hq), fun y hy => va_Nw.same rfl rfl (h13 y hy)⟩
/-- a method's words -/
def gWs (M : gM) : List Cond := gHd M :: gT
def gCx (G : gG) (M : gM) (κ : gK) : Prop := match κ with
  | (p, _, R, s, m, args, _, meth, c) => (gl G).stackTraces = false ∧ p.tables.exec = Jvm.exec ∧ c.code = mB M ∧ meth.sig.returnType = mR M ∧ c.maxLocals = mL M ∧ s.vm.findClass (mN M).cls = some m.cls ∧ (∀ w ∈ gT, w.before args s = true) ∧ meth.locks = false ∧ meth.name = (mN M).name ∧ mF M ≤ R.frames ∧ mO M ≤ R.locals ∧ c.exceptionTable.toList = tableOf (mH M) ∧ gEnv G s
def gHp (G : gG) (κ : gK) (N : Option Nat) (h : gH) (H : Heap) (locs : List Loc) : Prop := match κ with
  | (_, _, _, s, _, _, _, _, _) => gRp G h H ∧ gN G N H ∧ va_S (gA G) s.heap H locs
def gWk (G : gG) (κ : gK) (F : gK → State → Prop) (H : Heap) (locs : List Loc) (cells slots pc : Nat) (ls : Array Slot) (st : List Value) : Prop := match κ with
  | (p, e, R, s, m, args, below, meth, c) => W p (gl G) e R s m args below meth c H locs cells slots (F (p, e, R, s, m, args, below, meth, c)) (F0 m pc ls st)
def gRm (κ : gK) (cells slots c s : Nat) : Prop := match κ with
  | (_, _, R, _, _, _, _, _, _) => cells + c ≤ R.cells ∧ slots + s ≤ R.slots
def Go (G : gG) (M : gM) (F : gK → State → Prop) (pc : Nat) (lv : List (Option gV)) (st : List gV) (N : Option Nat) (h : gH) (c s : Nat) : Prop :=
  ∀ (κ : gK) (H : Heap) (locs : List Loc) (ls : Array Slot) (cells slots : Nat), gCx G M κ → gHp G κ N h H locs → lvh G (mL M) lv ls → gRm κ cells slots c s → gWk G κ F H locs cells slots pc ls (st.map (gz G))
