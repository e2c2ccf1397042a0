/-! what a row of a method's table says, and how it is held against the bytes and the words -/
def gOkF (own : String) (idx k j : Nat) : Bool := match gCl[k]? with
  | some q => decide (j < q.2.2) && decide ((q.2.1 j).1 = q.1) && gIn (Cond.fieldLink own idx q.1 (q.2.1 j).2.1 (q.2.1 j).2.2.1)
  | none => false
def gOkP (M : gM) (k j : Nat) : Bool := match gCl[k]? with
  | some q => decide ((q.2.1 j).2.2.2 = false) || (decide ((mN M).name = "<init>") && decide ((mN M).cls = q.1))
  | none => false
def gOkN (own : String) (idx k : Nat) : Bool := match gCl[k]? with
  | some q => gIn (Cond.classLink own idx q.1) && gIn (Cond.instantiable q.1 q.2.2) && gIn (Cond.initialized q.1)
  | none => false
/-- what the tables must say of a call -/
def gOkC (M : gM) (k j : Nat) : Bool := match gMs[k]? with
  | some M' => decide (mH M' = []) && decide (mF M' + 1 ≤ mF M) && decide (8 + (mL M' + 11) + mO M' ≤ mO M) && decide ((mN M').cls ≠ "java/lang/invoke/MethodHandle") && decide ((mN M').cls ≠ "java/lang/invoke/VarHandle") && decide ((parseMethodDescriptor (mN M').desc).map (fun d => d.parameters.length) = some j) && gIn (Cond.initialized (mN M').cls)
  | none => false
def gOkV (M : gM) (idx k : Nat) : Bool := match gMs[k]? with
  | some M' => gIn (Cond.methodLink (mN M).cls idx (mN M')) && gIn (Cond.instanceMethod (mN M')) && gIn (Cond.selects (mN M').cls (mN M') (mN M'))
  | none => false
def gOkS (M : gM) (idx k : Nat) : Bool := match gMs[k]? with
  | some M' => gIn (Cond.methodLink (mN M).cls idx (mN M')) && gIn (Cond.static (mN M'))
  | none => false
def gOkSp (M : gM) (idx k : Nat) : Bool := match gMs[k]? with
  | some M' => gIn (Cond.methodLink (mN M).cls idx (mN M')) && gIn (Cond.instanceMethod (mN M')) && decide ((mN M').name = "<init>") && decide (mR M' = none)
  | none => false
def gMx (own : String) (idx : Nat) : List Cond := [.methodLink own idx Lib.Math.max.name, .static Lib.Math.max.name, .initialized "java/lang/Math", .code Lib.Math.max.name Lib.Math.max.code 2 (some .int)]
def gMn (own : String) (idx : Nat) : List Cond := [.methodLink own idx Lib.Math.min.name, .static Lib.Math.min.name, .initialized "java/lang/Math", .code Lib.Math.min.name Lib.Math.min.code 2 (some .int)]
def gCpy (own : String) (idx : Nat) : List Cond := [.methodLink own idx arraycopyName, .native arraycopyName, .static arraycopyName, .initialized "java/lang/System"]
def gObj (own : String) (idx : Nat) : List Cond := [.methodLink own idx Lib.objectInit, .instanceMethod Lib.objectInit, .code Lib.objectInit ⟨#[0xb1]⟩ 1 none]
def gOkW (ws : List Cond) : Bool := ws.all gIn
theorem gOkW_spec {ws : List Cond} (h : gOkW ws = true) {w : Cond} (hw : w ∈ ws) : w ∈ gT := gIn_spec (List.all_eq_true.mp h w hw)
def gOkNl (M : gM) (idx k : Nat) : Bool := match gMs[k]? with
  | some M' => gNl.any (fun q => decide (q.1 = (mN M).cls) && decide (q.2.1 = idx) && decide (q.2.2.1 = mN M')) && gIn (Cond.static (mN M'))
  | none => false
def gOkI (M : gM) (q : gI) : Bool := match q with
  | (pc, i, _, z, k, j) => match i with
    | .iconst n => decide (n = z)
    | .bipush n => decide ((Int8.ofInt n).toInt32 = Int32.ofInt z)
    | .sipush n => decide ((Int16.ofInt n).toInt32 = Int32.ofInt z)
    | .ldc idx => decide (j = 1) || gIn (Cond.constant (mN M).cls idx (Int32.ofInt z))
    | .iload_n n => decide (n.val = k)
    | .aload_n n => decide (n.val = k)
    | .istore_n n => decide (n.val = k)
    | .astore_n n => decide (n.val = k)
    | .iload n => decide (n = k)
    | .aload n => decide (n = k)
    | .istore n => decide (n = k)
    | .astore n => decide (n = k)
    | .iinc n d => decide (n = k) && decide (d = z)
    | .ifCond _ off => decide ((pc : Int) + off = k)
    | .if_icmp _ off => decide ((pc : Int) + off = k)
    | .goto off => decide ((pc : Int) + off = k)
    | .getfield idx => gOkF (mN M).cls idx k j
    | .putfield idx => gOkF (mN M).cls idx k j && gOkP M k j
    | .new idx => decide (j = 1) || gOkN (mN M).cls idx k
    | .newarray t => (match gTy[k]? with | some ty => decide (newarray.typeOf t = ty) && gIn (Cond.arrayClass ty) | none => false)
    | .anewarray idx => (match gTy[k]? with | some (.object C) => gIn (Cond.classLink (mN M).cls idx C) && decide (C ∈ gAo) | _ => false)
    | .invokevirtual idx => gOkC M k j && gOkV M idx k
    | .invokespecial idx => decide (z = 2) || (if z = 1 then gOkW (gObj (mN M).cls idx) && decide (1 ≤ mF M) && decide (20 ≤ mO M) else gOkC M k j && gOkSp M idx k)
    | .invokestatic idx => if z = 0 then gOkC M k j && gOkS M idx k && (match gMs[k]? with | some M' => decide ((mN M').cls = (mN M).cls) | none => false)
        else if z = 1 then gOkW (gMx (mN M).cls idx) && decide (1 ≤ mF M) && decide (21 ≤ mO M)
        else if z = 2 then gOkW (gMn (mN M).cls idx) && decide (1 ≤ mF M) && decide (21 ≤ mO M)
        else if z = 3 then gOkW (gCpy (mN M).cls idx) && decide (1 ≤ mF M) && decide (8 + (nativeFrameWords "java/lang/System" "arraycopy" 5 + 11) ≤ mO M)
        else if z = 4 then gOkC M k j && gOkNl M idx k
        else true
    | _ => true
def gOkQ (M : gM) (q : gI) : Bool := decide (decode (mB M) q.1 = .ok (q.2.1, q.2.2.1 - q.1)) && (decide (gLen q.2.1 = 0) || decide (q.2.2.1 = q.1 + gLen q.2.1)) && decide (q.1 < q.2.2.1) && gOkI M q
def gOk (M : gM) : Prop := ∀ q ∈ mT M, gOkQ M q = true
theorem gdec {M : gM} {pc pc0 nx k j : Nat} {i : Instr} {z : Int} (hM : gOk M) (hq : gAt (mT M) pc = some (pc0, i, nx, z, k, j)) : pc0 = pc ∧ decode (mB M) pc = .ok (i, nx - pc) ∧ (gLen i = 0 ∨ nx = pc + gLen i) ∧ pc < nx ∧ gOkI M (pc, i, nx, z, k, j) = true := by
  obtain ⟨h1, h2⟩ := gAt_spec _ _ _ hq
  dsimp only at h2
  subst h2
  have h3 := hM _ h1
  simp only [gOkQ, Bool.and_eq_true, Bool.or_eq_true, decide_eq_true_eq] at h3
  exact ⟨rfl, h3.1.1.1, h3.1.1.2, h3.1.2, h3.2⟩
theorem gdec' {M : gM} {pc pc0 nx k j len : Nat} {i : Instr} {z : Int} (hM : gOk M) (hq : gAt (mT M) pc = some (pc0, i, nx, z, k, j)) (hl : gLen i = len) (h0 : 0 < len) : decode (mB M) pc = .ok (i, len) ∧ nx = pc + len ∧ gOkI M (pc, i, nx, z, k, j) = true := by
  obtain ⟨h1, h2, h3, h4, h5⟩ := gdec hM hq
  rw [hl] at h3
  have e : nx = pc + len := h3.resolve_left (by omega)
  exact ⟨by rw [h2, e]; congr 2; omega, e, h5⟩
/-- one step that needs no cell -/
def gStep1 (q : gI) (lv : List (Option gV)) (st : List gV) : Option (Nat × List (Option gV) × List gV) := match q with
  | (_, i, nx, z, k, _) => match i with
    | .iconst _ => some (nx, lv, .inl z :: st)
    | .bipush _ => some (nx, lv, .inl z :: st)
    | .sipush _ => some (nx, lv, .inl z :: st)
    | .iload_n _ => (match gGet lv k with | some (.inl a) => some (nx, lv, .inl a :: st) | _ => none)
    | .iload _ => (match gGet lv k with | some (.inl a) => some (nx, lv, .inl a :: st) | _ => none)
    | .aload_n _ => (match gGet lv k with | some (.inr (.inr (some a))) => some (nx, lv, .inr (.inr (some a)) :: st) | _ => none)
    | .aload _ => (match gGet lv k with | some (.inr (.inr (some a))) => some (nx, lv, .inr (.inr (some a)) :: st) | _ => none)
    | .istore_n _ => (match st with | .inl a :: r => (match gSet lv k (some (.inl a)) with | some lv' => some (nx, lv', r) | none => none) | _ => none)
    | .istore _ => (match st with | .inl a :: r => (match gSet lv k (some (.inl a)) with | some lv' => some (nx, lv', r) | none => none) | _ => none)
    | .astore_n _ => (match st with | .inr (.inr (some a)) :: r => (match gSet lv k (some (.inr (.inr (some a)))) with | some lv' => some (nx, lv', r) | none => none) | _ => none)
    | .astore _ => (match st with | .inr (.inr (some a)) :: r => (match gSet lv k (some (.inr (.inr (some a)))) with | some lv' => some (nx, lv', r) | none => none) | _ => none)
    | .iinc _ _ => (match gGet lv k with | some (.inl a) => (match gSet lv k (some (.inl (a + z))) with | some lv' => some (nx, lv', st) | none => none) | _ => none)
    | .iadd => (match st with | .inl b :: .inl a :: r => some (nx, lv, .inl (a + b) :: r) | _ => none)
    | .isub => (match st with | .inl b :: .inl a :: r => some (nx, lv, .inl (a - b) :: r) | _ => none)
    | .imul => (match st with | .inl b :: .inl a :: r => some (nx, lv, .inl (a * b) :: r) | _ => none)
    | .ineg => (match st with | .inl a :: r => some (nx, lv, .inl (-a) :: r) | _ => none)
    | .dup => (match st with | .inl a :: r => some (nx, lv, .inl a :: .inl a :: r) | .inr (.inr a) :: r => some (nx, lv, .inr (.inr a) :: .inr (.inr a) :: r) | _ => none)
    | .pop => (match st with | .inl _ :: r => some (nx, lv, r) | .inr (.inr _) :: r => some (nx, lv, r) | _ => none)
    | .goto _ => some (k, lv, st)
    | _ => none
def gStep (M : gM) (pc : Nat) (lv : List (Option gV)) (st : List gV) : Option (Nat × List (Option gV) × List gV) := match gAt (mT M) pc with
  | some q => gStep1 q lv st
  | none => none
theorem gI_inj {a b : Int} (ha : -2147483648 ≤ a ∧ a ≤ 2147483647) (hb : -2147483648 ≤ b ∧ b ≤ 2147483647) : Int32.ofInt a = Int32.ofInt b ↔ a = b := by
  rw [← Int32.toInt_inj, Int32.toInt_ofInt_of_le (by omega) (by omega), Int32.toInt_ofInt_of_le (by omega) (by omega)]
theorem gI_lt {a b : Int} (ha : -2147483648 ≤ a ∧ a ≤ 2147483647) (hb : -2147483648 ≤ b ∧ b ≤ 2147483647) : Int32.ofInt a < Int32.ofInt b ↔ a < b := by
  rw [Int32.lt_iff_toInt_lt, Int32.toInt_ofInt_of_le (by omega) (by omega), Int32.toInt_ofInt_of_le (by omega) (by omega)]
theorem gI_le {a b : Int} (ha : -2147483648 ≤ a ∧ a ≤ 2147483647) (hb : -2147483648 ≤ b ∧ b ≤ 2147483647) : Int32.ofInt a ≤ Int32.ofInt b ↔ a ≤ b := by
  rw [Int32.le_iff_toInt_le, Int32.toInt_ofInt_of_le (by omega) (by omega), Int32.toInt_ofInt_of_le (by omega) (by omega)]
theorem gI_cl {a : Int} (h0 : 0 ≤ a) (h1 : a ≤ 2147483647) : (Int32.ofInt a).toNatClampNeg = a.toNat := by
  rw [Int32.toNatClampNeg_ofInt_of_le (by omega) (by omega)]
theorem gI_in {a : Int} {n : Nat} (h0 : 0 ≤ a) (h1 : a < n) (hn : n ≤ 2147483647) : vp_in (Int32.ofInt a) n := by
  unfold vp_in
  rw [gI_cl h0 (by omega)]
  rintro (h | h)
  · have := (gI_lt (b := 0) (by omega) (by omega)).mp h
    omega
  · omega
section
variable {G : gG} {M : gM} {F : gK → State → Prop} {pc pc' : Nat} {lv lv' : List (Option gV)} {st st' : List gV} {N : Option Nat} {h : gH} {c s : Nat}
set_option maxHeartbeats 4000000 in
theorem go_pure (hM : gOk M) (hs : gStep M pc lv st = some (pc', lv', st')) (kk : Go G M F pc' lv' st' N h c s) : Go G M F pc lv st N h c s := by
  intro κ H locs ls cells slots hC hH hl hr
  obtain ⟨p, e, R, s0, m, args, below, meth, cd⟩ := κ
  have K : ∀ ls, lvh G (mL M) lv' ls → W p (gl G) e R s0 m args below meth cd H locs cells slots (F (p, e, R, s0, m, args, below, meth, cd)) (F0 m pc' ls (st'.map (gz G))) := fun ls hl => kk _ H locs ls cells slots hC hH hl hr
  show W p (gl G) e R s0 m args below meth cd H locs cells slots (F (p, e, R, s0, m, args, below, meth, cd)) (F0 m pc ls (st.map (gz G)))
  obtain ⟨-, hx, hb, hrt, hml, hown, hts, -⟩ := hC
  have hnL : ∀ k v lv2, gSet lv k v = some lv2 → k < mL M := fun k v lv2 h9 => Nat.lt_of_lt_of_le (gSet_spec _ _ _ _ h9).1 hl.2.2.1
  unfold gStep at hs
  cases hq : gAt (mT M) pc with
  | none => rw [hq] at hs; cases hs
  | some q =>
    rw [hq] at hs
    obtain ⟨pc0, i, nx, z, k, j⟩ := q
    dsimp only at hs
    have D := fun len (h9 : gLen i = len) (h0 : 0 < len) => gdec' hM hq h9 h0
    cases i
    case iconst n =>
      obtain ⟨hd, rfl, ho⟩ := D 1 rfl (by decide)
      simp only [gStep1] at hs
      cases hs
      exact lv_iconst hx hb hd (by rw [show n = z by simpa [gOkI] using ho]) (K ls hl)
    case bipush n =>
      obtain ⟨hd, rfl, ho⟩ := D 2 rfl (by decide)
      simp only [gStep1] at hs
      cases hs
      exact lv_bipush hx hb hd (by simpa [gOkI] using ho) (K ls hl)
    case sipush n =>
      obtain ⟨hd, rfl, ho⟩ := D 3 rfl (by decide)
      simp only [gStep1] at hs
      cases hs
      exact lv_sipush hx hb hd (by simpa [gOkI] using ho) (K ls hl)
    case iload_n n =>
      obtain ⟨hd, rfl, ho⟩ := D 1 rfl (by decide)
      simp only [gStep1] at hs
      split at hs
      next a hg =>
        cases hs
        exact lv_iload_n hx hb hd (by simpa [gOkI] using ho) (hl.get hg) (K ls hl)
      next => cases hs
    case iload n =>
      obtain ⟨hd, rfl, ho⟩ := D 2 rfl (by decide)
      have ho : n = k := by simpa [gOkI] using ho
      subst ho
      simp only [gStep1] at hs
      split at hs
      next a hg =>
        cases hs
        exact lv_iload hx hb hd (hl.get hg) (K ls hl)
      next => cases hs
    case aload_n n =>
      obtain ⟨hd, rfl, ho⟩ := D 1 rfl (by decide)
      simp only [gStep1] at hs
      split at hs
      next a hg =>
        cases hs
        exact lv_aload_n hx hb hd (by simpa [gOkI] using ho) (hl.get hg) (K ls hl)
      next => cases hs
    case aload n =>
      obtain ⟨hd, rfl, ho⟩ := D 2 rfl (by decide)
      have ho : n = k := by simpa [gOkI] using ho
      subst ho
      simp only [gStep1] at hs
      split at hs
      next a hg =>
        cases hs
        exact lv_aload hx hb hd (hl.get hg) (K ls hl)
      next => cases hs
    case istore_n n =>
      obtain ⟨hd, rfl, ho⟩ := D 1 rfl (by decide)
      have ho : n.val = k := by simpa [gOkI] using ho
      simp only [gStep1] at hs
      split at hs
      next a r =>
        split at hs
        next lv2 hg =>
          cases hs
          exact lv_istore_n hx hb hd ho hl.has (hnL _ _ _ hg) rfl (fun ls' h' => K ls' (hl.set hg rfl h'))
        next => cases hs
      next => cases hs
    case istore n =>
      obtain ⟨hd, rfl, ho⟩ := D 2 rfl (by decide)
      have ho : n = k := by simpa [gOkI] using ho
      subst ho
      simp only [gStep1] at hs
      split at hs
      next a r =>
        split at hs
        next lv2 hg =>
          cases hs
          exact lv_istore hx hb hd hl.has (hnL _ _ _ hg) rfl (fun ls' h' => K ls' (hl.set hg rfl h'))
        next => cases hs
      next => cases hs
    case astore_n n =>
      obtain ⟨hd, rfl, ho⟩ := D 1 rfl (by decide)
      have ho : n.val = k := by simpa [gOkI] using ho
      simp only [gStep1] at hs
      split at hs
      next a r =>
        split at hs
        next lv2 hg =>
          cases hs
          exact lv_astore_n hx hb hd ho hl.has (hnL _ _ _ hg) rfl (fun ls' h' => K ls' (hl.set hg rfl h'))
        next => cases hs
      next => cases hs
    case astore n =>
      obtain ⟨hd, rfl, ho⟩ := D 2 rfl (by decide)
      have ho : n = k := by simpa [gOkI] using ho
      subst ho
      simp only [gStep1] at hs
      split at hs
      next a r =>
        split at hs
        next lv2 hg =>
          cases hs
          exact lv_astore hx hb hd hl.has (hnL _ _ _ hg) rfl (fun ls' h' => K ls' (hl.set hg rfl h'))
        next => cases hs
      next => cases hs
    case iinc n d =>
      obtain ⟨hd, rfl, ho⟩ := D 3 rfl (by decide)
      have ho : n = k ∧ d = z := by simpa [gOkI] using ho
      obtain ⟨rfl, rfl⟩ := ho
      simp only [gStep1] at hs
      split at hs
      next a hg =>
        split at hs
        next lv2 hg2 =>
          cases hs
          obtain ⟨n9, h9⟩ := List.getElem?_of_mem ((gPr_mem G lv n _).mpr ⟨_, gGet_spec _ _ _ hg, rfl⟩)
          exact lv_iinc (v := Int32.ofInt (a + d)) hx hb hd hl.has h9 (by rw [Int32.ofInt_add]) (hnL _ _ _ hg2) rfl (fun ls' h' => K ls' (hl.set hg2 rfl h'))
        next => cases hs
      next => cases hs
    case iadd =>
      obtain ⟨hd, rfl, ho⟩ := D 1 rfl (by decide)
      simp only [gStep1] at hs
      split at hs
      next b a r =>
        cases hs
        refine lv_iadd hx hb hd ?_
        rw [← Int32.ofInt_add]
        exact K ls hl
      next => cases hs
    case isub =>
      obtain ⟨hd, rfl, ho⟩ := D 1 rfl (by decide)
      simp only [gStep1] at hs
      split at hs
      next b a r =>
        cases hs
        refine lv_isub hx hb hd ?_
        rw [← Int32.ofInt_sub]
        exact K ls hl
      next => cases hs
    case imul =>
      obtain ⟨hd, rfl, ho⟩ := D 1 rfl (by decide)
      simp only [gStep1] at hs
      split at hs
      next b a r =>
        cases hs
        refine lv_imul hx hb hd ?_
        rw [← Int32.ofInt_mul]
        exact K ls hl
      next => cases hs
    case ineg =>
      obtain ⟨hd, rfl, ho⟩ := D 1 rfl (by decide)
      simp only [gStep1] at hs
      split at hs
      next a r =>
        cases hs
        refine lv_ineg hx hb hd ?_
        rw [← Int32.ofInt_neg]
        exact K ls hl
      next => cases hs
    case dup =>
      obtain ⟨hd, rfl, ho⟩ := D 1 rfl (by decide)
      simp only [gStep1] at hs
      split at hs
      next a r =>
        cases hs
        exact lv_dup hx hb hd rfl (K ls hl)
      next a r =>
        cases hs
        exact lv_dup hx hb hd (by cases a <;> rfl) (K ls hl)
      next => cases hs
    case pop =>
      obtain ⟨hd, rfl, ho⟩ := D 1 rfl (by decide)
      simp only [gStep1] at hs
      split at hs
      next a r =>
        cases hs
        exact lv_pop hx hb hd rfl (K ls hl)
      next a r =>
        cases hs
        exact lv_pop hx hb hd (by cases a <;> rfl) (K ls hl)
      next => cases hs
    case goto off =>
      obtain ⟨hd, rfl, ho⟩ := D 3 rfl (by decide)
      simp only [gStep1] at hs
      cases hs
      exact lv_goto hx hb hd (by simpa [gOkI] using ho) (K ls hl)
    all_goals (simp [gStep1] at hs)
end
