/-! the tree by its items; a node splits -/
def wd1 (S : mS) (l x : Nat) : Int := match l with
  | 0 => ml S x + (1 - mw S x) * 32768
  | l + 1 => (mb S l x : Int)
def wd2 (S : mS) (l x : Nat) : Int := match l with
  | 0 => mv S x
  | _ + 1 => 0
/-- word e of item x of level l -/
def it (S : mS) (l x e : Nat) : Int := if e = 0 then ms S (fr (mc S) l x) else if e = 1 then wd1 S l x else wd2 S l x
/-- a node has c items, from item a on -/
def Nd (A : cA) (o : Nat) (S : mS) (l c a : Nat) : Prop := aDp A o = (l : Int) ∧ aEn A o = (c : Int) ∧ ∀ j, j < c → ∀ e, e < 3 → aWf A o (j * 3 + e) = it S l (a + j) e
theorem ab_nd {A : cA} {t : Nat} {S : mS} : mAb A t S ↔ ∀ l, l ≤ md S → ∀ p, p < mK S l → Nd A (mb S l p) S l (mc S l p) (sm (mc S l) p) := by
  constructor
  · intro h l hl p hp
    obtain ⟨a, b, c⟩ := h l hl p hp
    refine ⟨a, b, fun j hj e he => ?_⟩
    obtain ⟨c1, c2, c3⟩ := c j hj
    match e, he with
    | 0, _ => exact c1
    | 1, _ =>
      refine c2.trans ?_
      cases l <;> rfl
    | 2, _ =>
      refine c3.trans ?_
      cases l <;> rfl
  · intro h l hl p hp
    obtain ⟨a, b, c⟩ := h l hl p hp
    refine ⟨a, b, fun j hj => ⟨c j hj 0 (by omega), (c j hj 1 (by omega)).trans ?_, (c j hj 2 (by omega)).trans ?_⟩⟩
    · cases l <;> rfl
    · cases l <;> rfl
/-- .. but perhaps the key of one entry -/
def NdX (A : cA) (o : Nat) (S : mS) (l c a : Nat) (ex : Nat → Prop) : Prop := aDp A o = (l : Int) ∧ aEn A o = (c : Int) ∧ ∀ j, j < c → ∀ e, e < 3 → ¬ (e = 0 ∧ ex j) → aWf A o (j * 3 + e) = it S l (a + j) e
theorem ndx_m {A : cA} {S : mS} {l p : Nat} {ex : Nat → Prop} (h : NdX A (mb S l p) S l (mc S l p) (sm (mc S l) p) ex) : mNd A S l p ex := by
  obtain ⟨a, b, c⟩ := h
  refine ⟨a, b, fun j hj => ⟨fun h9 => c j hj 0 (by omega) (fun z => h9 z.2), (c j hj 1 (by omega) (fun z => by omega)).trans ?_, (c j hj 2 (by omega) (fun z => by omega)).trans ?_⟩⟩
  · cases l <;> rfl
  · cases l <;> rfl
theorem Nd.X {A : cA} {o : Nat} {S : mS} {l c a : Nat} (h : Nd A o S l c a) (ex : Nat → Prop) : NdX A o S l c a ex := ⟨h.1, h.2.1, fun j hj e he _ => h.2.2 j hj e he⟩
/-- a node that isn't touched, or the same items under other numbers -/
theorem Nd.keep {A B : cA} {o : Nat} {S T : mS} {l c a a' : Nat} (h : Nd A o S l c a) (h1 : aDp B o = aDp A o) (h2 : aEn B o = aEn A o) (h3 : aWf B o = aWf A o) (h4 : ∀ j, j < c → ∀ e, e < 3 → it T l (a' + j) e = it S l (a + j) e) : Nd B o T l c a' :=
  ⟨h1.trans h.1, h2.trans h.2.1, fun j hj e he => by rw [h3, h4 j hj e he]; exact h.2.2 j hj e he⟩
theorem it_eq {S T : mS} {l x y e : Nat} (h1 : ms T (fr (mc T) l x) = ms S (fr (mc S) l y)) (h2 : wd1 T l x = wd1 S l y) (h3 : wd2 T l x = wd2 S l y) : it T l x e = it S l y e := by
  unfold it
  rw [h1, h2, h3]
section
variable {f : Nat → Int} {ent i x y z : Int} {j e : Nat}
theorem gIns_lo (hi : 0 ≤ i ∧ i ≤ ent) (he : e < 3) (hj : (j : Int) < i) : gIns f ent i x y z (j * 3 + e) = f (j * 3 + e) := by
  unfold gIns
  rw [gT3_n (by omega)]
  unfold gCp
  rw [if_neg (by omega)]
theorem gIns_at : gIns f ent i x y z (i * 3).toNat = x ∧ gIns f ent i x y z ((i * 3).toNat + 1) = y ∧ gIns f ent i x y z ((i * 3).toNat + 2) = z := gT3_at
theorem gIns_hi (hi : 0 ≤ i ∧ i ≤ ent) (he : e < 3) (hj : i ≤ j) (hj2 : (j : Int) < ent) : gIns f ent i x y z ((j + 1) * 3 + e) = f (j * 3 + e) := by
  unfold gIns
  rw [gT3_n (by omega)]
  unfold gCp
  rw [if_pos (by omega)]
  congr 1
  omega
end
section
variable {S : mS} {t m l p P h b : Nat}
theorem ssp_it {y x e : Nat} (hl : y ≤ l) : it (sSp S l p P h b) y x e = it S y x e := by
  refine it_eq ?_ ?_ ?_
  · rw [ssp_fl hl]
    rfl
  · cases y with
    | zero => rfl
    | succ y =>
      show ((mb (sSp S l p P h b) y x : Nat) : Int) = _
      rw [ssp_bo (by omega)]
      rfl
  · cases y <;> rfl
theorem ssp_it2 (o : SpO S m l p P h b) {y x e : Nat} (hl : l + 2 ≤ y) : it (sSp S l p P h b) y x e = it S y x e := by
  refine it_eq ?_ ?_ ?_
  · rw [ssp_f2 o y hl]
    rfl
  · cases y with
    | zero => rfl
    | succ y =>
      show ((mb (sSp S l p P h b) y x : Nat) : Int) = _
      rw [ssp_bo (by omega)]
      rfl
  · cases y <;> rfl
theorem ssp_it_lo {x e : Nat} (hx : x ≤ p) : it (sSp S l p P h b) (l + 1) x e = it S (l + 1) x e := by
  refine it_eq ?_ ?_ rfl
  · rw [ssp_f1_lo hx]
    rfl
  · show ((mb (sSp S l p P h b) l x : Nat) : Int) = _
    rw [ssp_bl, insN_lo (by omega)]
    rfl
theorem ssp_it_hi {x e : Nat} (hh : h ≤ mc S l p) (hx : p < x) : it (sSp S l p P h b) (l + 1) (x + 1) e = it S (l + 1) x e := by
  refine it_eq ?_ ?_ rfl
  · rw [ssp_f1_hi hh hx]
    rfl
  · show ((mb (sSp S l p P h b) l (x + 1) : Nat) : Int) = _
    rw [ssp_bl, insN_hi (by omega)]
    rfl
theorem ssp_it_at {e : Nat} (he : e < 3) : it (sSp S l p P h b) (l + 1) (p + 1) e = if e = 0 then it S l (sm (mc S l) p + h) 0 else if e = 1 then (b : Int) else 0 := by
  match e, he with
  | 0, _ =>
    show ms S (fr (mc (sSp S l p P h b)) (l + 1) (p + 1)) = ms S (fr (mc S) l (sm (mc S l) p + h))
    rw [ssp_f1_at]
  | 1, _ =>
    show ((mb (sSp S l p P h b) l (p + 1) : Nat) : Int) = _
    rw [ssp_bl, insN_at]
    rfl
  | 2, _ => rfl
end
section
variable {A : cA} {t k : Nat}
theorem sp_same : aDp (spA A t k) = aDp (spC A t k) ∧ aEn (spA A t k) = aEn (spC A t k) ∧ aWf (spA A t k) = aWf (spC A t k) ∧ aTk (spA A t k) = aTk (spC A t k) ∧ aRu (spA A t k) = aRu (spC A t k) ∧ aBl (spA A t k) = aBl (spC A t k) ∧ aMa (spA A t k) = aMa (spC A t k) ∧ aMw (spA A t k) = aMw (spC A t k) ∧ aLb (spA A t k) = aLb (spC A t k) ∧ aLe (spA A t k) = aLe (spC A t k) ∧ aM (spA A t k) = aM (spC A t k) := by
  unfold spA
  split
  · exact ⟨rfl, rfl, rfl, rfl, rfl, rfl, rfl, rfl, rfl, rfl, rfl⟩
  · exact ⟨rfl, rfl, rfl, rfl, rfl, rfl, rfl, rfl, rfl, rfl, rfl⟩
variable {o b q h : Nat}
theorem sp_oth (ho : aWy A t k = o) (hb : aFs A t k = b) (hq : aWy A t (k - 1) = q) (hh : ((aRm A o : Int) + 1) / 2 = h) {x : Nat} (h1 : x ≠ o) (h2 : x ≠ b) (h3 : x ≠ q) : aDp (spA A t k) x = aDp A x ∧ aEn (spA A t k) x = aEn A x ∧ aWf (spA A t k) x = aWf A x := by
  obtain ⟨s1, s2, s3, -⟩ := sp_same (A := A) (t := t) (k := k)
  rw [s1, s2, s3]
  unfold spC spB
  rw [ho, hb, hq, hh]
  refine ⟨?_, ?_, ?_⟩
  · show gF (gF (gF (aDp A) b _) o _) q _ x = _
    rw [gF_n h3, gF_n h1, gF_n h2]
  · show gF (gF (gF (aEn A) b _) o _) q _ x = _
    rw [gF_n h3, gF_n h1, gF_n h2]
  · show gF (gF (aWf A) b _) q _ x = _
    rw [gF_n h3, gF_n h2]
theorem sp_old (ho : aWy A t k = o) (hb : aFs A t k = b) (hq : aWy A t (k - 1) = q) (hh : ((aRm A o : Int) + 1) / 2 = h) (hob : o ≠ b) (hqo : q ≠ o) : aDp (spA A t k) o = aDp A o ∧ aEn (spA A t k) o = h ∧ aWf (spA A t k) o = aWf A o := by
  obtain ⟨s1, s2, s3, -⟩ := sp_same (A := A) (t := t) (k := k)
  rw [s1, s2, s3]
  unfold spC spB
  rw [ho, hb, hq, hh]
  refine ⟨?_, ?_, ?_⟩
  · show gF (gF (gF (aDp A) b _) o (aDp A o)) q _ o = _
    rw [gF_n (Ne.symm hqo), gF_s]
  · show gF (gF (gF (aEn A) b _) o _) q _ o = _
    rw [gF_n (Ne.symm hqo), gF_s]
  · show gF (gF (aWf A) b _) q _ o = _
    rw [gF_n (Ne.symm hqo), gF_n hob]
theorem sp_new (ho : aWy A t k = o) (hb : aFs A t k = b) (hq : aWy A t (k - 1) = q) (hh : ((aRm A o : Int) + 1) / 2 = h) (hob : o ≠ b) (hqb : q ≠ b) : aDp (spA A t k) b = aDp A o ∧ aEn (spA A t k) b = aEn A o - h ∧ aWf (spA A t k) b = gCp (aWf A o) (aWf A b) ((h : Int) * 3).toNat 0 ((aEn A o - h) * 3).toNat := by
  obtain ⟨s1, s2, s3, -⟩ := sp_same (A := A) (t := t) (k := k)
  rw [s1, s2, s3]
  unfold spC spB
  rw [ho, hb, hq, hh]
  refine ⟨?_, ?_, ?_⟩
  · show gF (gF (gF (aDp A) b (aDp A o)) o _) q _ b = _
    rw [gF_n (Ne.symm hqb), gF_n (Ne.symm hob), gF_s]
  · show gF (gF (gF (aEn A) b _) o _) q _ b = _
    rw [gF_n (Ne.symm hqb), gF_n (Ne.symm hob), gF_s]
  · show gF (gF (aWf A) b _) q _ b = _
    rw [gF_n (Ne.symm hqb), gF_s]
theorem sp_up (ho : aWy A t k = o) (hb : aFs A t k = b) (hq : aWy A t (k - 1) = q) (hh : ((aRm A o : Int) + 1) / 2 = h) (hob : o ≠ b) (hqo : q ≠ o) (hqb : q ≠ b) (hho : (h : Int) < aEn A o) : aDp (spA A t k) q = aDp A q ∧ aEn (spA A t k) q = aEn A q + 1 ∧ aWf (spA A t k) q = gIns (aWf A q) (aEn A q) (aPl A t (k - 1) + 1) (aWf A o (h * 3)) (nNo b) 0 := by
  obtain ⟨s1, s2, s3, -⟩ := sp_same (A := A) (t := t) (k := k)
  rw [s1, s2, s3]
  unfold spC spB
  rw [ho, hb, hq, hh]
  have eq : gF (gF (aEn A) b (aEn A o - h)) o h q = aEn A q := by rw [gF_n hqo, gF_n hqb]
  refine ⟨?_, ?_, ?_⟩
  · show gF (gF (gF (aDp A) b (aDp A o)) o _) q (gF (gF (aDp A) b (aDp A o)) o (aDp A o) q) q = _
    rw [gF_s, gF_n hqo, gF_n hqb]
  · show gF (gF (gF (aEn A) b (aEn A o - h)) o h) q (gF (gF (aEn A) b (aEn A o - h)) o h q + 1) q = _
    rw [gF_s, eq]
  · show gF (gF (aWf A) b (gCp (aWf A o) (aWf A b) ((h : Int) * 3).toNat 0 ((aEn A o - h) * 3).toNat)) q (gIns (gF (aWf A) b (gCp (aWf A o) (aWf A b) ((h : Int) * 3).toNat 0 ((aEn A o - h) * 3).toNat) q) (gF (gF (aEn A) b (aEn A o - h)) o h q) (aPl A t (k - 1) + 1) (gWd (gF (aWf A) b (gCp (aWf A o) (aWf A b) ((h : Int) * 3).toNat 0 ((aEn A o - h) * 3).toNat) b) (gF (gF (aEn A) b (aEn A o - h)) o h b) 0 0) (nNo b) 0) q = _
    rw [gF_s, gF_n hqb, eq, gF_s, gF_n (Ne.symm hob), gF_s, gWd_in (by omega)]
    have e1 : gCp (aWf A o) (aWf A b) ((h : Int) * 3).toNat 0 ((aEn A o - h) * 3).toNat ((0 : Int) * 3 + 0).toNat = aWf A o (h * 3) := by
      unfold gCp
      rw [if_pos (by omega)]
      congr 1
    rw [e1]
end
