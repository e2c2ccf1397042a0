/-! the root grows, a run comes in, a run changes: with all files in view -/
section
variable {A : cA} {SS : Nat → mS} {F : Nat → Prop} {S : mS} {t m k l p P h b j : Nat} {i x n v w : Int}
theorem CX.nob (hc : CX A SS F) (ht : t < 4) (hF : F b) : ∀ k q, k ≤ md (SS t) → q < mK (SS t) k → mb (SS t) k q ≠ b := by
  have hs := (hc.2.1 t ht).1
  have hb2 := hc.2.2.2.2.1 b hF
  intro y q hy hq e
  by_cases h1 : y < md (SS t)
  · exact (hc.fre (t := t) hF).2 t y q ⟨ht, h1, hq, e⟩
  · have h3 : y = md (SS t) := by omega
    subst h3
    have h4 := hs.2.1
    rw [show q = 0 by omega, hs.2.2.1] at e
    omega
/-- a node of the file is no other file's; if it is no root, the file has it -/
theorem CX.node (hc : CX A SS F) (ht : t < 4) {y q : Nat} (hy : y ≤ md (SS t)) (hq : q < mK (SS t) y) : ¬ Oth SS t (mb (SS t) y q) ∧ (mb (SS t) y q < 256 → Own (SS t) (mb (SS t) y q)) := by
  have hs := (hc.2.1 t ht).1
  by_cases h1 : y < md (SS t)
  · have ho : Own (SS t) (mb (SS t) y q) := ⟨y, q, h1, hq, rfl⟩
    exact ⟨hc.own ht ho, fun _ => ho⟩
  · have h3 : y = md (SS t) := by omega
    subst h3
    have h4 := hs.2.1
    rw [show q = 0 by omega, hs.2.2.1]
    exact ⟨hc.root, fun z => by omega⟩
theorem sgw_own (hs : mSh S t m) (x : Nat) : Own (sGw S t b) x ↔ Own S x ∨ x = b := by
  constructor
  · rintro ⟨y, z, h1, h2, h3⟩
    have h1 : y < md S + 1 := h1
    rcases sgw_old hs (Nat.le_of_lt h1) h2 with ⟨a1, a2, a3⟩ | ⟨a1, a2, a3⟩ | ⟨a1, a2, a3⟩
    · omega
    · exact Or.inr (by rw [← h3, a3])
    · exact Or.inl ⟨y, z, a1, a2, by rw [← a3, h3]⟩
  · rintro (⟨y, r, h1, h2, h3⟩ | h1)
    · exact ⟨y, r, show y < md S + 1 by omega, by rw [sgw_ko (by omega)]; exact h2, by rw [sgw_bo h1]; exact h3⟩
    · exact ⟨md S, 0, show md S < md S + 1 by omega, by rw [sgw_ko (Nat.le_refl _), hs.2.1]; exact Nat.zero_lt_one, by rw [sgw_bd]; exact h1.symm⟩
theorem gw_tk : aTk (gw2 (gw1 A t b) t l b) = aTk A := by
  have e1 : aTk (gwB A t b) = aTk A := by
    show gF (gF (aTk A) b (aTk A b)) (256 + t) (aTk A (256 + t)) = _
    rw [gF_same, gF_same]
  have e2 : aTk (gwC A t b) = aTk A := by
    show gF (aTk (gwB A t b)) (256 + t) (aTk (gwB A t b) (256 + t)) = _
    rw [gF_same, e1]
  show gF (aTk (gwC A t b)) (256 + t) (aTk (gwC A t b) (256 + t)) = _
  rw [gF_same, e2]
theorem gw_oth {y : Nat} (x1 : y ≠ b) (x2 : y ≠ 256 + t) : aDp (gw2 (gw1 A t b) t l b) y = aDp A y ∧ aEn (gw2 (gw1 A t b) t l b) y = aEn A y ∧ aWf (gw2 (gw1 A t b) t l b) y = aWf A y := by
  refine ⟨?_, ?_, ?_⟩
  · show gF (gF (gF (gF (aDp A) b _) (256 + t) _) (256 + t) _) (256 + t) _ y = _
    rw [gF_n x2, gF_n x2, gF_n x2, gF_n x1]
  · show gF (gF (gF (gF (aEn A) b _) (256 + t) _) (256 + t) _) (256 + t) _ y = _
    rw [gF_n x2, gF_n x2, gF_n x2, gF_n x1]
  · show gF (gF (aWf A) b _) (256 + t) _ y = _
    rw [gF_n x2, gF_n x1]
theorem gw_num (hne : b ≠ 256 + t) : aRu (gw2 (gw1 A t b) t l b) = aRu A ∧ aBl (gw2 (gw1 A t b) t l b) = gF (aBl A) t (aBl A t + 1) ∧ aMa (gw2 (gw1 A t b) t l b) = aMa A ∧ aMw (gw2 (gw1 A t b) t l b) = aMw A ∧ aLb (gw2 (gw1 A t b) t l b) = gF (aLb A) t (if aDp A (256 + t) = 0 then aLb A t + 1 else aLb A t) ∧ aLe (gw2 (gw1 A t b) t l b) = aLe A ∧ aM (gw2 (gw1 A t b) t l b) = aM A ∧ aFs (gw2 (gw1 A t b) t l b) t = shf (aFs A t) 0 l := by
  refine ⟨gF_same _ _, rfl, gF_same _ _, gF_same _ _, ?_, rfl, rfl, fH_fs⟩
  show gF (aLb A) t (if aDp (mvA A (256 + t) 0 b) b = 0 then aLb A t + 1 else aLb A t) = _
  rw [mv_dpj hne]
/-- the root grows -/
theorem CX.grow (hc : CX A SS F) (ht : t < 4) (hS : SS t = S) (hw : WyTo A t S i) (hi : -1 ≤ i ∧ i < mn S) (hd : md S < 5) (hr1 : 1 ≤ mc S (md S) 0) (hF : F b) : CX (gw2 (gw1 A t b) t (md S) b) (gF SS t (sGw S t b)) (fun x => F x ∧ x ≠ b) ∧ WyTo (gw2 (gw1 A t b) t (md S) b) t (sGw S t b) i := by
  subst hS
  obtain ⟨hs, hr, ha, u1, u2, u3⟩ := hc.2.1 t ht
  have hj := hc.inj ht
  have hb2 := hc.2.2.2.2.1 b hF
  have hm := hc.1.1
  obtain ⟨nb1, nb2⟩ := hc.fre (t := t) hF
  have hb3 := hc.nob ht hF
  obtain ⟨hab, hwy, ok'⟩ := ab_grow hc.1 ht hs hj ha hw hi hd hr1 (by omega) hb3
  refine ⟨?_, hwy⟩
  obtain ⟨n1, n2, n3, n4, n5, n6, n7, n8⟩ := gw_num (A := A) (t := t) (b := b) (l := md (SS t)) (by omega)
  have d0 : aDp A (256 + t) = md (SS t) := by
    have := (ha (md (SS t)) (Nat.le_refl _) 0 (by have := hs.2.1; omega)).1
    rw [hs.2.2.1] at this
    exact this
  refine hc.step ht ok' n7 ⟨by rw [n7]; exact sgw_sh hs hd (by omega) (by omega) hr1, hr, hab, by rw [n1]; exact u1, ?_, ?_⟩ (sgw_inj hs hj (by omega) hb3) (fun t' ht' => ⟨by rw [n1], by rw [n2, gF_n ht'], by rw [n5, gF_n ht']⟩) (fun x hx => ?_) (fun x hx => ?_) (fun x x1 x2 hx => ?_) (fun x hx => hc.2.2.2.2.1 x hx.1) (fun x hx => (hc.fre hx.1).1) (by rw [gw_tk]; exact hc.2.2.2.2.2.1) (by rw [gw_tk, n6]; exact hc.2.2.2.2.2.2)
  · rw [n2, gF_s, u2]
    show ((sm (mK (SS t)) (md (SS t)) : Nat) : Int) + 1 = ((sm (mK (sGw (SS t) t b)) (md (SS t)) + mK (sGw (SS t) t b) (md (SS t)) : Nat) : Int)
    rw [sgw_ko (Nat.le_refl _), hs.2.1, sm_congr (g := mK (SS t)) (fun p hp => sgw_ko (by omega))]
    omega
  · rw [n5, gF_s, u3, d0]
    show _ = if md (SS t) + 1 = 0 then (0 : Int) else ((mK (sGw (SS t) t b) 0 : Nat) : Int)
    rw [if_neg (show ¬ md (SS t) + 1 = 0 by omega), sgw_ko (by omega)]
    by_cases h9 : md (SS t) = 0
    · have h8 := hs.2.1
      rw [h9] at h8
      rw [if_pos (show ((md (SS t) : Nat) : Int) = 0 by omega), if_pos h9, h8]
      rfl
    · rw [if_neg (show ¬ ((md (SS t) : Nat) : Int) = 0 by omega), if_neg h9]
  · obtain ⟨y1, y2, y3⟩ := gw_oth (A := A) (t := t) (b := b) (l := md (SS t)) (y := x) (fun z => nb1 (z ▸ hx)) (fun z => hc.root (z ▸ hx))
    exact ⟨y1, y2, y3, by rw [gw_tk]⟩
  · rcases (sgw_own hs x).mp hx with z | z
    · exact hc.own ht z
    · rw [z]
      exact nb1
  · have g := hc.ownF ht x1 x2 hx
    have hoS : Own (sGw (SS t) t b) x ↔ Own (SS t) x ∨ x = b := sgw_own hs x
    unfold bOk at g ⊢
    rw [gw_tk, hoS]
    by_cases e : x = b
    · subst e
      rcases g with ⟨g1, _⟩ | ⟨_, _, g3, _⟩
      · exact Or.inl ⟨g1, Or.inr ⟨fun z => z.2 rfl, Or.inr rfl⟩⟩
      · exact absurd hF g3
    · rcases g with ⟨g1, ⟨g2, g3⟩ | ⟨g2, g3⟩⟩ | ⟨g1, g2, g3, g4⟩
      · exact Or.inl ⟨g1, Or.inl ⟨⟨g2, e⟩, fun z => z.elim g3 e⟩⟩
      · exact Or.inl ⟨g1, Or.inr ⟨fun z => g2 z.1, Or.inl g3⟩⟩
      · refine Or.inr ⟨g1, ?_, fun z => g3 z.1, fun z => z.elim g4 e⟩
        rw [(gw_oth (A := A) (t := t) (b := b) (l := md (SS t)) (y := x) e (by omega)).2.1]
        exact g2
/-- the words of some nodes of the file change: no block comes or goes -/
theorem CX.same {B : cA} {S' : mS} (hc : CX A SS F) (ht : t < 4) (hd : md S' = md (SS t)) (hK : mK S' = mK (SS t)) (hb : mb S' = mb (SS t)) (ok : aOk B) (hM : aM B = aM A) (hf : fOk B t S') (hn : ∀ t', t' ≠ t → aRu B t' = aRu A t' ∧ aBl B t' = aBl A t' ∧ aLb B t' = aLb A t') (hx : ∀ x, (∀ y q, y ≤ md (SS t) → q < mK (SS t) y → x ≠ mb (SS t) y q) → aDp B x = aDp A x ∧ aEn B x = aEn A x ∧ aWf B x = aWf A x) (htk : aTk B = aTk A) (hle : aLe B = aLe A) : CX B (gF SS t S') F := by
  have hs := (hc.2.1 t ht).1
  have hj := hc.inj ht
  have own : ∀ x, Own S' x ↔ Own (SS t) x := by
    intro x
    unfold Own
    rw [hd, hK, hb]
  have hj' : mInj S' := by
    unfold mInj
    rw [hd, hK, hb]
    exact hj
  refine hc.step ht ok hM hf hj' hn (fun x h9 => ?_) (fun x h9 => hc.own ht ((own x).mp h9)) (fun x x1 x2 h9 => ?_) hc.2.2.2.2.1 (fun x h9 => (hc.fre h9).1) (by rw [htk]; exact hc.2.2.2.2.2.1) (by rw [htk, hle]; exact hc.2.2.2.2.2.2)
  · obtain ⟨y1, y2, y3⟩ := hx x (fun y q hy hq z => (hc.node ht hy hq).1 (z ▸ h9))
    exact ⟨y1, y2, y3, by rw [htk]⟩
  · have g := hc.ownF ht x1 x2 h9
    have ho := own x
    unfold bOk at g ⊢
    rw [htk, ho]
    rcases g with g | ⟨g1, g2, g3, g4⟩
    · exact Or.inl g
    · refine Or.inr ⟨g1, ?_, g3, g4⟩
      rw [(hx x (fun y q hy hq z => g4 (by rw [z]; exact (hc.node ht hy hq).2 (by omega)))).2.1]
      exact g2
/-- a run comes in -/
theorem CX.ins (hc : CX A SS F) (ht : t < 4) (hS : SS t = S) (hw : WyTo A t S i) (hi : -1 ≤ i ∧ i < mn S) (hjj : (j : Int) = i + 1) (hp : p = mQ S i.toNat 1) (hroom : mc S 0 p < if 0 = md S then 4 else aM A) (hx : 0 ≤ x ∧ x ≤ 65536) (hn : 0 ≤ n ∧ n ≤ 32768) (hv : 0 ≤ v ∧ v ≤ 16777216) (hww : w = 0 ∨ w = 1) (hr' : mRn (sIn S j p x n v w)) :
    LeafOk A t (md S) ∧ CX (irF A t (md S) x n v w) (gF SS t (sIn S j p x n v w)) F := by
  subst hS
  obtain ⟨hs, hr, ha, u1, u2, u3⟩ := hc.2.1 t ht
  obtain ⟨h1, h2, h3⟩ := ab_ins hc.1 ht hs (hc.inj ht) ha hw hi hjj hp hroom hx hn hv hww
  refine ⟨h1, ?_⟩
  obtain ⟨r1, r2, r3, r4, r5, r6, r7, r8, r9, r10, r11, r12, r13, r14⟩ := rf_ru (t := t) (md (SS t)) (irI A t (md (SS t)) x n v w)
  have hway : ∀ k, k ≤ md (SS t) → ∃ y q, y ≤ md (SS t) ∧ q < mK (SS t) y ∧ aWy A t k = mb (SS t) y q := fun k hk => ⟨md (SS t) - k, _, by omega, (pP_b hs hi hk).1, (hw.2 k hk).1⟩
  have hp1 : p < mK (SS t) 0 := by
    have := (pP_b hs hi (Nat.le_refl (md (SS t)))).1
    rw [Nat.sub_self] at this
    rw [hp]
    exact this
  refine hc.same ht rfl rfl rfl h3 r14 ⟨by show mSh _ t (aM (rfA (irI A t (md (SS t)) x n v w) t (md (SS t)))); rw [r14]; exact sin_sh hs hp1 hroom, hr', h2, ?_, ?_, ?_⟩ (fun t' ht' => ⟨?_, ?_, ?_⟩) (fun y hy => ⟨?_, ?_, ?_⟩) ?_ r13
  · show gF _ t (aRu A t + 1) t = _
    rw [gF_s, u1]
    rfl
  · show gF _ t (aBl A t) t = _
    rw [gF_s, u2]
    rfl
  · show gF _ t (aLb A t) t = _
    rw [gF_s, u3]
    rfl
  · show gF (aRu (rfA (irI A t (md (SS t)) x n v w) t (md (SS t)))) t _ t' = _
    rw [gF_n ht', r1]
    rfl
  · show gF (aBl (rfA (irI A t (md (SS t)) x n v w) t (md (SS t)))) t _ t' = _
    rw [gF_n ht', r2]
    rfl
  · show gF (aLb (rfA (irI A t (md (SS t)) x n v w) t (md (SS t)))) t _ t' = _
    rw [gF_n ht', r5]
    rfl
  · show aDp (rfA (irI A t (md (SS t)) x n v w) t (md (SS t))) y = _
    rw [r11]
    exact congrFun (gF_same (aDp A) _) y
  · show aEn (rfA (irI A t (md (SS t)) x n v w) t (md (SS t))) y = _
    rw [r10]
    obtain ⟨y9, q9, z1, z2, z3⟩ := hway (md (SS t)) (Nat.le_refl _)
    exact gF_n (by rw [z3]; exact hy y9 q9 z1 z2)
  · show aWf (rfA (irI A t (md (SS t)) x n v w) t (md (SS t))) y = _
    rw [rfA_fs _ _ _ (fun k hk z => by
      obtain ⟨y9, q9, z1, z2, z3⟩ := hway k (by omega)
      exact hy y9 q9 z1 z2 (by rw [← z, ← z3]; rfl))]
    obtain ⟨y9, q9, z1, z2, z3⟩ := hway (md (SS t)) (Nat.le_refl _)
    exact gF_n (by rw [z3]; exact hy y9 q9 z1 z2)
  · show aTk (rfA (irI A t (md (SS t)) x n v w) t (md (SS t))) = _
    rw [r12]
    exact gF_same _ _
/-- a run changes -/
theorem CX.set {q : Nat} (hc : CX A SS F) (ht : t < 4) (hS : SS t = S) (hq : q < mn S) (hx : 0 ≤ x ∧ x ≤ 65536) (hn : 0 ≤ n ∧ n ≤ 32768) (hv : 0 ≤ v ∧ v ≤ 16777216) (hww : w = 0 ∨ w = 1) (hr' : mRn (sSet S q x n v w)) : CX (srA (fnd A t (pW S q) (pP S q) (md S + 1) (md S)) t (md S) x n v w) (gF SS t (sSet S q x n v w)) F := by
  subst hS
  obtain ⟨hs, hr, ha, u1, u2, u3⟩ := hc.2.1 t ht
  have h2 := ab_set (x := x) (n := n) (v := v) (w := w) hs (hc.inj ht) ha hq hww
  have hw : WyTo (fnd A t (pW (SS t) q) (pP (SS t) q) (md (SS t) + 1) (md (SS t))) t (SS t) q := wy_fnd
  have hmk : 0 ≤ (if w = 1 then n else n + 32768) ∧ (if w = 1 then n else n + 32768) ≤ 16777216 := by
    split <;> omega
  have hway : ∀ k, k ≤ md (SS t) → ∃ y z, y ≤ md (SS t) ∧ z < mK (SS t) y ∧ aWy (fnd A t (pW (SS t) q) (pP (SS t) q) (md (SS t) + 1) (md (SS t))) t k = mb (SS t) y z := fun k hk => ⟨md (SS t) - k, _, by omega, (pP_b hs (i := (q : Int)) (by omega) hk).1, (hw.2 k hk).1⟩
  have w260 : ∀ k, k ≤ md (SS t) → aWy (fnd A t (pW (SS t) q) (pP (SS t) q) (md (SS t) + 1) (md (SS t))) t k < 260 := by
    intro k hk
    obtain ⟨y, z, z1, z2, z3⟩ := hway k hk
    rw [z3]
    exact hs.bl ht z1 z2
  have okF : aOk (fnd A t (pW (SS t) q) (pP (SS t) q) (md (SS t) + 1) (md (SS t))) := hc.1
  have same : ∀ (g : Nat → Int), aRu (sWf (fnd A t (pW (SS t) q) (pP (SS t) q) (md (SS t) + 1) (md (SS t))) (aWy (fnd A t (pW (SS t) q) (pP (SS t) q) (md (SS t) + 1) (md (SS t))) t (md (SS t))) g) = aRu A := fun g => rfl
  generalize hB : fnd A t (pW (SS t) q) (pP (SS t) q) (md (SS t) + 1) (md (SS t)) = B at *
  have bR : aRu B = aRu A ∧ aBl B = aBl A ∧ aLb B = aLb A ∧ aDp B = aDp A ∧ aEn B = aEn A ∧ aWf B = aWf A ∧ aTk B = aTk A ∧ aLe B = aLe A ∧ aM B = aM A := by
    rw [← hB]
    exact ⟨rfl, rfl, rfl, rfl, rfl, rfl, rfl, rfl, rfl⟩
  obtain ⟨b1, b2, b3, b4, b5, b6, b7, b8, b9⟩ := bR
  have okS : aOk (sWf B (aWy B t (md (SS t))) (gT3 (aWf B (aWy B t (md (SS t)))) (aPl B t (md (SS t)) * 3).toNat x (if w = 1 then n else n + 32768) v)) := aOk_sWf okF (fun y => gF_r (gF_r (gF_r (fun z => (okF.2.2 _ (w260 _ (Nat.le_refl _))).2.2 z) (by omega)) hmk) (by omega) y)
  have unf : srA B t (md (SS t)) x n v w = rfA (sWf B (aWy B t (md (SS t))) (gT3 (aWf B (aWy B t (md (SS t)))) (aPl B t (md (SS t)) * 3).toNat x (if w = 1 then n else n + 32768) v)) t (md (SS t)) := rfl
  obtain ⟨r1, r2, r3, r4, r5, r6, r7, r8, r9, r10, r11, r12, r13, r14⟩ := rf_ru (t := t) (md (SS t)) (sWf B (aWy B t (md (SS t))) (gT3 (aWf B (aWy B t (md (SS t)))) (aPl B t (md (SS t)) * 3).toNat x (if w = 1 then n else n + 32768) v))
  have c1 : aRu (srA B t (md (SS t)) x n v w) = aRu A := by rw [unf, r1]; exact b1
  have c2 : aBl (srA B t (md (SS t)) x n v w) = aBl A := by rw [unf, r2]; exact b2
  have c3 : aLb (srA B t (md (SS t)) x n v w) = aLb A := by rw [unf, r5]; exact b3
  have c4 : aM (srA B t (md (SS t)) x n v w) = aM A := by rw [unf, r14]; exact b9
  refine hc.same (S' := sSet (SS t) q x n v w) ht rfl rfl rfl (aOk_rf (md (SS t)) okS w260) c4 ⟨by rw [c4]; exact hs, hr', h2, by rw [c1]; exact u1, by rw [c2]; exact u2, by rw [c3]; exact u3⟩ (fun t' _ => ⟨by rw [c1], by rw [c2], by rw [c3]⟩) (fun y hy => ⟨?_, ?_, ?_⟩) ?_ ?_
  · rw [unf, r11]
    exact congrFun b4 y
  · rw [unf, r10]
    exact congrFun b5 y
  · rw [unf, rfA_fs _ _ _ (fun k hk z => by
      obtain ⟨y9, q9, z1, z2, z3⟩ := hway k (by omega)
      exact hy y9 q9 z1 z2 (by rw [← z, ← z3]; rfl))]
    obtain ⟨y9, q9, z1, z2, z3⟩ := hway (md (SS t)) (Nat.le_refl _)
    refine (gF_n (by rw [z3]; exact hy y9 q9 z1 z2)).trans ?_
    rw [b6]
  · rw [unf, r12]
    exact b7
  · rw [unf, r13]
    exact b8
end
