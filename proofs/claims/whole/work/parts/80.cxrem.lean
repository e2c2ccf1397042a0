/-! removeRun on the model, where the file isn't empty after it -/
section
variable {A : cA} {SS : Nat → mS} {F : Nat → Prop} {S : mS} {t m q c : Nat}
theorem pPn (hs : mSh S t m) (hq : q < mn S) {k : Nat} (hk : k ≤ md S) : pP S (q : Int) k = (mQ S q (md S - k) : Int) - sm (mc S (md S - k)) (mQ S q (md S - k + 1)) := by
  unfold pP
  rw [show ((q : Nat) : Int).toNat = q by omega]
  by_cases h : k = md S
  · rw [if_pos h, h, Nat.sub_self]
    rfl
  · rw [if_neg h]
set_option maxHeartbeats 1000000 in
theorem CX.rem (hc : CX A SS F) (ht : t < 4) (hS : SS t = S) (hw : WyTo A t S (q : Int)) (h : RmC S q c) (hr' : mRn (sRm S q c)) :
    (0 ≤ aPl A t (md S) ∧ aPl A t (md S) < aEn A (aWy A t (md S))) ∧ (∀ m, m < c → RmOk A t (md S) m) ∧ aEn (rmS A t (md S) c) (aWy A t (md S - c)) ≠ 0 ∧ (∀ k, k < md S - c → 0 ≤ aPl A t k ∧ aPl A t k < aEn (rmS A t (md S) c) (aWy A t k)) ∧ CX (rmE (rmS A t (md S) c) t (md S - c)) (gF SS t (sRm S q c)) F := by
  subst hS
  obtain ⟨hs, hr, ha, u1, u2, u3⟩ := hc.2.1 t ht
  have hj := hc.inj ht
  have hh := h
  obtain ⟨hi, hcd, h1, h2⟩ := h
  have hA := ab_nd.mp ha
  have eW : ∀ k, k ≤ md (SS t) → aWy A t k = mb (SS t) (md (SS t) - k) (mQ (SS t) q (md (SS t) - k + 1)) := fun k hk => by
    rw [(hw.2 k hk).1, pW_n]
  have eP : ∀ k, k ≤ md (SS t) → aPl A t k = (mQ (SS t) q (md (SS t) - k) : Int) - sm (mc (SS t) (md (SS t) - k)) (mQ (SS t) q (md (SS t) - k + 1)) := fun k hk => by
    rw [(hw.2 k hk).2, pPn hs hi hk]
  have nd : ∀ k, k ≤ md (SS t) → Nd A (aWy A t k) (SS t) (md (SS t) - k) (mc (SS t) (md (SS t) - k) (mQ (SS t) q (md (SS t) - k + 1))) (sm (mc (SS t) (md (SS t) - k)) (mQ (SS t) q (md (SS t) - k + 1))) := fun k hk => by
    rw [eW k hk]
    exact hA _ (by omega) _ (mQ_in hs hi (by omega)).1
  have inj : ∀ k k', k ≤ md (SS t) → k' ≤ md (SS t) → aWy A t k = aWy A t k' → k = k' := by
    intro k k' hk hk' e
    rw [eW k hk, eW k' hk'] at e
    have := (hj _ _ _ _ (by omega) (mQ_in hs hi (by omega)).1 (by omega) (mQ_in hs hi (by omega)).1 e).1
    omega
  have plb : ∀ k, k ≤ md (SS t) → 0 ≤ aPl A t k ∧ aPl A t k < aEn A (aWy A t k) := by
    intro k hk
    rw [eP k hk, (nd k hk).2.1]
    obtain ⟨a1, a2, a3⟩ := mQ_in hs hi (show md (SS t) - k ≤ md (SS t) by omega)
    omega
  have bl : ∀ k, 1 ≤ k → k ≤ md (SS t) → (1 ≤ aWy A t k ∧ aWy A t k ≤ 255) ∧ Own (SS t) (aWy A t k) := by
    intro k k1 hk
    have a1 := (mQ_in hs hi (show md (SS t) - k ≤ md (SS t) by omega)).1
    have := (hs.2.2.2.2.1 (md (SS t) - k) (by omega) _ a1).2.2
    rw [eW k hk]
    exact ⟨this, ⟨md (SS t) - k, _, by omega, a1, rfl⟩⟩
  have tk : ∀ k, 1 ≤ k → k ≤ md (SS t) → aTk A (aWy A t k) = 1 := by
    intro k k1 hk
    obtain ⟨b1, b2⟩ := bl k k1 hk
    rcases hc.ownF ht b1.1 (by omega) (hc.own ht b2) with ⟨g, _⟩ | ⟨_, _, _, g⟩
    · exact g
    · exact absurd b2 g
  have at_ := rms_at (A := A) (t := t) (l := md (SS t)) inj
  obtain ⟨z1, z2, z3, z4⟩ := at_ c hcd
  have enc : aEn (rmS A t (md (SS t)) c) (aWy A t (md (SS t) - c)) = (mc (SS t) c (mQ (SS t) q (c + 1)) : Int) - 1 := by
    rw [z2.2.1, (nd (md (SS t) - c) (by omega)).2.1, show md (SS t) - (md (SS t) - c) = c by omega]
  have enk : ∀ k, k < md (SS t) - c → aEn (rmS A t (md (SS t)) c) (aWy A t k) = aEn A (aWy A t k) := by
    intro k hk
    exact (z1 (aWy A t k) (fun k' h1 h2 z => by
      have := inj _ _ (by omega) h2 z
      omega)).2.1
  have d0 : aDp A (aWy A t (md (SS t))) = 0 := by
    rw [(nd (md (SS t)) (Nat.le_refl _)).1, Nat.sub_self]
    rfl
  have dk : ∀ k, k < md (SS t) → aDp A (aWy A t k) ≠ 0 := by
    intro k hk
    rw [(nd k (by omega)).1]
    omega
  obtain ⟨n1, n2, n3, n4, n5, n6, n7⟩ := rms_num inj d0 dk c hcd
  have cn := rms_cn inj hcd (fun k k1 k2 => ⟨(bl k (by omega) k2).1.1, (bl k (by omega) k2).1.2, tk k (by omega) k2⟩) c (Nat.le_refl _)
  have same := rms_same (A := A) (t := t) (l := md (SS t)) c
  have root0 : aWy A t 0 = 256 + t := by
    rw [eW 0 (by omega), Nat.sub_zero, mQ_top hs hi, hs.2.2.1]
  have rootne : aEn (rmS A t (md (SS t)) c) (256 + t) ≠ 0 := by
    rw [← root0]
    by_cases e : c = md (SS t)
    · have := enc
      rw [e, Nat.sub_self] at this
      rw [e, this]
      rw [e] at h2
      omega
    · rw [enk 0 (by omega)]
      have := plb 0 (by omega)
      omega
  have eD : rmD (rmS A t (md (SS t)) c) t = rmS A t (md (SS t)) c := if_neg rootne
  have okm : ∀ m, m ≤ c → aOk (rmS A t (md (SS t)) m) := by
    intro m
    induction m with
    | zero =>
      intro _
      have := plb (md (SS t)) (Nat.le_refl _)
      exact aOk_rem hc.1 (by rw [eW _ (Nat.le_refl _)]; exact hs.bl ht (by omega) (mQ_in hs hi (by omega)).1) (by omega)
    | succ m ih =>
      intro hm
      have w1 : aWy A t (md (SS t) - m) < 260 := by
        rw [eW _ (by omega)]
        exact hs.bl ht (by omega) (mQ_in hs hi (by omega)).1
      have w2 : aWy A t (md (SS t) - m - 1) < 260 := by
        rw [eW _ (by omega)]
        exact hs.bl ht (by omega) (mQ_in hs hi (by omega)).1
      refine aOk_rem (aOk_gb (ih (by omega)) w1) w2 ?_
      have hne : aWy A t (md (SS t) - m - 1) ≠ aWy A t (md (SS t) - m) := fun z => by
        have := inj _ _ (by omega) (by omega) z
        omega
      show 0 < gF (aEn (rmS A t (md (SS t)) m)) (aWy A t (md (SS t) - m)) 0 (aWy A t (md (SS t) - m - 1))
      rw [gF_n hne, ((at_ m (by omega)).1 (aWy A t (md (SS t) - m - 1)) (fun k h1 h2 z => by
        have := inj _ _ (by omega) h2 z
        omega)).2.1]
      have := plb (md (SS t) - m - 1) (by omega)
      omega
  refine ⟨plb _ (Nat.le_refl _), fun m hm => ?_, by rw [enc]; omega, fun k hk => ?_, ?_⟩
  · obtain ⟨y1, y2, y3, y4⟩ := at_ m (by omega)
    have hne : aWy A t (md (SS t) - m - 1) ≠ aWy A t (md (SS t) - m) := fun z => by
      have := inj _ _ (by omega) (by omega) z
      omega
    refine ⟨?_, ?_, (plb (md (SS t) - m - 1) (by omega)).1, ?_⟩
    · rw [y2.2.1, (nd (md (SS t) - m) (by omega)).2.1, show md (SS t) - (md (SS t) - m) = m by omega, h1 m hm]
      rfl
    · rw [y2.2.2]
      exact tk _ (by omega) (by omega)
    · show _ < gF (aEn (rmS A t (md (SS t)) m)) (aWy A t (md (SS t) - m)) 0 (aWy A t (md (SS t) - m - 1))
      rw [gF_n hne, (y1 (aWy A t (md (SS t) - m - 1)) (fun k h1 h2 z => by
        have := inj _ _ (by omega) h2 z
        omega)).2.1]
      exact (plb (md (SS t) - m - 1) (by omega)).2
  · rw [enk k hk]
    exact plb k (by omega)
  · have hs' := srm_sh hs hh
    have key : mAb (rfA (rmS A t (md (SS t)) c) t (md (SS t) - c)) t (sRm (SS t) q c) := by
      have hdS : md (sRm (SS t) q c) = md (SS t) := rfl
      have ec : md (SS t) - (md (SS t) - c) = c := by omega
      refine rf_fix2 (S := sRm (SS t) q c) (R := fun y => mQ (SS t) q (y + 1)) (srm_inj hj) (K := md (SS t) - c) (by rw [hdS]; omega) (fun y y1 y2 => ?_) (fun y y1 y2 => ?_) (fun y y1 y2 => ?_) (md (SS t) - c) _ (Nat.le_refl _) (fun x hx => ?_) (fun x hx => ?_) (fun y hy z hz => ?_)
      · rw [hdS, ec] at y1
        rw [hdS] at y2
        rw [srm_kh y1]
        exact (mQ_in hs hi y2).1
      · rw [hdS, ec] at y1
        rw [hdS] at y2
        rw [srm_ch (by omega)]
        exact (mQ_in hs hi (show y + 1 ≤ md (SS t) by omega)).2
      · rw [hdS, ec] at y1
        rw [hdS] at y2
        by_cases e : y = c
        · rw [e, srm_cc, dec_at]
          omega
        · rw [srm_ch (by omega)]
          exact hs.pos (by omega) (by omega) (mQ_in hs hi (show y ≤ md (SS t) by omega)).1
      · rw [same.1, eW x (by omega), hdS, srm_bh (by omega)]
      · rw [same.2.1, eP x (by omega), hdS, srm_ch (by omega), show md (SS t) - x - 1 + 1 = md (SS t) - x by omega]
      · have hy : y ≤ md (SS t) := hy
        refine ndx_m ?_
        obtain ⟨a1, a2, a3⟩ := mQ_in hs hi hy
        have oth : ∀ r, r < mK (SS t) y → (c < y ∨ r ≠ mQ (SS t) q (y + 1)) → aWf (rmS A t (md (SS t)) c) (mb (SS t) y r) = aWf A (mb (SS t) y r) ∧ aEn (rmS A t (md (SS t)) c) (mb (SS t) y r) = aEn A (mb (SS t) y r) := by
          intro r hr9 hor
          have := z1 (mb (SS t) y r) (fun k k1 k2 e => by
            rw [eW k k2] at e
            obtain ⟨e1, e2⟩ := hj _ _ _ _ hy hr9 (by omega) (mQ_in hs hi (by omega)).1 e
            rcases hor with o | o
            · omega
            · exact o (by rw [e2, ← e1]))
          exact ⟨this.1, this.2.1⟩
        have hK := hs.2.2.2.1 y hy
        rcases Nat.lt_trichotomy y c with h9 | h9 | h9
        · rw [srm_kl h9] at hz
          rw [srm_bl h9, srm_cl h9]
          have e9 := rm_sm hs hi hy (h1 y h9)
          refine Nd.X ?_ _
          by_cases h8 : z < mQ (SS t) q (y + 1)
          · rw [del_lo h8, del_lo h8, sm_del_lo (by omega)]
            have g := hA y hy z (by omega)
            have l1 : sm (mc (SS t) y) (z + 1) ≤ sm (mc (SS t) y) (mQ (SS t) q (y + 1)) := sm_mono h8
            have l2 : sm (mc (SS t) y) (z + 1) = sm (mc (SS t) y) z + mc (SS t) y z := rfl
            have l3 := hs.off hy a1
            obtain ⟨o1, o2⟩ := oth z (by omega) (Or.inr (by omega))
            refine g.keep (by rw [z4]) o2 o1 (fun j hj9 e he => ?_)
            rw [srm_itl hs hh (by omega) (by omega), if_pos (by omega)]
          · rw [del_hi (by omega), del_hi (by omega)]
            have g := hA y hy (z + 1) (by omega)
            have l1 := sm_del_hi (f := mc (SS t) y) (p := mQ (SS t) q (y + 1)) z (by omega)
            rw [h1 y h9] at l1
            have l2 : sm (mc (SS t) y) (mQ (SS t) q (y + 1) + 1) ≤ sm (mc (SS t) y) (z + 1) := sm_mono (by omega)
            have l3 : sm (mc (SS t) y) (mQ (SS t) q (y + 1) + 1) = sm (mc (SS t) y) (mQ (SS t) q (y + 1)) + mc (SS t) y (mQ (SS t) q (y + 1)) := rfl
            have l4 := hs.off hy (show z + 1 < mK (SS t) y by omega)
            rw [h1 y h9] at l3
            obtain ⟨o1, o2⟩ := oth (z + 1) (by omega) (Or.inr (by omega))
            refine g.keep (by rw [z4]) o2 o1 (fun j hj9 e he => ?_)
            rw [srm_itl hs hh (by omega) (by omega), if_neg (by omega), show sm (delN (mc (SS t) y) (mQ (SS t) q (y + 1))) z + j + 1 = sm (mc (SS t) y) (z + 1) + j by omega]
        · subst h9
          rw [srm_kh (Nat.le_refl _)] at hz
          rw [srm_bh (Nat.le_refl _), srm_cc]
          refine Nd.X ?_ _
          have g := hA y hy z hz
          have l4 := hs.off hy hz
          by_cases h8 : z = mQ (SS t) q (y + 1)
          · subst h8
            rw [dec_at, sm_dec_lo (Nat.le_refl _)]
            have eb : aWy A t (md (SS t) - y) = mb (SS t) y (mQ (SS t) q (y + 1)) := by
              rw [eW _ (by omega), show md (SS t) - (md (SS t) - y) = y by omega]
            have ep : aPl A t (md (SS t) - y) = (mQ (SS t) q y : Int) - sm (mc (SS t) y) (mQ (SS t) q (y + 1)) := by
              rw [eP _ (by omega), show md (SS t) - (md (SS t) - y) = y by omega]
            rw [eb, ep] at z2
            rw [eb] at enc
            refine ⟨by rw [z4]; exact g.1, by rw [enc]; omega, fun j hj9 e he => ?_⟩
            rw [z2.1, g.2.1, srm_itl hs hh (Nat.le_refl _) (by omega)]
            by_cases h7 : sm (mc (SS t) y) (mQ (SS t) q (y + 1)) + j < mQ (SS t) q y
            · rw [if_pos h7, gRem_lo (by omega) he (by omega)]
              exact g.2.2 j (by omega) e he
            · rw [if_neg h7, gRem_hi (by omega) he (by omega) (by omega), g.2.2 (j + 1) (by omega) e he, Nat.add_assoc]
          · rw [dec_n h8]
            obtain ⟨o1, o2⟩ := oth z hz (Or.inr h8)
            refine g.keep (by rw [z4]) o2 o1 (fun j hj9 e he => ?_)
            by_cases h7 : z < mQ (SS t) q (y + 1)
            · have l1 : sm (mc (SS t) y) (z + 1) ≤ sm (mc (SS t) y) (mQ (SS t) q (y + 1)) := sm_mono h7
              have l2 : sm (mc (SS t) y) (z + 1) = sm (mc (SS t) y) z + mc (SS t) y z := rfl
              have l3 := hs.off hy a1
              rw [sm_dec_lo (by omega), srm_itl hs hh (Nat.le_refl _) (by omega), if_pos (by omega)]
            · have l1 := sm_dec_hi (f := mc (SS t) y) (p := mQ (SS t) q (y + 1)) (by omega) z (by omega)
              have l2 : sm (mc (SS t) y) (mQ (SS t) q (y + 1) + 1) ≤ sm (mc (SS t) y) z := sm_mono (by omega)
              have l3 : sm (mc (SS t) y) (mQ (SS t) q (y + 1) + 1) = sm (mc (SS t) y) (mQ (SS t) q (y + 1)) + mc (SS t) y (mQ (SS t) q (y + 1)) := rfl
              rw [srm_itl hs hh (Nat.le_refl _) (by omega), if_neg (by omega), show sm (decN (mc (SS t) y) (mQ (SS t) q (y + 1))) z + j + 1 = sm (mc (SS t) y) z + j by omega]
        · rw [srm_kh (by omega)] at hz
          rw [srm_bh (by omega), srm_ch h9]
          have g := hA y hy z hz
          have l4 := hs.off hy hz
          obtain ⟨o1, o2⟩ := oth z hz (Or.inl h9)
          refine ⟨by rw [z4]; exact g.1, by rw [o2]; exact g.2.1, fun j hj9 e he hex => ?_⟩
          obtain ⟨y0, rfl⟩ : ∃ y0, y = y0 + 1 := ⟨y - 1, by omega⟩
          rw [o1, g.2.2 j hj9 e he, srm_ith hs hh (by omega) hy (by have : mI (SS t) (y0 + 1) = mK (SS t) y0 := rfl; omega)]
          intro e9
          refine hex ⟨e9.1, by rw [hdS, ec]; omega, ?_, ?_⟩
          · exact lc_uniq (f := mc (SS t) (y0 + 1)) (K := mK (SS t) (y0 + 1)) (q := mQ (SS t) q (y0 + 1)) (by omega) (by omega) a2 a3
          · show _ = mQ (SS t) q (y0 + 1 - 1 + 1)
            rw [show y0 + 1 - 1 + 1 = y0 + 1 by omega]
            exact e9.2
    obtain ⟨r1, r2, r3, r4, r5, r6, r7, r8, r9, r10, r11, r12, r13, r14⟩ := rf_ru (t := t) (md (SS t) - c) (rmS A t (md (SS t)) c)
    have eE : rmE (rmS A t (md (SS t)) c) t (md (SS t) - c) = sTr (rfA (rmS A t (md (SS t)) c) t (md (SS t) - c)) t (aRu (rmS A t (md (SS t)) c) t - 1) (aBl (rmS A t (md (SS t)) c) t) (aMa (rmS A t (md (SS t)) c) t) (aMw (rmS A t (md (SS t)) c) t) (aLb (rmS A t (md (SS t)) c) t) (aLf (rmS A t (md (SS t)) c) t) := by
      unfold rmE
      rw [eD]
    rw [eE]
    have hK1 : ∀ y, y ≤ md (SS t) → 1 ≤ mK (SS t) y := fun y hy => by
      have := (mQ_in hs hi hy).1
      omega
    have offway : ∀ x, (∀ k, k ≤ md (SS t) → x ≠ aWy A t k) → aDp (rfA (rmS A t (md (SS t)) c) t (md (SS t) - c)) x = aDp A x ∧ aEn (rfA (rmS A t (md (SS t)) c) t (md (SS t) - c)) x = aEn A x ∧ aWf (rfA (rmS A t (md (SS t)) c) t (md (SS t) - c)) x = aWf A x ∧ aTk (rfA (rmS A t (md (SS t)) c) t (md (SS t) - c)) x = aTk A x := by
      intro x hx
      obtain ⟨o1, o2, o3⟩ := z1 x (fun k _ k2 => hx k k2)
      refine ⟨by rw [r11, z4], by rw [r10]; exact o2, ?_, by rw [r12]; exact o3⟩
      rw [rfA_fs _ _ _ (fun k hk e => hx k (by omega) (by rw [← e, same.1]))]
      exact o1
    have othway : ∀ x, Oth SS t x → ∀ k, k ≤ md (SS t) → x ≠ aWy A t k := by
      intro x hx k hk e
      rw [eW k hk] at e
      exact (hc.node ht (by omega) (mQ_in hs hi (by omega)).1).1 (e ▸ hx)
    refine hc.step (S' := sRm (SS t) q c) (F' := F) ht ?_ (r14.trans n7) ⟨?_, hr', key, ?_, ?_, ?_⟩ (srm_inj hj) (fun t' ht' => ⟨?_, ?_, ?_⟩) (fun x hx => offway x (othway x hx)) (fun x hx => hc.own ht ((srm_own hs hj hh x).mp hx).1) (fun x x1 x2 hx => ?_) hc.2.2.2.2.1 (fun x hx => (hc.fre hx).1) ?_ ?_
    · exact aOk_rf (md (SS t) - c) (okm c (Nat.le_refl _)) (fun j hj9 => by
        rw [same.1, eW j (by omega)]
        exact hs.bl ht (by omega) (mQ_in hs hi (by omega)).1)
    · show mSh _ t (aM (rfA (rmS A t (md (SS t)) c) t (md (SS t) - c)))
      rw [r14, n7]
      exact hs'
    · show gF _ t _ t = _
      rw [gF_s, n1, u1]
      show _ = ((mn (SS t) - 1 : Nat) : Int)
      omega
    · show gF _ t _ t = _
      rw [gF_s, n2, gF_s, u2]
      have sums : ∀ d, d ≤ md (SS t) → sm (mK (sRm (SS t) q c)) d + (if d < c then d else c) = sm (mK (SS t)) d := by
        intro d
        induction d with
        | zero =>
          intro _
          show 0 + _ = 0
          split <;> omega
        | succ d ih =>
          intro hd
          have e := ih (by omega)
          have k1 := hK1 d (by omega)
          show sm (mK (sRm (SS t) q c)) d + mK (sRm (SS t) q c) d + _ = sm (mK (SS t)) d + mK (SS t) d
          by_cases h9 : d < c
          · rw [srm_kl h9]
            rw [if_pos h9] at e
            split <;> omega
          · rw [srm_kh (by omega)]
            rw [if_neg h9] at e
            rw [if_neg (by omega)]
            omega
      have e := sums (md (SS t)) (Nat.le_refl _)
      rw [if_neg (by omega)] at e
      show _ = ((sm (mK (sRm (SS t) q c)) (md (SS t)) : Nat) : Int)
      omega
    · show gF _ t _ t = _
      rw [gF_s, n5, gF_s, u3]
      show _ = if md (SS t) = 0 then (0 : Int) else ((mK (sRm (SS t) q c) 0 : Nat) : Int)
      by_cases h9 : md (SS t) = 0
      · rw [if_pos (show c = 0 by omega), if_pos h9, if_pos h9]
      · rw [if_neg h9, if_neg h9]
        by_cases h8 : c = 0
        · rw [if_pos h8, srm_kh (by omega)]
        · have k1 := hK1 0 (by omega)
          rw [if_neg h8, srm_kl (by omega)]
          omega
    · show gF (aRu (rfA (rmS A t (md (SS t)) c) t (md (SS t) - c))) t _ t' = _
      rw [gF_n ht', r1, n1]
    · show gF (aBl (rfA (rmS A t (md (SS t)) c) t (md (SS t) - c))) t _ t' = _
      rw [gF_n ht', r2, n2, gF_n ht']
    · show gF (aLb (rfA (rmS A t (md (SS t)) c) t (md (SS t) - c))) t _ t' = _
      rw [gF_n ht', r5, n5, gF_n ht']
    · have g := hc.ownF ht x1 x2 hx
      have ho := srm_own hs hj hh x
      show bOk (rfA (rmS A t (md (SS t)) c) t (md (SS t) - c)) x (F x) (Own (sRm (SS t) q c) x)
      unfold bOk at g ⊢
      rw [r12, r10, ho]
      by_cases hx9 : ∃ k, md (SS t) - c < k ∧ k ≤ md (SS t) ∧ x = aWy A t k
      · obtain ⟨k, k1, k2, rfl⟩ := hx9
        have hown := (bl k (by omega) k2).2
        have hnf : ¬ F (aWy A t k) := by
          rcases g with ⟨_, ⟨_, g3⟩ | ⟨g2, _⟩⟩ | ⟨_, _, g3, _⟩
          · exact absurd hown g3
          · exact g2
          · exact g3
        obtain ⟨y1, y2⟩ := z3 k k1 k2
        refine Or.inr ⟨y2, y1, hnf, fun z => z.2 (md (SS t) - k) (by omega) (eW k k2)⟩
      · have nway : ∀ y, y < c → x ≠ mb (SS t) y (mQ (SS t) q (y + 1)) := by
          intro y hy e
          refine hx9 ⟨md (SS t) - y, by omega, by omega, ?_⟩
          rw [eW _ (by omega), show md (SS t) - (md (SS t) - y) = y by omega]
          exact e
        have etk : aTk (rmS A t (md (SS t)) c) x = aTk A x := by
          by_cases h8 : x = aWy A t (md (SS t) - c)
          · rw [h8]
            exact z2.2.2
          · exact (z1 x (fun k k1 k2 e => by
              by_cases h7 : k = md (SS t) - c
              · exact h8 (by rw [e, h7])
              · exact hx9 ⟨k, by omega, k2, e⟩)).2.2
        rw [etk]
        rcases g with ⟨g1, ⟨g2, g3⟩ | ⟨g2, g3⟩⟩ | ⟨g1, g2, g3, g4⟩
        · exact Or.inl ⟨g1, Or.inl ⟨g2, fun z => g3 z.1⟩⟩
        · exact Or.inl ⟨g1, Or.inr ⟨g2, g3, nway⟩⟩
        · refine Or.inr ⟨g1, ?_, g3, fun z => g4 z.1⟩
          rw [(z1 x (fun k k1 k2 e => by
            by_cases h7 : k = 0
            · rw [h7, root0] at e
              omega
            · exact g4 (by rw [e]; exact (bl k (by omega) k2).2))).2.1]
          exact g2
    · show aTk (rfA (rmS A t (md (SS t)) c) t (md (SS t) - c)) 0 = 0
      rw [(offway 0 (fun k hk e => by
        by_cases h7 : k = 0
        · rw [h7, root0] at e
          omega
        · have := (bl k (by omega) hk).1
          omega)).2.2.2]
      exact hc.2.2.2.2.2.1
    · show aLe (rfA (rmS A t (md (SS t)) c) t (md (SS t) - c)) = cnF (aTk (rfA (rmS A t (md (SS t)) c) t (md (SS t) - c))) 255
      rw [r13, r12, cn, n6, hc.2.2.2.2.2.2]
end
