/-! a run comes into a leaf with room -/
def sIn (S : mS) (j p : Nat) (x n v w : Int) : mS := (mn S + 1, insN (ms S) j x, insN (ml S) j n, insN (mv S) j v, insN (mw S) j w, md S, mK S, mb S, gF (mc S) 0 (incN (mc S 0) p))
section
variable {A : cA} {S : mS} {t m j p : Nat} {i x n v w : Int}
theorem sin_c0 : mc (sIn S j p x n v w) 0 = incN (mc S 0) p := gF_s (mc S) 0 (incN (mc S 0) p)
theorem sin_co {k : Nat} (h : k ≠ 0) : mc (sIn S j p x n v w) k = mc S k := gF_n h
theorem sin_fr (hs : mSh S t m) (hi : -1 ≤ i ∧ i < mn S) (hp : p = mQ S i.toNat 1) (hn : 0 < mn S) : ∀ k, k ≤ md S → ∀ q, fr (mc (sIn S j p x n v w)) (k + 1) q = if q ≤ mQ S i.toNat (k + 1) then fr (mc S) (k + 1) q else fr (mc S) (k + 1) q + 1 := by
  intro k
  induction k with
  | zero =>
    intro _ q
    show sm (mc (sIn S j p x n v w) 0) q = if q ≤ mQ S i.toNat 1 then sm (mc S 0) q else sm (mc S 0) q + 1
    rw [sin_c0, hp]
    by_cases h : q ≤ mQ S i.toNat 1
    · rw [if_pos h, sm_inc_lo h]
    · rw [if_neg h, sm_inc_hi q (by omega)]
  | succ k ih =>
    intro hk q
    show fr (mc (sIn S j p x n v w)) (k + 1) (sm (mc (sIn S j p x n v w) (k + 1)) q) = if q ≤ mQ S i.toNat (k + 1 + 1) then fr (mc S) (k + 1) (sm (mc S (k + 1)) q) else fr (mc S) (k + 1) (sm (mc S (k + 1)) q) + 1
    rw [sin_co (by omega), ih (by omega)]
    obtain ⟨a1, a2, a3⟩ := mQ_in hs (i := i.toNat) (by omega) hk
    by_cases h : q ≤ mQ S i.toNat (k + 1 + 1)
    · have : sm (mc S (k + 1)) q ≤ sm (mc S (k + 1)) (mQ S i.toNat (k + 1 + 1)) := sm_mono h
      rw [if_pos h, if_pos (by omega)]
    · have h1 : sm (mc S (k + 1)) (mQ S i.toNat (k + 1 + 1) + 1) ≤ sm (mc S (k + 1)) q := sm_mono (by omega)
      have h2 : sm (mc S (k + 1)) (mQ S i.toNat (k + 1 + 1) + 1) = sm (mc S (k + 1)) (mQ S i.toNat (k + 1 + 1)) + mc S (k + 1) (mQ S i.toNat (k + 1 + 1)) := rfl
      rw [if_neg h, if_neg (by omega)]
theorem sin_sh (hs : mSh S t m) (hp : p < mK S 0) (hroom : mc S 0 p < if 0 = md S then 4 else m) : mSh (sIn S j p x n v w) t m := by
  obtain ⟨s1, s2, s3, s4, s5, s6, s7⟩ := hs
  refine ⟨s1, s2, s3, fun k hk => ?_, fun k hk q hq => ?_, ?_, ?_⟩
  · have hk : k ≤ md S := hk
    have e := s4 k hk
    cases k with
    | zero =>
      show sm (mc (sIn S j p x n v w) 0) (mK S 0) = mn S + 1
      rw [sin_c0, sm_inc_hi _ hp, e]
      rfl
    | succ k =>
      show sm (mc (sIn S j p x n v w) (k + 1)) (mK S (k + 1)) = mK S k
      rw [sin_co (by omega)]
      exact e
  · have hk : k < md S := hk
    have hq : q < mK S k := hq
    have w := s5 k hk q hq
    cases k with
    | zero =>
      rw [sin_c0]
      by_cases h : q = p
      · subst h
        rw [inc_at]
        rw [if_neg (by omega)] at hroom
        exact ⟨by omega, by omega, w.2.2⟩
      · rw [inc_n h]
        exact w
    | succ k =>
      rw [sin_co (by omega)]
      exact w
  · show mc (sIn S j p x n v w) (md S) 0 ≤ 4
    by_cases h : md S = 0
    · rw [h] at s2 s6 ⊢
      rw [sin_c0, show p = 0 by omega, inc_at]
      rw [if_pos h.symm, show p = 0 by omega] at hroom
      omega
    · rw [sin_co h]
      exact s6
  · intro hd
    have hd : 0 < md S := hd
    show 1 ≤ mc (sIn S j p x n v w) (md S) 0
    rw [sin_co (by omega)]
    exact s7 hd
theorem sin_it (hs : mSh S t m) (hi : -1 ≤ i ∧ i < mn S) (hj : (j : Int) = i + 1) (hp : p = mQ S i.toNat 1) {y z e : Nat} (hy : y + 1 ≤ md S) (hz : z < mK S y) (he : ¬ (e = 0 ∧ z = mQ S i.toNat (y + 1))) : it (sIn S j p x n v w) (y + 1) z e = it S (y + 1) z e := by
  have hn : 0 < mn S := hs.npos (by omega)
  by_cases he0 : e = 0
  · subst he0
    show insN (ms S) j x (fr (mc (sIn S j p x n v w)) (y + 1) z) = ms S (fr (mc S) (y + 1) z)
    rw [sin_fr hs hi hp hn y (by omega)]
    have hin : i.toNat < mn S := by omega
    obtain ⟨c1, c2⟩ := mQ_fr hs hin (y + 1) (by omega)
    have hql := mQ_lt hs hin (y + 1) (by omega)
    by_cases h : z ≤ mQ S i.toNat (y + 1)
    · have h3 := fr_lt hs hn (y + 1) (by omega) z (mQ S i.toNat (y + 1)) (by omega) (Nat.le_of_lt hql)
      rw [if_pos h, insN_lo (by omega)]
    · have h3 := fr_le hs hn (l := y + 1) (a := mQ S i.toNat (y + 1) + 1) (b := z) (by omega) (by omega) (Nat.le_of_lt hz)
      rw [if_neg h, insN_hi (by omega)]
  · unfold it
    rw [if_neg he0, if_neg he0]
    rfl
set_option maxHeartbeats 1000000 in
theorem ab_ins (ok : aOk A) (ht : t < 4) (hs : mSh S t (aM A)) (hj : mInj S) (ha : mAb A t S) (hw : WyTo A t S i) (hi : -1 ≤ i ∧ i < mn S) (hjj : (j : Int) = i + 1) (hp : p = mQ S i.toNat 1) (hroom : mc S 0 p < if 0 = md S then 4 else aM A) (hx : 0 ≤ x ∧ x ≤ 65536) (hn : 0 ≤ n ∧ n ≤ 32768) (hv : 0 ≤ v ∧ v ≤ 16777216) (hww : w = 0 ∨ w = 1) :
    LeafOk A t (md S) ∧ mAb (irF A t (md S) x n v w) t (sIn S j p x n v w) ∧ aOk (irF A t (md S) x n v w) := by
  have hA := ab_nd.mp ha
  have hP : ∀ k, k ≤ md S → _ := fun k hk => pP_b hs hi hk
  have eW : ∀ k, k ≤ md S → aWy A t k = mb S (md S - k) (mQ S i.toNat (md S - k + 1)) := fun k hk => (hw.2 k hk).1
  have eP : ∀ k, k ≤ md S → aPl A t k = pP S i k := fun k hk => (hw.2 k hk).2
  obtain ⟨p1, p2, p3, -⟩ := hP (md S) (Nat.le_refl _)
  rw [Nat.sub_self] at p1 p3
  have p1 : mQ S i.toNat 1 < mK S 0 := p1
  have p3 : pP S i (md S) + 1 ≤ mc S 0 (mQ S i.toNat 1) := p3
  rw [← hp] at p1 p3
  have eWd : aWy A t (md S) = mb S 0 p := by
    rw [eW _ (Nat.le_refl _), Nat.sub_self, hp]
  have eP0 : pP S i (md S) = i - sm (mc S 0) p := by
    unfold pP
    rw [if_pos rfl, hp]
  have w260 : ∀ k, k ≤ md S → aWy A t k < 260 := fun k hk => by
    rw [eW k hk]
    exact hs.bl ht (by omega) (hP k hk).1
  have n0 := hA 0 (by omega) p p1
  have rm0 : aRm A (mb S 0 p) = if 0 = md S then 4 else aM A := by
    unfold aRm
    by_cases h9 : 0 = md S
    · have h8 := hs.2.1
      have h7 := hs.2.2.1
      rw [← h9] at h8 h7
      rw [if_pos h9, show p = 0 by omega, h7, if_neg (by omega)]
    · have := (hs.2.2.2.2.1 0 (by omega) _ p1).2.2.2
      rw [if_neg h9, if_pos (by omega)]
  have hmk : 0 ≤ (if w = 1 then n else n + 32768) ∧ (if w = 1 then n else n + 32768) ≤ 16777216 := by
    split <;> omega
  have hL : LeafOk A t (md S) := by
    refine ⟨ok, by have := hs.1; omega, hw.1, w260, fun k hk => ?_, ?_, ?_⟩
    · obtain ⟨g1, g2, g3, g4⟩ := hP k (by omega)
      obtain ⟨g5, g6⟩ := g4 hk
      refine ⟨by rw [eP k (by omega)]; exact g6, ?_, ?_⟩
      · rw [eP k (by omega), eW k (by omega), (hA _ (by omega) _ g1).2.1]
        have hin : i.toNat < mn S := by
          have := hs.npos (by omega)
          omega
        obtain ⟨z1, z2, z3⟩ := mQ_in hs hin (show md S - k ≤ md S by omega)
        omega
      · rw [eW k (by omega), eWd]
        intro q
        have := (hj _ _ _ _ (by omega) g1 (Nat.zero_le _) p1 q).1
        omega
    · rw [eWd, n0.2.1, rm0]
      omega
    · rw [eWd, n0.2.1, eP _ (Nat.le_refl _)]
      omega
  have okI : aOk (irI A t (md S) x n v w) := by
    unfold irI
    refine aOk_ins ok (w260 _ (Nat.le_refl _)) ?_ (by omega) hmk (by omega)
    rw [eWd, n0.2.1, rm0]
    omega
  refine ⟨hL, ?_, ?_⟩
  · have key : mAb (rfA (irI A t (md S) x n v w) t (md S)) t (sIn S j p x n v w) := by
      have wI : aWy (irI A t (md S) x n v w) t = aWy A t := rfl
      have pI : aPl (irI A t (md S) x n v w) t = aPl A t := rfl
      refine rf_fix (S := sIn S j p x n v w) (R := fun l => mQ S i.toNat (l + 1)) hj ⟨fun l hl => ?_, fun l hl => ?_⟩ (fun l hl => ?_) (md S) _ (Nat.le_refl _) (fun k hk => ?_) (fun k hk => ?_) (fun l hl z hz => ?_)
      · have hl : l ≤ md S := hl
        have := (hP (md S - l) (by omega)).1
        rw [show md S - (md S - l) = l by omega] at this
        exact this
      · have hl : l < md S := hl
        have hin : i.toNat < mn S := by
          have := hs.npos (by omega)
          omega
        rw [sin_co (by omega)]
        exact ⟨(mQ_in hs hin (show l + 1 ≤ md S by omega)).2.1, (mQ_in hs hin (show l + 1 ≤ md S by omega)).2.2⟩
      · have hl : l < md S := hl
        have hn0 : 0 < mn S := hs.npos (by omega)
        have hin : i.toNat < mn S := by omega
        have g := hs.pos hn0 (show l ≤ md S by omega) (mQ_in hs hin (show l ≤ md S by omega)).1
        cases l with
        | zero =>
          rw [sin_c0]
          show 1 ≤ incN (mc S 0) p (mQ S i.toNat 1)
          rw [← hp, inc_at]
          omega
        | succ l =>
          rw [sin_co (by omega)]
          exact g
      · have hk : k ≤ md S := hk
        rw [wI, eW k hk]
        rfl
      · have hk : k < md S := hk
        rw [pI, eP k (by omega), ((hP k (by omega)).2.2.2 hk).1]
        show _ = ((mQ S i.toNat (md S - k - 1 + 1) : Nat) : Int) - (sm (mc (sIn S j p x n v w) (md S - k)) (mQ S i.toNat (md S - k + 1)) : Nat)
        rw [sin_co (by omega), show md S - k - 1 + 1 = md S - k by omega]
      · have hl : l ≤ md S := hl
        have hz : z < mK S l := hz
        have g := hA l hl z hz
        have ho := hs.off hl hz
        refine ndx_m ?_
        show NdX _ (mb S l z) (sIn S j p x n v w) l (mc (sIn S j p x n v w) l z) (sm (mc (sIn S j p x n v w) l) z) _
        cases l with
        | zero =>
          rw [sin_c0]
          refine Nd.X ?_ _
          have it0 : ∀ y e, it (sIn S j p x n v w) 0 y e = if e = 0 then insN (ms S) j x y else if e = 1 then insN (ml S) j n y + (1 - insN (mw S) j w y) * 32768 else insN (mv S) j v y := fun y e => rfl
          by_cases z1 : z = p
          · subst z1
            rw [inc_at, sm_inc_lo (Nat.le_refl _)]
            have f1 : aWf (irI A t (md S) x n v w) (mb S 0 z) = gIns (aWf A (mb S 0 z)) (mc S 0 z) (i - sm (mc S 0) z + 1) x (if w = 1 then n else n + 32768) v := by
              unfold irI
              rw [eWd, eP _ (Nat.le_refl _), eP0, ← g.2.1]
              exact gF_s _ _ _
            refine ⟨?_, ?_, fun y hy e he => ?_⟩
            · unfold irI
              rw [eWd]
              exact (gF_s _ _ _).trans g.1
            · unfold irI
              rw [eWd]
              refine (gF_s _ _ _).trans ?_
              show aEn A (mb S 0 z) + 1 = _
              rw [g.2.1]
              omega
            · rw [f1, it0]
              rcases Nat.lt_trichotomy (sm (mc S 0) z + y) j with y1 | y1 | y1
              · rw [gIns_lo (by omega) he (by omega), insN_lo y1, insN_lo y1, insN_lo y1, insN_lo y1, g.2.2 y (by omega) e he]
                rfl
              · obtain ⟨t1, t2, t3⟩ := gIns_at (f := aWf A (mb S 0 z)) (ent := ((mc S 0 z : Nat) : Int)) (i := i - sm (mc S 0) z + 1) (x := x) (y := if w = 1 then n else n + 32768) (z := v)
                rw [show ((i - sm (mc S 0) z + 1) * 3).toNat = y * 3 by omega] at t1 t2 t3
                rw [y1, insN_at, insN_at, insN_at, insN_at]
                match e, he with
                | 0, _ => exact t1
                | 1, _ =>
                  refine t2.trans ?_
                  show _ = n + (1 - w) * 32768
                  rcases hww with h9 | h9 <;> rw [h9]
                  · rw [if_neg (by decide)]
                    omega
                  · rw [if_pos rfl]
                    omega
                | 2, _ => exact t3
              · obtain ⟨r, rfl⟩ : ∃ r, y = r + 1 := ⟨y - 1, by omega⟩
                rw [gIns_hi (by omega) he (by omega) (by omega), show sm (mc S 0) z + (r + 1) = (sm (mc S 0) z + r) + 1 by omega, insN_hi (by omega), insN_hi (by omega), insN_hi (by omega), insN_hi (by omega), g.2.2 r (by omega) e he]
                rfl
          · have hne : mb S 0 z ≠ mb S 0 p := fun q => z1 (hj _ _ _ _ (Nat.zero_le _) hz (Nat.zero_le _) p1 q).2
            rw [inc_n z1]
            refine g.keep ?_ ?_ ?_ (fun y hy e he => ?_)
            · unfold irI
              rw [eWd]
              exact gF_n hne
            · unfold irI
              rw [eWd]
              exact gF_n hne
            · unfold irI
              rw [eWd]
              exact gF_n hne
            · rw [it0]
              by_cases z2 : z < p
              · have h5 : sm (mc S 0) (z + 1) ≤ sm (mc S 0) p := sm_mono z2
                have h6 : sm (mc S 0) (z + 1) = sm (mc S 0) z + mc S 0 z := rfl
                have y1 : sm (mc S 0) z + y < j := by omega
                rw [sm_inc_lo (by omega), insN_lo y1, insN_lo y1, insN_lo y1, insN_lo y1]
                rfl
              · have h5 : sm (mc S 0) (p + 1) ≤ sm (mc S 0) z := sm_mono (by omega)
                have h6 : sm (mc S 0) (p + 1) = sm (mc S 0) p + mc S 0 p := rfl
                have y1 : j ≤ sm (mc S 0) z + y := by omega
                rw [sm_inc_hi z (by omega), show sm (mc S 0) z + 1 + y = (sm (mc S 0) z + y) + 1 by omega, insN_hi y1, insN_hi y1, insN_hi y1, insN_hi y1]
                rfl
        | succ l =>
          rw [sin_co (by omega)]
          have hne : mb S (l + 1) z ≠ mb S 0 p := fun q => by
            have := (hj _ _ _ _ hl hz (Nat.zero_le _) p1 q).1
            omega
          refine ⟨?_, ?_, fun y hy e he hex => ?_⟩
          · unfold irI
            rw [eWd]
            exact (gF_n hne).trans g.1
          · unfold irI
            rw [eWd]
            exact (gF_n hne).trans g.2.1
          · have f1 : aWf (irI A t (md S) x n v w) (mb S (l + 1) z) = aWf A (mb S (l + 1) z) := by
              unfold irI
              rw [eWd]
              exact gF_n hne
            rw [f1, g.2.2 y hy e he, sin_it hs hi hjj hp hl (by have : mI S (l + 1) = mK S l := rfl; omega)]
            intro q
            refine hex ⟨q.1, ?_, ?_, ?_⟩
            · show md S - md S < l + 1
              omega
            · have hin : i.toNat < mn S := by
                have := hs.npos (by omega)
                omega
              obtain ⟨z1, z2, z3⟩ := mQ_in hs hin hl
              exact lc_uniq (f := mc S (l + 1)) (K := mK S (l + 1)) (q := mQ S i.toNat (l + 1)) (by omega) (by omega) z2 z3
            · show sm (mc S (l + 1)) z + y = mQ S i.toNat (l + 1 - 1 + 1)
              rw [show l + 1 - 1 + 1 = l + 1 by omega]
              exact q.2
    exact key
  · exact aOk_rf (md S) okI w260
end
