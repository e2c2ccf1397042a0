/-! splitBlock is the split of the model; the way stays the way -/
def WyTo (A : cA) (t : Nat) (S : mS) (i : Int) : Prop := aLf A t = md S ∧ ∀ k, k ≤ md S → aWy A t k = pW S i k ∧ aPl A t k = pP S i k
theorem wy_fnd {A : cA} {t : Nat} {S : mS} {i : Int} : WyTo (fnd A t (pW S i) (pP S i) (md S + 1) (md S)) t S i := ⟨fnd_lf, fun k hk => ⟨fnd_wy hk, fnd_pl hk⟩⟩
section
variable {A : cA} {S : mS} {t k l b h : Nat} {i : Int}
set_option maxHeartbeats 1000000 in
theorem ab_split (ok : aOk A) (ht : t < 4) (hs : mSh S t (aM A)) (hj : mInj S) (ha : mAb A t S) (hw : WyTo A t S i) (hi : -1 ≤ i ∧ i < mn S) (hk : 1 ≤ k ∧ k ≤ md S) (hl : md S - k = l) (hh : (aM A + 1) / 2 = h) (hfull : mc S l (mQ S i.toNat (l + 1)) = aM A) (hroom : mc S (l + 1) (mQ S i.toNat (l + 2)) < if l + 1 = md S then 4 else aM A) (hb : aFs A t k = b) (hb2 : 1 ≤ b ∧ b ≤ 255) (hb3 : ∀ k q, k ≤ md S → q < mK S k → mb S k q ≠ b) :
    SpO S (aM A) l (mQ S i.toNat (l + 1)) (mQ S i.toNat (l + 2)) h b ∧ SplitOk A t k ∧ mAb (spA A t k) t (sSp S l (mQ S i.toNat (l + 1)) (mQ S i.toNat (l + 2)) h b) ∧ WyTo (spA A t k) t (sSp S l (mQ S i.toNat (l + 1)) (mQ S i.toNat (l + 2)) h b) i ∧ aOk (spA A t k) := by
  have hn : 0 < mn S := hs.npos (by omega)
  have hin : i.toNat < mn S := by omega
  have hm := ok.1
  obtain ⟨a1, a2, a3⟩ := mQ_in hs hin (show l ≤ md S by omega)
  obtain ⟨c1, c2, c3⟩ : mQ S i.toNat (l + 2) < mK S (l + 1) ∧ sm (mc S (l + 1)) (mQ S i.toNat (l + 2)) ≤ mQ S i.toNat (l + 1) ∧ mQ S i.toNat (l + 1) < sm (mc S (l + 1)) (mQ S i.toNat (l + 2)) + mc S (l + 1) (mQ S i.toNat (l + 2)) := mQ_in hs hin (show l + 1 ≤ md S by omega)
  have hO : SpO S (aM A) l (mQ S i.toNat (l + 1)) (mQ S i.toNat (l + 2)) h b := ⟨by omega, a1, c1, ⟨c2, c3⟩, by omega, hb2, hb3, hroom⟩
  have hmQ := ssp_mQ hs hin hO
  have hA := ab_nd.mp ha
  have n1 := hA l (by omega) _ a1
  have n2 := hA (l + 1) (by omega) _ c1
  have e1 : aWy A t k = mb S l (mQ S i.toNat (l + 1)) := by
    rw [(hw.2 k hk.2).1]
    unfold pW
    rw [hl]
  have e2 : aWy A t (k - 1) = mb S (l + 1) (mQ S i.toNat (l + 2)) := by
    rw [(hw.2 (k - 1) (by omega)).1]
    unfold pW
    rw [show md S - (k - 1) = l + 1 by omega]
  have e3 : aPl A t (k - 1) = (mQ S i.toNat (l + 1) : Int) - sm (mc S (l + 1)) (mQ S i.toNat (l + 2)) := by
    rw [(hw.2 (k - 1) (by omega)).2]
    unfold pP
    rw [if_neg (by omega), show md S - (k - 1) = l + 1 by omega]
  have e4 : aPl A t k = pP S i k := (hw.2 k hk.2).2
  obtain ⟨f1, f2, f3, -⟩ := pP_b hs hi hk.2
  rw [hl] at f1 f3
  have o256 : mb S l (mQ S i.toNat (l + 1)) < 256 := by
    have := (hs.2.2.2.2.1 l (by omega) _ a1).2.2.2
    omega
  have q260 := hs.bl ht (show l + 1 ≤ md S by omega) c1
  have hob : mb S l (mQ S i.toNat (l + 1)) ≠ b := hb3 _ _ (by omega) a1
  have hqb : mb S (l + 1) (mQ S i.toNat (l + 2)) ≠ b := hb3 _ _ (by omega) c1
  have hqo : mb S (l + 1) (mQ S i.toNat (l + 2)) ≠ mb S l (mQ S i.toNat (l + 1)) := by
    intro z
    have := (hj _ _ _ _ (show l + 1 ≤ md S by omega) c1 (show l ≤ md S by omega) a1 z).1
    omega
  have rmo : aRm A (mb S l (mQ S i.toNat (l + 1))) = aM A := if_pos o256
  have rmq : aRm A (mb S (l + 1) (mQ S i.toNat (l + 2))) = if l + 1 = md S then 4 else aM A := by
    unfold aRm
    by_cases h9 : l + 1 = md S
    · have hP : mQ S i.toNat (l + 2) = 0 := by
        have := hs.2.1
        rw [← h9] at this
        omega
      rw [if_pos h9, hP, h9, hs.2.2.1, if_neg (by omega)]
    · have := (hs.2.2.2.2.1 (l + 1) (by omega) _ c1).2.2.2
      rw [if_neg h9, if_pos (by omega)]
  have hhh : ((aRm A (mb S l (mQ S i.toNat (l + 1))) : Int) + 1) / 2 = (h : Int) := by
    rw [rmo]
    omega
  have hho : (h : Int) < aEn A (mb S l (mQ S i.toNat (l + 1))) := by
    rw [n1.2.1]
    omega
  obtain ⟨u1, u2, u3⟩ := sp_old e1 hb e2 hhh hob hqo
  obtain ⟨v1, v2, v3⟩ := sp_new e1 hb e2 hhh hob hqb
  obtain ⟨w1, w2, w3⟩ := sp_up e1 hb e2 hhh hob hqo hqb hho
  have hoth := fun {x : Nat} => sp_oth (x := x) e1 hb e2 hhh
  have rk := ok.2.2 _ q260
  refine ⟨hO, ?_, ?_, ?_, ?_⟩
  · refine ⟨ok, ⟨hk.1, by have := hs.1; omega⟩, by omega, by omega, by rw [e1, hb]; exact hob, by omega, by rw [e1, e2]; exact hqo, by rw [hb, e2]; exact hqb, ?_, ?_, ?_, ?_⟩
    · rw [e1, n1.2.1, rmo, hfull]
    · rw [e2, n2.2.1, rmq]
      omega
    · rw [e1, rmo, e4]
      omega
    · rw [e2, e3, n2.2.1]
      omega
  · generalize hp : mQ S i.toNat (l + 1) = p at *
    generalize hP : mQ S i.toNat (l + 2) = P at *
    refine ab_nd.mpr (fun y hy z hz => ?_)
    have hy : y ≤ md S := hy
    by_cases y1 : y = l
    · subst y1
      rw [ssp_kl] at hz
      rw [ssp_cl, ssp_bl]
      rcases Nat.lt_trichotomy z p with z1 | z1 | z1
      · rw [insN_lo (by omega), spl_lo z1, sm_spl_lo (by omega)]
        have g := hA y hy z (by omega)
        obtain ⟨x1, x2, x3⟩ := hoth (x := mb S y z) (fun q => by have := (hj _ _ _ _ hy (show z < mK S y by omega) hy a1 q).2; omega) (hb3 _ _ hy (by omega)) (fun q => by have := (hj _ _ _ _ hy (show z < mK S y by omega) (show y + 1 ≤ md S by omega) c1 q).1; omega)
        exact g.keep x1 x2 x3 (fun j _ e _ => ssp_it (Nat.le_refl _))
      · subst z1
        rw [insN_lo (by omega), spl_at, sm_spl_lo (Nat.le_refl _)]
        refine ⟨u1.trans n1.1, u2, fun j hj9 e he => ?_⟩
        rw [u3, ssp_it (Nat.le_refl _)]
        exact n1.2.2 j (by omega) e he
      · by_cases z2 : z = p + 1
        · subst z2
          rw [insN_at, spl_nx, sm_spl_at]
          refine ⟨v1.trans n1.1, by rw [v2, n1.2.1]; omega, fun j hj9 e he => ?_⟩
          rw [v3, ssp_it (Nat.le_refl _), n1.2.1]
          unfold gCp
          rw [if_pos (by omega), show ((h : Int) * 3).toNat + (j * 3 + e - 0) = (h + j) * 3 + e by omega, n1.2.2 (h + j) (by omega) e he, Nat.add_assoc]
        · obtain ⟨r, rfl⟩ : ∃ r, z = r + 1 := ⟨z - 1, by omega⟩
          rw [insN_hi (by omega), spl_hi (by omega), sm_spl_hi (by omega) r (by omega)]
          have g := hA y hy r (by omega)
          obtain ⟨x1, x2, x3⟩ := hoth (x := mb S y r) (fun q => by have := (hj _ _ _ _ hy (show r < mK S y by omega) hy a1 q).2; omega) (hb3 _ _ hy (by omega)) (fun q => by have := (hj _ _ _ _ hy (show r < mK S y by omega) (show y + 1 ≤ md S by omega) c1 q).1; omega)
          exact g.keep x1 x2 x3 (fun j _ e _ => ssp_it (Nat.le_refl _))
    · rw [ssp_ko y1] at hz
      rw [ssp_bo y1]
      have g := hA y hy z hz
      by_cases y2 : y = l + 1
      · subst y2
        rw [ssp_cu]
        by_cases z1 : z = P
        · subst z1
          rw [inc_at, sm_inc_lo (Nat.le_refl _)]
          refine ⟨w1.trans g.1, by rw [w2, g.2.1]; omega, fun j hj9 e he => ?_⟩
          rw [w3, g.2.1, e3]
          rcases Nat.lt_trichotomy (sm (mc S (l + 1)) z + j) (p + 1) with j1 | j1 | j1
          · rw [gIns_lo (by omega) he (by omega), ssp_it_lo (by omega)]
            exact g.2.2 j (by omega) e he
          · rw [j1, ssp_it_at he]
            obtain ⟨t1, t2, t3⟩ := gIns_at (f := aWf A (mb S (l + 1) z)) (ent := ((mc S (l + 1) z : Nat) : Int)) (i := (p : Int) - sm (mc S (l + 1)) z + 1) (x := aWf A (mb S l p) (h * 3)) (y := nNo b) (z := 0)
            rw [show (((p : Int) - sm (mc S (l + 1)) z + 1) * 3).toNat = j * 3 by omega] at t1 t2 t3
            match e, he with
            | 0, _ =>
              refine t1.trans ?_
              exact n1.2.2 h (by omega) 0 (by omega)
            | 1, _ =>
              refine t2.trans ?_
              unfold nNo
              rw [if_pos (by omega)]
              rfl
            | 2, _ => exact t3
          · obtain ⟨r, rfl⟩ : ∃ r, j = r + 1 := ⟨j - 1, by omega⟩
            rw [gIns_hi (by omega) he (by omega) (by omega), show sm (mc S (l + 1)) z + (r + 1) = (sm (mc S (l + 1)) z + r) + 1 by omega, ssp_it_hi (by omega) (by omega)]
            exact g.2.2 r (by omega) e he
        · rw [inc_n z1]
          obtain ⟨x1, x2, x3⟩ := hoth (x := mb S (l + 1) z) (fun q => by have := (hj _ _ _ _ hy hz (show l ≤ md S by omega) a1 q).1; omega) (hb3 _ _ hy hz) (fun q => z1 (hj _ _ _ _ hy hz hy c1 q).2)
          by_cases z2 : z < P
          · have h5 : sm (mc S (l + 1)) (z + 1) ≤ sm (mc S (l + 1)) P := sm_mono z2
            have h6 : sm (mc S (l + 1)) (z + 1) = sm (mc S (l + 1)) z + mc S (l + 1) z := rfl
            rw [sm_inc_lo (by omega)]
            exact g.keep x1 x2 x3 (fun j hj9 e _ => ssp_it_lo (by omega))
          · have h5 : sm (mc S (l + 1)) (P + 1) ≤ sm (mc S (l + 1)) z := sm_mono (by omega)
            have h6 : sm (mc S (l + 1)) (P + 1) = sm (mc S (l + 1)) P + mc S (l + 1) P := rfl
            rw [sm_inc_hi z (by omega)]
            refine g.keep x1 x2 x3 (fun j hj9 e _ => ?_)
            rw [show sm (mc S (l + 1)) z + 1 + j = (sm (mc S (l + 1)) z + j) + 1 by omega]
            exact ssp_it_hi (by omega) (by omega)
      · rw [ssp_co y1 y2]
        obtain ⟨x1, x2, x3⟩ := hoth (x := mb S y z) (fun q => y1 (hj _ _ _ _ hy hz (show l ≤ md S by omega) a1 q).1) (hb3 _ _ hy hz) (fun q => y2 (hj _ _ _ _ hy hz (show l + 1 ≤ md S by omega) c1 q).1)
        refine g.keep x1 x2 x3 (fun j _ e _ => ?_)
        by_cases y3 : y ≤ l
        · exact ssp_it y3
        · exact ssp_it2 hO (by omega)
  · have hspl : aLf (spA A t k) t = md S := sp_lf.trans hw.1
    refine ⟨hspl, fun x hx => ?_⟩
    have hx : x ≤ md S := hx
    have hx0 := hw.2 x hx
    have mo : ∀ y, y ≤ md S + 1 → y ≠ l + 1 → mQ (sSp S l (mQ S i.toNat (l + 1)) (mQ S i.toNat (l + 2)) h b) i.toNat y = mQ S i.toNat y := fun y hy hy1 => (hmQ y hy).trans (if_neg hy1)
    have ml : mQ (sSp S l (mQ S i.toNat (l + 1)) (mQ S i.toNat (l + 2)) h b) i.toNat (l + 1) = if sm (mc S l) (mQ S i.toNat (l + 1)) + h ≤ mQ S i.toNat l then mQ S i.toNat (l + 1) + 1 else mQ S i.toNat (l + 1) := (hmQ (l + 1) (by omega)).trans (if_pos rfl)
    have hcond : (h : Int) < aPl A t k + 1 ↔ sm (mc S l) (mQ S i.toNat (l + 1)) + h ≤ mQ S i.toNat l := by
      rw [e4]
      unfold pP
      by_cases h9 : k = md S
      · rw [if_pos h9]
        have hl0 : l = 0 := by omega
        subst hl0
        have z0 : mQ S i.toNat 0 = i.toNat := rfl
        have z1 : mQ S i.toNat (0 + 1) = mQ S i.toNat 1 := rfl
        rw [z0, z1]
        have : 1 ≤ h := by omega
        constructor
        · intro; omega
        · intro; omega
      · rw [if_neg h9, hl]
        omega
    have unf : spA A t k = if (h : Int) < aPl A t k + 1 then fH (spC A t k) t (gF (aWy A t) k b) (gF (gF (aPl A t) k (aPl A t k - h)) (k - 1) (aPl A t (k - 1) + 1)) (aFs A t) (aLf A t) else spC A t k := by
      unfold spA
      rw [e1, hb, hhh]
    have hrest : ∀ y, y ≠ l → y ≠ l + 1 → y ≤ md S → mb (sSp S l (mQ S i.toNat (l + 1)) (mQ S i.toNat (l + 2)) h b) y (mQ (sSp S l (mQ S i.toNat (l + 1)) (mQ S i.toNat (l + 2)) h b) i.toNat (y + 1)) = mb S y (mQ S i.toNat (y + 1)) := by
      intro y y1 y2 y3
      rw [ssp_bo y1, mo _ (by omega) (by omega)]
    generalize hS' : sSp S l (mQ S i.toNat (l + 1)) (mQ S i.toNat (l + 2)) h b = S' at *
    have hd' : md S' = md S := by rw [← hS']; rfl
    have kc : md S - (k - 1) = l + 1 := by omega
    have cl' : mc S' l = splN (mc S l) (mQ S i.toNat (l + 1)) h := by rw [← hS']; exact ssp_cl
    have cu' : mc S' (l + 1) = incN (mc S (l + 1)) (mQ S i.toNat (l + 2)) := by rw [← hS']; exact ssp_cu
    have co' : ∀ y, y ≠ l → y ≠ l + 1 → mc S' y = mc S y := fun y h1 h2 => by rw [← hS']; exact ssp_co h1 h2
    have bl' : mb S' l = insN (mb S l) (mQ S i.toNat (l + 1) + 1) b := by rw [← hS']; exact ssp_bl
    have bo' : ∀ y, y ≠ l → mb S' y = mb S y := fun y h1 => by rw [← hS']; exact ssp_bo h1
    have w0 : aWy (spC A t k) t = aWy A t := rfl
    have p0 : aPl (spC A t k) t = aPl A t := rfl
    by_cases hc : sm (mc S l) (mQ S i.toNat (l + 1)) + h ≤ mQ S i.toNat l
    · rw [if_pos (hcond.mpr hc)] at unf
      rw [if_pos hc] at ml
      rw [unf, fH_wy, fH_pl]
      by_cases x1 : x = k
      · subst x1
        refine ⟨?_, ?_⟩
        · rw [gF_s]
          unfold pW
          rw [hd', hl, ml, bl', insN_at]
        · rw [gF_n (by omega), gF_s, e4]
          unfold pP
          rw [hd']
          by_cases h9 : x = md S
          · have hl0 : l = 0 := by omega
            subst hl0
            have ml' : mQ S' i.toNat 1 = mQ S i.toNat 1 + 1 := ml
            rw [if_pos h9, if_pos h9, ml', cl', sm_spl_at]
            have z1 : sm (mc S 0) (mQ S i.toNat (0 + 1)) = sm (mc S 0) (mQ S i.toNat 1) := rfl
            omega
          · rw [if_neg h9, if_neg h9, hl, ml, cl', sm_spl_at, mo l (by omega) (by omega)]
            omega
      · by_cases x2 : x = k - 1
        · subst x2
          refine ⟨?_, ?_⟩
          · rw [gF_n x1, e2]
            unfold pW
            rw [hd', kc, mo _ (by omega) (by omega), bo' _ (by omega)]
          · rw [gF_s, e3]
            unfold pP
            rw [hd', if_neg (by omega), kc, ml, mo _ (by omega) (by omega), cu', sm_inc_lo (Nat.le_refl _)]
            omega
        · refine ⟨?_, ?_⟩
          · rw [gF_n x1, hx0.1]
            unfold pW
            rw [hd', hrest _ (by omega) (by omega) (by omega)]
          · rw [gF_n x2, gF_n x1, hx0.2]
            unfold pP
            rw [hd']
            by_cases h9 : x = md S
            · have mo1 : mQ S' i.toNat 1 = mQ S i.toNat 1 := mo 1 (by omega) (by omega)
              rw [if_pos h9, if_pos h9, mo1, co' 0 (by omega) (by omega)]
            · rw [if_neg h9, if_neg h9, mo _ (by omega) (by omega), mo _ (by omega) (by omega), co' _ (by omega) (by omega)]
    · rw [if_neg (fun z => hc (hcond.mp z))] at unf
      rw [if_neg hc] at ml
      rw [unf, w0, p0, hx0.1, hx0.2]
      have mo2 : ∀ y, y ≤ md S + 1 → mQ S' i.toNat y = mQ S i.toNat y := by
        intro y hy
        by_cases h9 : y = l + 1
        · rw [h9, ml]
        · exact mo y hy h9
      have sm2 : ∀ y, y ≤ md S → sm (mc S' y) (mQ S i.toNat (y + 1)) = sm (mc S y) (mQ S i.toNat (y + 1)) := by
        intro y hy
        by_cases h9 : y = l
        · subst h9
          rw [cl', sm_spl_lo (Nat.le_refl _)]
        · by_cases h8 : y = l + 1
          · subst h8
            rw [cu', sm_inc_lo (Nat.le_refl _)]
          · rw [co' y h9 h8]
      refine ⟨?_, ?_⟩
      · unfold pW
        rw [hd', mo2 _ (by omega)]
        by_cases h9 : md S - x = l
        · rw [h9, bl', insN_lo (by omega)]
        · rw [bo' _ h9]
      · unfold pP
        rw [hd']
        by_cases h9 : x = md S
        · have s0 := sm2 0 (by omega)
          have s0 : sm (mc S' 0) (mQ S i.toNat 1) = sm (mc S 0) (mQ S i.toNat 1) := s0
          rw [if_pos h9, if_pos h9, mo2 1 (by omega), s0]
        · rw [if_neg h9, if_neg h9, mo2 _ (by omega), mo2 _ (by omega), sm2 _ (by omega)]
  · have okM : aOk (mvA A (mb S l (mQ S i.toNat (l + 1))) h b) := aOk_mv ok (by omega) (by omega) (by omega) (by
      unfold aRm
      rw [if_pos (by omega), n1.2.1]
      omega)
    have okC : aOk (spC A t k) := by
      unfold spC spB
      rw [e1, hb, e2, hhh]
      refine aOk_ins (aOk_cb okM) q260 ?_ (aOk.wd (aOk_cb okM) (by omega) 0 0) ?_ (by omega)
      · show gF (gF (aEn A) b _) _ _ (mb S (l + 1) (mQ S i.toNat (l + 2))) < _
        rw [gF_n hqo, gF_n hqb, n2.2.1]
        show _ < ((aRm A _ : Nat) : Int)
        rw [rmq]
        omega
      · have := nNo_r (i := b) (by omega)
        omega
    unfold spA
    split
    · exact okC
    · exact okC
end
