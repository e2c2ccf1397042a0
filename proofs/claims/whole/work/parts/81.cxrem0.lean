/-! removeRun of a file's last run -/
def sE (t : Nat) : mS := (0, (fun _ => 0), (fun _ => 0), (fun _ => 0), (fun _ => 0), 0, (fun _ => 1), (fun _ _ => 256 + t), (fun _ _ => 0))
def EmC (S : mS) (q : Nat) : Prop := q < mn S ∧ ∀ y, y ≤ md S → mc S y (mQ S q (y + 1)) = 1
section
variable {A : cA} {SS : Nat → mS} {F : Nat → Prop} {S : mS} {t m q c : Nat}
theorem emc_k (hs : mSh S t m) (h : EmC S q) : ∀ k, k ≤ md S → mK S (md S - k) = 1 := by
  obtain ⟨hi, h1⟩ := h
  intro k
  induction k with
  | zero => intro _; exact hs.2.1
  | succ k ih =>
    intro hk
    have e := ih (by omega)
    obtain ⟨y, hy⟩ : ∃ y, md S - k = y + 1 ∧ md S - (k + 1) = y := ⟨md S - k - 1, by omega, by omega⟩
    rw [hy.2]
    rw [hy.1] at e
    have h4 := hs.2.2.2.1 (y + 1) (by omega)
    have a1 := (mQ_in hs hi (show y + 1 ≤ md S by omega)).1
    have h5 := h1 (y + 1) (by omega)
    rw [show mQ S q (y + 1 + 1) = 0 by omega] at h5
    rw [e] at h4
    have h6 : sm (mc S (y + 1)) 1 = 0 + mc S (y + 1) 0 := rfl
    have h7 : mI S (y + 1) = mK S y := rfl
    omega
theorem sE_sh (ht : t < 4) : mSh (sE t) t m := by
  refine ⟨Nat.zero_le 5, rfl, rfl, fun l hl => ?_, fun l hl => absurd hl (Nat.not_lt_zero _), Nat.zero_le 4, fun h => absurd h (Nat.lt_irrefl 0)⟩
  have hl : l ≤ 0 := hl
  rw [show l = 0 by omega]
  rfl
theorem sE_rn : mRn (sE t) := ⟨fun i hi => absurd hi (Nat.not_lt_zero _), fun i hi => absurd hi (Nat.not_lt_zero _)⟩
set_option maxHeartbeats 1000000 in
theorem CX.remE (hc : CX A SS F) (ht : t < 4) (hS : SS t = S) (hw : WyTo A t S (q : Int)) (h : EmC S q) (hcd' : c = md S) :
    (0 ≤ aPl A t (md S) ∧ aPl A t (md S) < aEn A (aWy A t (md S))) ∧ (∀ m, m < c → RmOk A t (md S) m) ∧ CX (rmE (rmS A t (md S) c) t 0) (gF SS t (sE t)) F := by
  subst hS
  obtain ⟨hs, hr, ha, u1, u2, u3⟩ := hc.2.1 t ht
  have hj := hc.inj ht
  have hK := emc_k hs h
  obtain ⟨hi, h1'⟩ := h
  have hcd : c ≤ md (SS t) := by omega
  have h1 : ∀ y, y < c → mc (SS t) y (mQ (SS t) q (y + 1)) = 1 := fun y hy => h1' y (by omega)
  have hA := ab_nd.mp ha
  have eW : ∀ k, k ≤ md (SS t) → aWy A t k = mb (SS t) (md (SS t) - k) (mQ (SS t) q (md (SS t) - k + 1)) := fun k hk => by
    rw [(hw.2 k hk).1, pW_n]
  have eP : ∀ k, k ≤ md (SS t) → aPl A t k = (mQ (SS t) q (md (SS t) - k) : Int) - sm (mc (SS t) (md (SS t) - k)) (mQ (SS t) q (md (SS t) - k + 1)) := fun k hk => by
    rw [(hw.2 k hk).2, pPn hs hi hk]
  have nd : ∀ k, k ≤ md (SS t) → Nd A (aWy A t k) (SS t) (md (SS t) - k) (mc (SS t) (md (SS t) - k) (mQ (SS t) q (md (SS t) - k + 1))) (sm (mc (SS t) (md (SS t) - k)) (mQ (SS t) q (md (SS t) - k + 1))) := fun k hk => by
    rw [eW k hk]
    exact hA _ (by omega) _ (mQ_in hs hi (by omega)).1
  have inj : ∀ k k', k ≤ md (SS t) → k' ≤ md (SS t) → aWy A t k = aWy A t k' → k = k' := by
    intro k k' hk hk' e
    rw [eW k hk, eW k' hk'] at e
    have := (hj _ _ _ _ (by omega) (mQ_in hs hi (by omega)).1 (by omega) (mQ_in hs hi (by omega)).1 e).1
    omega
  have plb : ∀ k, k ≤ md (SS t) → 0 ≤ aPl A t k ∧ aPl A t k < aEn A (aWy A t k) := by
    intro k hk
    rw [eP k hk, (nd k hk).2.1]
    obtain ⟨a1, a2, a3⟩ := mQ_in hs hi (show md (SS t) - k ≤ md (SS t) by omega)
    omega
  have bl : ∀ k, 1 ≤ k → k ≤ md (SS t) → (1 ≤ aWy A t k ∧ aWy A t k ≤ 255) ∧ Own (SS t) (aWy A t k) := by
    intro k k1 hk
    have a1 := (mQ_in hs hi (show md (SS t) - k ≤ md (SS t) by omega)).1
    have := (hs.2.2.2.2.1 (md (SS t) - k) (by omega) _ a1).2.2
    rw [eW k hk]
    exact ⟨this, ⟨md (SS t) - k, _, by omega, a1, rfl⟩⟩
  have tk : ∀ k, 1 ≤ k → k ≤ md (SS t) → aTk A (aWy A t k) = 1 := by
    intro k k1 hk
    obtain ⟨b1, b2⟩ := bl k k1 hk
    rcases hc.ownF ht b1.1 (by omega) (hc.own ht b2) with ⟨g, _⟩ | ⟨_, _, _, g⟩
    · exact g
    · exact absurd b2 g
  have at_ := rms_at (A := A) (t := t) (l := md (SS t)) inj
  obtain ⟨z1, z2, z3, z4⟩ := at_ c hcd
  have d0 : aDp A (aWy A t (md (SS t))) = 0 := by
    rw [(nd (md (SS t)) (Nat.le_refl _)).1, Nat.sub_self]
    rfl
  have dk : ∀ k, k < md (SS t) → aDp A (aWy A t k) ≠ 0 := by
    intro k hk
    rw [(nd k (by omega)).1]
    omega
  obtain ⟨n1, n2, n3, n4, n5, n6, n7⟩ := rms_num inj d0 dk c hcd
  have cn := rms_cn inj hcd (fun k k1 k2 => ⟨(bl k (by omega) k2).1.1, (bl k (by omega) k2).1.2, tk k (by omega) k2⟩) c (Nat.le_refl _)
  have same := rms_same (A := A) (t := t) (l := md (SS t)) c
  have root0 : aWy A t 0 = 256 + t := by
    rw [eW 0 (by omega), Nat.sub_zero, mQ_top hs hi, hs.2.2.1]
  have okm : ∀ m, m ≤ c → aOk (rmS A t (md (SS t)) m) := by
    intro m
    induction m with
    | zero =>
      intro _
      have := plb (md (SS t)) (Nat.le_refl _)
      exact aOk_rem hc.1 (by rw [eW _ (Nat.le_refl _)]; exact hs.bl ht (by omega) (mQ_in hs hi (by omega)).1) (by omega)
    | succ m ih =>
      intro hm
      have w1 : aWy A t (md (SS t) - m) < 260 := by
        rw [eW _ (by omega)]
        exact hs.bl ht (by omega) (mQ_in hs hi (by omega)).1
      have w2 : aWy A t (md (SS t) - m - 1) < 260 := by
        rw [eW _ (by omega)]
        exact hs.bl ht (by omega) (mQ_in hs hi (by omega)).1
      refine aOk_rem (aOk_gb (ih (by omega)) w1) w2 ?_
      have hne : aWy A t (md (SS t) - m - 1) ≠ aWy A t (md (SS t) - m) := fun z => by
        have := inj _ _ (by omega) (by omega) z
        omega
      show 0 < gF (aEn (rmS A t (md (SS t)) m)) (aWy A t (md (SS t) - m)) 0 (aWy A t (md (SS t) - m - 1))
      rw [gF_n hne, ((at_ m (by omega)).1 (aWy A t (md (SS t) - m - 1)) (fun k h1 h2 z => by
        have := inj _ _ (by omega) h2 z
        omega)).2.1]
      have := plb (md (SS t) - m - 1) (by omega)
      omega
  have en0 : aEn (rmS A t (md (SS t)) c) (256 + t) = 0 := by
    have := z2.2.1
    rw [hcd', Nat.sub_self, root0] at this
    rw [hcd', this, ← root0, (nd 0 (by omega)).2.1, Nat.sub_zero, h1' (md (SS t)) (Nat.le_refl _)]
    rfl
  have hn1 : mn (SS t) = 1 := by
    obtain ⟨b1, b2⟩ := rm_one hs hi (md (SS t) + 1) (Nat.le_refl _) (fun z hz => h1' z (by omega))
    rw [mQ_top hs hi] at b1 b2
    have := fr_top hs (md (SS t) + 1) (Nat.le_refl _)
    have e : mI (SS t) (md (SS t) + 1) = 1 := hs.2.1
    rw [e] at this
    rw [fr_0] at b1
    have b2 : fr (mc (SS t)) (md (SS t) + 1) 1 = q + 1 := b2
    omega
  have eD : rmD (rmS A t (md (SS t)) c) t = sNd (rmS A t (md (SS t)) c) (256 + t) (aTk (rmS A t (md (SS t)) c) (256 + t)) 0 (aEn (rmS A t (md (SS t)) c) (256 + t)) := if_pos en0
  have hKy : ∀ y, y ≤ md (SS t) → mK (SS t) y = 1 := fun y hy => by
    have := hK (md (SS t) - y) (by omega)
    rw [show md (SS t) - (md (SS t) - y) = y by omega] at this
    exact this
  refine ⟨plb _ (Nat.le_refl _), fun m hm => ?_, ?_⟩
  · obtain ⟨y1, y2, y3, y4⟩ := at_ m (by omega)
    have hne : aWy A t (md (SS t) - m - 1) ≠ aWy A t (md (SS t) - m) := fun z => by
      have := inj _ _ (by omega) (by omega) z
      omega
    refine ⟨?_, ?_, (plb (md (SS t) - m - 1) (by omega)).1, ?_⟩
    · rw [y2.2.1, (nd (md (SS t) - m) (by omega)).2.1, show md (SS t) - (md (SS t) - m) = m by omega, h1 m hm]
      rfl
    · rw [y2.2.2]
      exact tk _ (by omega) (by omega)
    · show _ < gF (aEn (rmS A t (md (SS t)) m)) (aWy A t (md (SS t) - m)) 0 (aWy A t (md (SS t) - m - 1))
      rw [gF_n hne, (y1 (aWy A t (md (SS t) - m - 1)) (fun k h1 h2 z => by
        have := inj _ _ (by omega) h2 z
        omega)).2.1]
      exact (plb (md (SS t) - m - 1) (by omega)).2
  · have eE : rmE (rmS A t (md (SS t)) c) t 0 = sTr (sNd (rmS A t (md (SS t)) c) (256 + t) (aTk (rmS A t (md (SS t)) c) (256 + t)) 0 (aEn (rmS A t (md (SS t)) c) (256 + t))) t (aRu (rmS A t (md (SS t)) c) t - 1) (aBl (rmS A t (md (SS t)) c) t) (aMa (rmS A t (md (SS t)) c) t) (aMw (rmS A t (md (SS t)) c) t) (aLb (rmS A t (md (SS t)) c) t) (aLf (rmS A t (md (SS t)) c) t) := by
      unfold rmE
      rw [eD]
      rfl
    have okE : aOk (sNd (rmS A t (md (SS t)) c) (256 + t) (aTk (rmS A t (md (SS t)) c) (256 + t)) 0 (aEn (rmS A t (md (SS t)) c) (256 + t))) := aOk_sNd (okm c (Nat.le_refl _)) (by omega) (by rw [en0]; omega)
    rw [eE]
    have eTk : gF (aTk (rmS A t (md (SS t)) c)) (256 + t) (aTk (rmS A t (md (SS t)) c) (256 + t)) = aTk (rmS A t (md (SS t)) c) := gF_same _ _
    have eEn : gF (aEn (rmS A t (md (SS t)) c)) (256 + t) (aEn (rmS A t (md (SS t)) c) (256 + t)) = aEn (rmS A t (md (SS t)) c) := gF_same _ _
    have ownw : ∀ x, Own (SS t) x → ∃ k, 1 ≤ k ∧ k ≤ md (SS t) ∧ x = aWy A t k := by
      rintro x ⟨y, p, y1, y2, y3⟩
      refine ⟨md (SS t) - y, by omega, by omega, ?_⟩
      have k1 := hKy y (by omega)
      have k2 := (mQ_in hs hi (show y ≤ md (SS t) by omega)).1
      rw [eW _ (by omega), show md (SS t) - (md (SS t) - y) = y by omega, ← y3, show mQ (SS t) q (y + 1) = p by omega]
    refine hc.step (S' := sE t) (F' := F) ht okE n7 ⟨sE_sh ht, sE_rn, fun l hl p hp => ?_, ?_, ?_, ?_⟩ (fun l p l' p' hl hp hl' hp' _ => ?_) (fun t' ht' => ⟨?_, ?_, ?_⟩) (fun x hx => ?_) (fun x hx => ?_) (fun x x1 x2 hx => ?_) hc.2.2.2.2.1 (fun x hx => (hc.fre hx).1) ?_ ?_
    · have hl : l ≤ 0 := hl
      have hp : p < 1 := hp
      rw [show l = 0 by omega]
      refine ⟨gF_s _ _ _, ?_, fun j hj9 => absurd hj9 (Nat.not_lt_zero _)⟩
      show gF (aEn (rmS A t (md (SS t)) c)) (256 + t) (aEn (rmS A t (md (SS t)) c) (256 + t)) (256 + t) = 0
      rw [gF_s, en0]
    · show gF _ t _ t = _
      rw [gF_s, n1, u1, hn1]
      rfl
    · show gF _ t _ t = _
      rw [gF_s, n2, gF_s, u2]
      have sums : ∀ d, d ≤ md (SS t) → sm (mK (SS t)) d = d := by
        intro d
        induction d with
        | zero => intro _; rfl
        | succ d ih =>
          intro hd
          show sm (mK (SS t)) d + mK (SS t) d = d + 1
          rw [ih (by omega), hKy d (by omega)]
      rw [sums _ (Nat.le_refl _), hcd']
      show _ = ((0 : Nat) : Int)
      omega
    · show gF _ t _ t = _
      rw [gF_s, n5, gF_s, u3]
      show _ = (0 : Int)
      by_cases h9 : md (SS t) = 0
      · rw [if_pos (show c = 0 by omega), if_pos h9]
      · rw [if_neg (show ¬ c = 0 by omega), if_neg h9, hKy 0 (by omega)]
        rfl
    · have hl : l ≤ 0 := hl
      have hl' : l' ≤ 0 := hl'
      have hp : p < 1 := hp
      have hp' : p' < 1 := hp'
      exact ⟨by omega, by omega⟩
    · show gF (aRu (rmS A t (md (SS t)) c)) t _ t' = _
      rw [gF_n ht', n1]
    · show gF (aBl (rmS A t (md (SS t)) c)) t _ t' = _
      rw [gF_n ht', n2, gF_n ht']
    · show gF (aLb (rmS A t (md (SS t)) c)) t _ t' = _
      rw [gF_n ht', n5, gF_n ht']
    · have hxr : x ≠ 256 + t := fun z => hc.root (z ▸ hx)
      obtain ⟨o1, o2, o3⟩ := z1 x (fun k _ k2 e => by
        rw [eW k k2] at e
        exact (hc.node ht (by omega) (mQ_in hs hi (by omega)).1).1 (e ▸ hx))
      refine ⟨?_, ?_, o1, ?_⟩
      · show gF (aDp (rmS A t (md (SS t)) c)) (256 + t) 0 x = _
        rw [gF_n hxr, z4]
      · show gF (aEn (rmS A t (md (SS t)) c)) (256 + t) _ x = _
        rw [eEn]
        exact o2
      · show gF (aTk (rmS A t (md (SS t)) c)) (256 + t) _ x = _
        rw [eTk]
        exact o3
    · obtain ⟨y, p, y1, _⟩ := hx
      exact absurd y1 (Nat.not_lt_zero _)
    · have g := hc.ownF ht x1 x2 hx
      have hno : ¬ Own (sE t) x := fun ⟨y, p, y1, _⟩ => absurd y1 (Nat.not_lt_zero _)
      unfold bOk at g ⊢
      show (gF (aTk (rmS A t (md (SS t)) c)) (256 + t) _ x = 1 ∧ _) ∨ (gF (aTk (rmS A t (md (SS t)) c)) (256 + t) _ x = 0 ∧ gF (aEn (rmS A t (md (SS t)) c)) (256 + t) _ x = 0 ∧ _)
      rw [eTk, eEn]
      by_cases hx9 : ∃ k, 1 ≤ k ∧ k ≤ md (SS t) ∧ x = aWy A t k
      · obtain ⟨k, k1, k2, rfl⟩ := hx9
        have hown := (bl k (by omega) k2).2
        have hnf : ¬ F (aWy A t k) := by
          rcases g with ⟨_, ⟨_, g3⟩ | ⟨g2, _⟩⟩ | ⟨_, _, g3, _⟩
          · exact absurd hown g3
          · exact g2
          · exact g3
        obtain ⟨y1, y2⟩ := z3 k (by omega) k2
        exact Or.inr ⟨y2, y1, hnf, hno⟩
      · have hnS : ¬ Own (SS t) x := fun z => hx9 (ownw x z)
        obtain ⟨o1, o2, o3⟩ := z1 x (fun k _ k2 e => by
          by_cases h7 : k = 0
          · rw [h7, root0] at e
            omega
          · exact hx9 ⟨k, by omega, k2, e⟩)
        rw [o2, o3]
        rcases g with ⟨g1, ⟨g2, g3⟩ | ⟨g2, g3⟩⟩ | ⟨g1, g2, g3, g4⟩
        · exact Or.inl ⟨g1, Or.inl ⟨g2, hno⟩⟩
        · exact absurd g3 hnS
        · exact Or.inr ⟨g1, g2, g3, hno⟩
    · show gF (aTk (rmS A t (md (SS t)) c)) (256 + t) _ 0 = 0
      rw [eTk, (z1 0 (fun k _ hk e => by
        by_cases h7 : k = 0
        · rw [h7, root0] at e
          omega
        · have := (bl k (by omega) hk).1
          omega)).2.2]
      exact hc.2.2.2.2.2.1
    · show aLe (rmS A t (md (SS t)) c) = cnF (gF (aTk (rmS A t (md (SS t)) c)) (256 + t) _) 255
      rw [eTk, cn, n6, hc.2.2.2.2.2.2]
end
