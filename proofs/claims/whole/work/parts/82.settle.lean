/-! settle on the model: the root takes over its only child -/
def sSt (S : mS) (t : Nat) : mS := (mn S, ms S, ml S, mv S, mw S, md S - 1, mK S, gF (mb S) (md S - 1) (fun _ => 256 + t), mc S)
def StC (S : mS) : Prop := 0 < md S ∧ mc S (md S) 0 = 1 ∧ mc S (md S - 1) 0 ≤ 4
section
variable {A : cA} {SS : Nat → mS} {F : Nat → Prop} {S : mS} {t m : Nat}
theorem sst_bt : mb (sSt S t) (md S - 1) = fun _ => 256 + t := gF_s _ _ _
theorem sst_bo {k : Nat} (h : k ≠ md S - 1) : mb (sSt S t) k = mb S k := gF_n h
theorem stc_k (hs : mSh S t m) (h : StC S) : mK S (md S - 1) = 1 := by
  have h4 := hs.2.2.2.1 (md S) (Nat.le_refl _)
  rw [hs.2.1] at h4
  have h5 : sm (mc S (md S)) 1 = 0 + mc S (md S) 0 := rfl
  have h6 : mI S (md S) = mK S (md S - 1) := by
    obtain ⟨d, hd⟩ : ∃ d, md S = d + 1 := ⟨md S - 1, by have := h.1; omega⟩
    rw [hd]
    rfl
  have := h.2.1
  omega
theorem sst_sh (hs : mSh S t m) (h : StC S) : mSh (sSt S t) t m := by
  have hk := stc_k hs h
  obtain ⟨h1, h2, h3⟩ := h
  obtain ⟨s1, s2, s3, s4, s5, s6, s7⟩ := hs
  refine ⟨?_, hk, ?_, fun l hl => ?_, fun l hl p hp => ?_, h3, fun hd => ?_⟩
  · show md S - 1 ≤ 5
    omega
  · show mb (sSt S t) (md S - 1) 0 = _
    rw [sst_bt]
  · have hl : l ≤ md S - 1 := hl
    have := s4 l (by omega)
    cases l with
    | zero => exact this
    | succ l => exact this
  · have hl : l < md S - 1 := hl
    rw [sst_bo (by omega)]
    exact s5 l (by omega) p hp
  · exact (s5 (md S - 1) (by omega) 0 (by omega)).1
theorem sst_own (hs : mSh S t m) (hj : mInj S) (h : StC S) (x : Nat) : Own (sSt S t) x ↔ Own S x ∧ x ≠ mb S (md S - 1) 0 := by
  have hk := stc_k hs h
  obtain ⟨h1, h2, h3⟩ := h
  constructor
  · rintro ⟨y, p, y1, y2, y3⟩
    have y1 : y < md S - 1 := y1
    have y2 : p < mK S y := y2
    rw [sst_bo (by omega)] at y3
    refine ⟨⟨y, p, by omega, y2, y3⟩, fun z => ?_⟩
    rw [← y3] at z
    have := (hj _ _ _ _ (by omega) y2 (by omega) (by omega) z).1
    omega
  · rintro ⟨⟨y, p, y1, y2, y3⟩, z⟩
    by_cases e : y = md S - 1
    · subst e
      rw [hk] at y2
      rw [show p = 0 by omega] at y3
      exact absurd y3.symm z
    · exact ⟨y, p, show y < md S - 1 by omega, y2, by rw [sst_bo e]; exact y3⟩
theorem CX.settle1 (hc : CX A SS F) (ht : t < 4) (hS : SS t = S) (h : StC S) : StOk A t ∧ CX (gbA (mvA A (stI A t) 0 (256 + t)) t (stI A t)) (gF SS t (sSt S t)) F := by
  subst hS
  obtain ⟨hs, hr, ha, u1, u2, u3⟩ := hc.2.1 t ht
  have hj := hc.inj ht
  have hk := stc_k hs h
  have hh := h
  obtain ⟨h1, h2, h3⟩ := h
  have hA := ab_nd.mp ha
  obtain ⟨d, hd⟩ : ∃ d, md (SS t) = d + 1 := ⟨md (SS t) - 1, by omega⟩
  have hd1 : md (SS t) - 1 = d := by omega
  rw [hd1] at hk h3
  have n0 := hA (md (SS t)) (Nat.le_refl _) 0 (by have := hs.2.1; omega)
  rw [hs.2.2.1, h2] at n0
  have n1 := hA d (by omega) 0 (by omega)
  have b5 := hs.2.2.2.2.1 d (by omega) 0 (by omega)
  have eI : stI A t = mb (SS t) d 0 := by
    unfold stI
    rw [n0.2.1, gWd_in (by omega)]
    have g := n0.2.2 0 (by omega) 1 (by omega)
    have g : aWf A (256 + t) 1 = it (SS t) (md (SS t)) (sm (mc (SS t) (md (SS t))) 0 + 0) 1 := g
    show (aWf A (256 + t) 1).toNat = _
    rw [g, hd]
    show ((mb (SS t) d 0 : Nat) : Int).toNat = _
    omega
  have hown : Own (SS t) (mb (SS t) d 0) := ⟨d, 0, by omega, by omega, rfl⟩
  have tk : aTk A (mb (SS t) d 0) = 1 := by
    rcases hc.ownF ht b5.2.2.1 (by omega) (hc.own ht hown) with ⟨g, _⟩ | ⟨_, _, _, g⟩
    · exact g
    · exact absurd hown g
  have hne : mb (SS t) d 0 ≠ 256 + t := by omega
  rw [eI]
  refine ⟨⟨by rw [n0.2.1]; rfl, by rw [eI]; omega, by rw [eI, n1.2.1]; omega, by rw [eI]; exact tk⟩, ?_⟩
  generalize ho : mb (SS t) d 0 = o at *
  have rm4 : aRm A (256 + t) = 4 := if_neg (by omega)
  have okM : aOk (mvA A o 0 (256 + t)) := aOk_mv hc.1 (by omega) (by omega) (by have := (hc.1.2.2 o (by omega)).1; omega) (by rw [n1.2.1, rm4]; omega)
  have mD : ∀ x, aDp (gbA (mvA A o 0 (256 + t)) t o) x = if x = 256 + t then (d : Int) else aDp A x := by
    intro x
    show gF (gF (gF (aDp A) (256 + t) (aDp A o)) o (aDp A o)) o (gF (gF (aDp A) (256 + t) (aDp A o)) o (aDp A o) o) x = _
    rw [gF_same]
    by_cases e : x = 256 + t
    · rw [if_pos e, e, gF_n (Ne.symm hne), gF_s, n1.1]
    · rw [if_neg e]
      by_cases e2 : x = o
      · rw [e2, gF_s]
      · rw [gF_n e2, gF_n e]
  have mE : ∀ x, aEn (gbA (mvA A o 0 (256 + t)) t o) x = if x = 256 + t then (mc (SS t) d 0 : Int) else if x = o then 0 else aEn A x := by
    intro x
    show gF (gF (gF (aEn A) (256 + t) (aEn A o - 0)) o 0) o 0 x = _
    by_cases e : x = 256 + t
    · rw [if_pos e, e, gF_n (Ne.symm hne), gF_n (Ne.symm hne), gF_s, n1.2.1]
      omega
    · rw [if_neg e]
      by_cases e2 : x = o
      · rw [if_pos e2, e2, gF_s]
      · rw [if_neg e2, gF_n e2, gF_n e2, gF_n e]
  have mW : ∀ x, aWf (gbA (mvA A o 0 (256 + t)) t o) x = if x = 256 + t then gCp (aWf A o) (aWf A (256 + t)) 0 0 (mc (SS t) d 0 * 3) else aWf A x := by
    intro x
    show gF (aWf A) (256 + t) (gCp (aWf A o) (aWf A (256 + t)) ((0 : Int) * 3).toNat 0 ((aEn A o - 0) * 3).toNat) x = _
    by_cases e : x = 256 + t
    · rw [if_pos e, e, gF_s, n1.2.1]
      congr 1
    · rw [if_neg e, gF_n e]
  have mT : aTk (gbA (mvA A o 0 (256 + t)) t o) = gF (aTk A) o 0 := by
    show gF (gF (gF (aTk A) (256 + t) (aTk A (256 + t))) o (aTk A o)) o 0 = _
    rw [gF_same, gF_same]
  have dpo : aDp (mvA A o 0 (256 + t)) o = d := by
    show gF (gF (aDp A) (256 + t) (aDp A o)) o (aDp A o) o = _
    rw [gF_s, n1.1]
  refine hc.step (S' := sSt (SS t) t) (F' := F) ht (aOk_gb okM (by omega)) rfl ⟨sst_sh hs hh, hr, ?_, ?_, ?_, ?_⟩ (fun l p l' p' hl hp hl' hp' e => ?_) (fun t' ht' => ⟨?_, ?_, ?_⟩) (fun x hx => ?_) (fun x hx => hc.own ht ((sst_own hs hj hh x).mp hx).1) (fun x x1 x2 hx => ?_) hc.2.2.2.2.1 (fun x hx => (hc.fre hx).1) ?_ ?_
  · refine ab_nd.mpr (fun l hl p hp => ?_)
    have hl : l ≤ md (SS t) - 1 := hl
    have hp : p < mK (SS t) l := hp
    have its : ∀ y x e, y ≤ d → it (sSt (SS t) t) y x e = it (SS t) y x e := by
      intro y x e hy
      refine it_eq rfl ?_ ?_
      · cases y with
        | zero => rfl
        | succ y =>
          show ((mb (sSt (SS t) t) y x : Nat) : Int) = _
          rw [sst_bo (by omega)]
          rfl
      · cases y <;> rfl
    show Nd _ (mb (sSt (SS t) t) l p) (sSt (SS t) t) l (mc (SS t) l p) (sm (mc (SS t) l) p)
    by_cases e : l = d
    · subst e
      rw [show p = 0 by omega]
      have eb : mb (sSt (SS t) t) l 0 = 256 + t := by
        rw [← hd1, sst_bt]
      rw [eb]
      refine ⟨by rw [mD, if_pos rfl], by rw [mE, if_pos rfl], fun j hj9 e he => ?_⟩
      rw [mW, if_pos rfl, its _ _ _ (Nat.le_refl _)]
      unfold gCp
      rw [if_pos (by omega), show 0 + (j * 3 + e - 0) = j * 3 + e by omega]
      exact n1.2.2 j hj9 e he
    · rw [sst_bo (by omega)]
      have g := hA l (by omega) p hp
      have b9 := (hs.2.2.2.2.1 l (by omega) p hp).2.2.2
      have e2 : mb (SS t) l p ≠ o := fun z => by
        rw [← ho] at z
        exact e (hj _ _ _ _ (by omega) hp (by omega) (by omega) z).1
      exact g.keep (by rw [mD, if_neg (by omega)]) (by rw [mE, if_neg (by omega), if_neg e2]) (by rw [mW, if_neg (by omega)]) (fun j _ e _ => its _ _ _ (by omega))
  · show gF (aRu A) t (aRu A t) t = _
    rw [gF_s]
    exact u1
  · show gF (aBl A) t (aBl A t + -1) t = _
    rw [gF_s, u2, hd]
    show ((sm (mK (SS t)) d + mK (SS t) d : Nat) : Int) + -1 = ((sm (mK (SS t)) (md (SS t) - 1) : Nat) : Int)
    rw [hk, hd1]
    omega
  · show gF (aLb A) t (if aDp (mvA A o 0 (256 + t)) o = 0 then aLb A t + -1 else aLb A t) t = if md (SS t) - 1 = 0 then (0 : Int) else ((mK (SS t) 0 : Nat) : Int)
    rw [gF_s, dpo, u3, if_neg (show ¬ md (SS t) = 0 by omega), hd1]
    by_cases e : d = 0
    · rw [if_pos e, if_pos (by omega)]
      rw [e] at hk
      rw [hk]
      rfl
    · rw [if_neg e, if_neg (by omega)]
  · have hl : l ≤ md (SS t) - 1 := hl
    have hl' : l' ≤ md (SS t) - 1 := hl'
    have hp : p < mK (SS t) l := hp
    have hp' : p' < mK (SS t) l' := hp'
    by_cases e1 : l = d <;> by_cases e2 : l' = d
    · rw [e1, hk] at hp
      rw [e2, hk] at hp'
      exact ⟨by omega, by omega⟩
    · have e3 : mb (sSt (SS t) t) l p = 256 + t := by rw [e1, ← hd1, sst_bt]
      rw [e3, sst_bo (by omega)] at e
      have := (hs.2.2.2.2.1 l' (by omega) p' hp').2.2.2
      omega
    · have e3 : mb (sSt (SS t) t) l' p' = 256 + t := by rw [e2, ← hd1, sst_bt]
      rw [e3, sst_bo (by omega)] at e
      have := (hs.2.2.2.2.1 l (by omega) p hp).2.2.2
      omega
    · rw [sst_bo (by omega), sst_bo (by omega)] at e
      exact hj _ _ _ _ (by omega) hp (by omega) hp' e
  · show gF (aRu A) t (aRu A t) t' = _
    rw [gF_n ht']
  · show gF (aBl A) t (aBl A t + -1) t' = _
    rw [gF_n ht']
  · show gF (aLb A) t _ t' = _
    rw [gF_n ht']
  · have x1 : x ≠ 256 + t := fun z => hc.root (z ▸ hx)
    have x2 : x ≠ o := fun z => hc.own ht hown (z ▸ hx)
    rw [mD, mE, mW, mT, if_neg x1, if_neg x1, if_neg x1, if_neg x2, gF_n x2]
    exact ⟨rfl, rfl, rfl, rfl⟩
  · have g := hc.ownF ht x1 x2 hx
    have hoS := sst_own hs hj hh x
    rw [hd1, ho] at hoS
    unfold bOk at g ⊢
    rw [mT, mE, hoS, if_neg (show ¬ x = 256 + t by omega)]
    by_cases e : x = o
    · subst e
      rw [gF_s, if_pos rfl]
      refine Or.inr ⟨rfl, rfl, ?_, fun z => z.2 rfl⟩
      rcases g with ⟨_, ⟨_, g3⟩ | ⟨g2, _⟩⟩ | ⟨_, _, g3, _⟩
      · exact absurd hown g3
      · exact g2
      · exact g3
    · rw [gF_n e, if_neg e]
      rcases g with ⟨g1, ⟨g2, g3⟩ | ⟨g2, g3⟩⟩ | ⟨g1, g2, g3, g4⟩
      · exact Or.inl ⟨g1, Or.inl ⟨g2, fun z => g3 z.1⟩⟩
      · exact Or.inl ⟨g1, Or.inr ⟨g2, g3, e⟩⟩
      · exact Or.inr ⟨g1, g2, g3, fun z => g4 z.1⟩
  · rw [mT, gF_n (by omega)]
    exact hc.2.2.2.2.2.1
  · rw [mT, (cnF_give b5.2.2.1 tk 255).2 (by omega)]
    show aLe A + 1 = _
    rw [hc.2.2.2.2.2.2]
end
