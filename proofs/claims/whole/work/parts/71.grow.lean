/-! the root goes into a block, and has it as its one entry -/
def sGw (S : mS) (t b : Nat) : mS := (mn S, ms S, ml S, mv S, mw S, md S + 1, gF (mK S) (md S + 1) 1, gF (gF (mb S) (md S) (fun _ => b)) (md S + 1) (fun _ => 256 + t), gF (mc S) (md S + 1) (fun _ => 1))
section
variable {A : cA} {S : mS} {t m b : Nat} {i : Int}
theorem sgw_kt : mK (sGw S t b) (md S + 1) = 1 := gF_s _ _ _
theorem sgw_ko {k : Nat} (h : k ≤ md S) : mK (sGw S t b) k = mK S k := gF_n (by omega)
theorem sgw_ct : mc (sGw S t b) (md S + 1) = fun _ => 1 := gF_s _ _ _
theorem sgw_co {k : Nat} (h : k ≤ md S) : mc (sGw S t b) k = mc S k := gF_n (by omega)
theorem sgw_bt : mb (sGw S t b) (md S + 1) = fun _ => 256 + t := gF_s _ _ _
theorem sgw_bd : mb (sGw S t b) (md S) = fun _ => b := by
  show gF (gF (mb S) (md S) _) (md S + 1) _ (md S) = _
  rw [gF_n (by omega), gF_s]
theorem sgw_bo {k : Nat} (h : k < md S) : mb (sGw S t b) k = mb S k := by
  show gF (gF (mb S) (md S) _) (md S + 1) _ k = _
  rw [gF_n (by omega), gF_n (by omega)]
theorem sgw_fr {k : Nat} (h : k ≤ md S + 1) (q : Nat) : fr (mc (sGw S t b)) k q = fr (mc S) k q := fr_congr k (fun j hj => sgw_co (by omega)) q
theorem sgw_sh (hs : mSh S t m) (hd : md S < 5) (hm : 4 ≤ m) (hb : 1 ≤ b ∧ b ≤ 255) (hr : 1 ≤ mc S (md S) 0) : mSh (sGw S t b) t m := by
  obtain ⟨s1, s2, s3, s4, s5, s6, s7⟩ := hs
  refine ⟨?_, ?_, ?_, fun k hk => ?_, fun k hk q hq => ?_, ?_, ?_⟩
  · show md S + 1 ≤ 5
    omega
  · exact sgw_kt
  · show mb (sGw S t b) (md S + 1) 0 = _
    rw [sgw_bt]
  · have hk : k ≤ md S + 1 := hk
    by_cases h1 : k = md S + 1
    · subst h1
      rw [sgw_ct, sgw_kt]
      show 0 + 1 = mK (sGw S t b) (md S)
      rw [sgw_ko (Nat.le_refl _), s2]
    · rw [sgw_co (by omega), sgw_ko (by omega), s4 k (by omega)]
      cases k with
      | zero => rfl
      | succ k =>
        show mK S k = mK (sGw S t b) k
        rw [sgw_ko (by omega)]
  · have hk : k < md S + 1 := hk
    rw [sgw_ko (by omega)] at hq
    rw [sgw_co (by omega)]
    by_cases h1 : k = md S
    · subst h1
      rw [sgw_bd, show q = 0 by omega]
      exact ⟨hr, by omega, hb.1, hb.2⟩
    · rw [sgw_bo (by omega)]
      exact s5 k (by omega) q hq
  · show mc (sGw S t b) (md S + 1) 0 ≤ 4
    rw [sgw_ct]
    decide
  · intro _
    show 1 ≤ mc (sGw S t b) (md S + 1) 0
    rw [sgw_ct]
    exact Nat.le_refl _
/-- the nodes: the root, the new block, the old ones -/
theorem sgw_old (hs : mSh S t m) {k q : Nat} (hk : k ≤ md S + 1) (hq : q < mK (sGw S t b) k) : (k = md S + 1 ∧ q = 0 ∧ mb (sGw S t b) k q = 256 + t) ∨ (k = md S ∧ q = 0 ∧ mb (sGw S t b) k q = b) ∨ (k < md S ∧ q < mK S k ∧ mb (sGw S t b) k q = mb S k q) := by
  by_cases h1 : k = md S + 1
  · subst h1
    rw [sgw_kt] at hq
    rw [sgw_bt]
    exact Or.inl ⟨rfl, by omega, rfl⟩
  · rw [sgw_ko (by omega)] at hq
    by_cases h2 : k = md S
    · subst h2
      rw [hs.2.1] at hq
      rw [sgw_bd]
      exact Or.inr (Or.inl ⟨rfl, by omega, rfl⟩)
    · rw [sgw_bo (by omega)]
      exact Or.inr (Or.inr ⟨by omega, hq, rfl⟩)
theorem sgw_inj (hs : mSh S t m) (hj : mInj S) (hb : 1 ≤ b ∧ b ≤ 255) (hb3 : ∀ k q, k ≤ md S → q < mK S k → mb S k q ≠ b) : mInj (sGw S t b) := by
  intro k q k' q' hk hq hk' hq' e
  rcases sgw_old hs hk hq with ⟨a1, a2, a3⟩ | ⟨a1, a2, a3⟩ | ⟨a1, a2, a3⟩ <;> rcases sgw_old hs hk' hq' with ⟨b1, b2, b3⟩ | ⟨b1, b2, b3⟩ | ⟨b1, b2, b3⟩ <;> rw [a3, b3] at e
  · exact ⟨by omega, by omega⟩
  · omega
  · have := (hs.2.2.2.2.1 k' b1 q' b2).2.2.2
    omega
  · omega
  · exact ⟨by omega, by omega⟩
  · exact absurd e.symm (hb3 _ _ (by omega) b2)
  · have := (hs.2.2.2.2.1 k a1 q a2).2.2.2
    omega
  · exact absurd e (hb3 _ _ (by omega) a2)
  · exact hj _ _ _ _ (by omega) a2 (by omega) b2 e
theorem sgw_mQ (hs : mSh S t m) (hs' : mSh (sGw S t b) t m) {j : Nat} (hj : j < mn S) : (∀ k, k ≤ md S + 1 → mQ (sGw S t b) j k = mQ S j k) ∧ mQ (sGw S t b) j (md S + 2) = 0 := by
  have ht := mQ_top hs hj
  have key := mQ_is hs' (i := j) hj (fun k => if k = md S + 2 then 0 else mQ S j k) (if_neg (by omega)) (fun k hk => by
    have hk : k ≤ md S + 1 := hk
    by_cases h1 : k = md S + 1
    · subst h1
      rw [if_pos rfl, if_neg (by omega), sgw_ct, ht]
      exact ⟨Nat.le_refl _, by decide⟩
    · rw [if_neg (by omega), if_neg (by omega), sgw_co (by omega)]
      exact (mQ_in hs hj (show k ≤ md S by omega)).2)
  refine ⟨fun k hk => ?_, ?_⟩
  · rw [key k (show k ≤ md S + 1 + 1 by omega)]
    exact if_neg (by omega)
  · rw [key (md S + 2) (Nat.le_refl _)]
    exact if_pos rfl
theorem gw_same {l : Nat} : aDp (gw2 (gw1 A t b) t l b) = aDp (gw1 A t b) ∧ aEn (gw2 (gw1 A t b) t l b) = aEn (gw1 A t b) ∧ aWf (gw2 (gw1 A t b) t l b) = aWf (gw1 A t b) ∧ aTk (gw2 (gw1 A t b) t l b) = aTk (gw1 A t b) := ⟨rfl, rfl, rfl, rfl⟩
set_option maxHeartbeats 1000000 in
theorem ab_grow (ok : aOk A) (ht : t < 4) (hs : mSh S t (aM A)) (hj : mInj S) (ha : mAb A t S) (hw : WyTo A t S i) (hi : -1 ≤ i ∧ i < mn S) (hd : md S < 5) (hr : 1 ≤ mc S (md S) 0) (hb2 : 1 ≤ b ∧ b ≤ 255) (hb3 : ∀ k q, k ≤ md S → q < mK S k → mb S k q ≠ b) :
    mAb (gw2 (gw1 A t b) t (md S) b) t (sGw S t b) ∧ WyTo (gw2 (gw1 A t b) t (md S) b) t (sGw S t b) i ∧ aOk (gw2 (gw1 A t b) t (md S) b) := by
  have hA := ab_nd.mp ha
  have hm := ok.1
  have hs' := sgw_sh (b := b) hs hd (by omega) hb2 hr
  have n0 := hA (md S) (Nat.le_refl _) 0 (by have := hs.2.1; omega)
  rw [hs.2.2.1] at n0
  have hne : b ≠ 256 + t := by omega
  have hn : 0 < mn S := by
    by_cases h9 : 0 < md S
    · exact hs.npos h9
    · have h8 := hs.off (Nat.le_refl (md S)) (show 0 < mK S (md S) by have := hs.2.1; omega)
      have h7 : md S = 0 := by omega
      rw [h7] at h8 hr
      have h6 : mI S 0 = mn S := rfl
      omega
  have c4 := hs.2.2.2.2.2.1
  have b1 : aDp (gw1 A t b) b = md S := by
    show gF (gF (gF (gF (aDp A) b (aDp A (256 + t))) (256 + t) _) (256 + t) _) (256 + t) _ b = _
    rw [gF_n hne, gF_n hne, gF_n hne, gF_s]
    exact n0.1
  have b2 : aEn (gw1 A t b) b = mc S (md S) 0 := by
    show gF (gF (gF (gF (aEn A) b (aEn A (256 + t) - 0)) (256 + t) _) (256 + t) _) (256 + t) _ b = _
    rw [gF_n hne, gF_n hne, gF_n hne, gF_s, n0.2.1]
    omega
  have b3 : aWf (gw1 A t b) b = gCp (aWf A (256 + t)) (aWf A b) 0 0 (mc S (md S) 0 * 3) := by
    show gF (gF (aWf A) b (gCp (aWf A (256 + t)) (aWf A b) ((0 : Int) * 3).toNat 0 ((aEn A (256 + t) - 0) * 3).toNat)) (256 + t) _ b = _
    rw [gF_n hne, gF_s, n0.2.1]
    congr 1
  have r1 : aDp (gw1 A t b) (256 + t) = md S + 1 := by
    show gF (gF (gF (gF (aDp A) b (aDp A (256 + t))) (256 + t) (aDp A (256 + t))) (256 + t) (gF (gF (aDp A) b (aDp A (256 + t))) (256 + t) (aDp A (256 + t)) b + 1)) (256 + t) (gF (gF (gF (aDp A) b (aDp A (256 + t))) (256 + t) (aDp A (256 + t))) (256 + t) (gF (gF (aDp A) b (aDp A (256 + t))) (256 + t) (aDp A (256 + t)) b + 1) (256 + t)) (256 + t) = _
    rw [gF_s, gF_s, gF_n hne, gF_s, n0.1]
  have r2 : aEn (gw1 A t b) (256 + t) = 1 := by
    show gF (gF (gF (gF (aEn A) b (aEn A (256 + t) - 0)) (256 + t) 0) (256 + t) (gF (gF (aEn A) b (aEn A (256 + t) - 0)) (256 + t) 0 (256 + t))) (256 + t) (gF (gF (gF (aEn A) b (aEn A (256 + t) - 0)) (256 + t) 0) (256 + t) (gF (gF (aEn A) b (aEn A (256 + t) - 0)) (256 + t) 0 (256 + t)) (256 + t) + 1) (256 + t) = _
    rw [gF_s, gF_s, gF_s]
    rfl
  have r3 : aWf (gw1 A t b) (256 + t) = gIns (aWf A (256 + t)) 0 0 (aWf A (256 + t) 0) b 0 := by
    have q1 : aWf (gwC A t b) b = gCp (aWf A (256 + t)) (aWf A b) 0 0 (mc S (md S) 0 * 3) := by
      show gF (aWf A) b (gCp (aWf A (256 + t)) (aWf A b) ((0 : Int) * 3).toNat 0 ((aEn A (256 + t) - 0) * 3).toNat) b = _
      rw [gF_s, n0.2.1]
      congr 1
    have q2 : aEn (gwC A t b) b = mc S (md S) 0 := by
      show gF (gF (gF (aEn A) b (aEn A (256 + t) - 0)) (256 + t) _) (256 + t) _ b = _
      rw [gF_n hne, gF_n hne, gF_s, n0.2.1]
      omega
    have q3 : aEn (gwC A t b) (256 + t) = 0 := by
      show gF (gF (gF (aEn A) b (aEn A (256 + t) - 0)) (256 + t) 0) (256 + t) (gF (gF (aEn A) b (aEn A (256 + t) - 0)) (256 + t) 0 (256 + t)) (256 + t) = _
      rw [gF_s, gF_s]
    have q4 : aWf (gwC A t b) (256 + t) = aWf A (256 + t) := by
      show gF (aWf A) b _ (256 + t) = _
      rw [gF_n (Ne.symm hne)]
    have q5 : gWd (aWf (gwC A t b) b) (aEn (gwC A t b) b) 0 0 = aWf A (256 + t) 0 := by
      rw [q1, q2, gWd_in (by omega)]
      unfold gCp
      rw [if_pos (by omega)]
      congr 1
    show gF (aWf (gwC A t b)) (256 + t) (gIns (aWf (gwC A t b) (256 + t)) (aEn (gwC A t b) (256 + t)) 0 (gWd (aWf (gwC A t b) b) (aEn (gwC A t b) b) 0 0) (nNo b) 0) (256 + t) = _
    rw [gF_s, q3, q4, q5]
    unfold nNo
    rw [if_pos (by omega)]
  have oth : ∀ x, x ≠ b → x ≠ 256 + t → aDp (gw1 A t b) x = aDp A x ∧ aEn (gw1 A t b) x = aEn A x ∧ aWf (gw1 A t b) x = aWf A x := by
    intro x x1 x2
    refine ⟨?_, ?_, ?_⟩
    · show gF (gF (gF (gF (aDp A) b _) (256 + t) _) (256 + t) _) (256 + t) _ x = _
      rw [gF_n x2, gF_n x2, gF_n x2, gF_n x1]
    · show gF (gF (gF (gF (aEn A) b _) (256 + t) _) (256 + t) _) (256 + t) _ x = _
      rw [gF_n x2, gF_n x2, gF_n x2, gF_n x1]
    · show gF (gF (aWf A) b _) (256 + t) _ x = _
      rw [gF_n x2, gF_n x1]
  have its : ∀ y x e, y ≤ md S → it (sGw S t b) y x e = it S y x e := by
    intro y x e hy
    refine it_eq ?_ ?_ ?_
    · rw [sgw_fr (by omega)]
      rfl
    · cases y with
      | zero => rfl
      | succ y =>
        show ((mb (sGw S t b) y x : Nat) : Int) = _
        rw [sgw_bo (by omega)]
        rfl
    · cases y <;> rfl
  refine ⟨?_, ?_, ?_⟩
  · refine ab_nd.mpr (fun k hk q hq => ?_)
    have hk : k ≤ md S + 1 := hk
    show Nd (gw1 A t b) _ _ _ _ _
    by_cases h1 : k = md S + 1
    · subst h1
      rw [sgw_kt] at hq
      rw [show q = 0 by omega, sgw_bt, sgw_ct]
      refine ⟨r1, r2, fun j hj9 e he => ?_⟩
      have hj9 : j < 1 := hj9
      rw [show j = 0 by omega, r3]
      obtain ⟨t1, t2, t3⟩ := gIns_at (f := aWf A (256 + t)) (ent := 0) (i := 0) (x := aWf A (256 + t) 0) (y := (b : Int)) (z := 0)
      match e, he with
      | 0, _ =>
        refine t1.trans ?_
        have g := n0.2.2 0 (by omega) 0 (by omega)
        have g : aWf A (256 + t) 0 = ms S (fr (mc S) (md S) 0) := g
        rw [g, fr_0]
        show _ = ms S (fr (mc (sGw S t b)) (md S + 1) 0)
        rw [fr_0]
      | 1, _ =>
        refine t2.trans ?_
        show _ = ((mb (sGw S t b) (md S) 0 : Nat) : Int)
        rw [sgw_bd]
      | 2, _ => exact t3
    · rw [sgw_ko (by omega)] at hq
      rw [sgw_co (by omega)]
      by_cases h2 : k = md S
      · subst h2
        rw [sgw_bd]
        rw [hs.2.1] at hq
        rw [show q = 0 by omega]
        refine ⟨b1, b2, fun j hj9 e he => ?_⟩
        rw [b3, its _ _ _ (Nat.le_refl _)]
        unfold gCp
        rw [if_pos (by omega), show 0 + (j * 3 + e - 0) = j * 3 + e by omega]
        exact n0.2.2 j hj9 e he
      · rw [sgw_bo (by omega)]
        have g := hA k (by omega) q hq
        obtain ⟨x1, x2, x3⟩ := oth (mb S k q) (hb3 _ _ (by omega) hq) (by have := (hs.2.2.2.2.1 k (by omega) q hq).2.2.2; omega)
        exact g.keep x1 x2 x3 (fun j _ e _ => its _ _ _ (by omega))
  · have hin : i.toNat < mn S := by omega
    obtain ⟨m1, m2⟩ := sgw_mQ hs hs' hin
    refine ⟨by show aLf (fH _ t _ _ _ _) t = _; rw [fH_lf]; rfl, fun x hx => ?_⟩
    have hx : x ≤ md S + 1 := hx
    show aWy (fH (gw1 A t b) t (gF (shf (aWy A t) 0 (md S)) 1 b) (gF (gF (shf (aPl A t) 0 (md S)) 1 (aPl A t 0)) 0 0) _ _) t x = _ ∧ aPl (fH (gw1 A t b) t _ (gF (gF (shf (aPl A t) 0 (md S)) 1 (aPl A t 0)) 0 0) _ _) t x = _
    rw [fH_wy, fH_pl]
    have hd' : md (sGw S t b) = md S + 1 := rfl
    match x, hx with
    | 0, _ =>
      refine ⟨?_, ?_⟩
      · rw [gF_n (by decide), shf_lo _ (by omega), (hw.2 0 (by omega)).1]
        unfold pW
        rw [hd', Nat.sub_zero, Nat.sub_zero, mQ_top hs hin, m2, sgw_bt, hs.2.2.1]
      · rw [gF_s]
        unfold pP
        rw [hd', if_neg (by omega), Nat.sub_zero, m1 _ (Nat.le_refl _), m2, mQ_top hs hin]
        rfl
    | 1, _ =>
      refine ⟨?_, ?_⟩
      · rw [gF_s]
        unfold pW
        rw [hd', show md S + 1 - 1 = md S by omega, sgw_bd]
      · rw [gF_n (by decide), gF_s, (hw.2 0 (by omega)).2]
        unfold pP
        rw [hd']
        by_cases h9 : 0 = md S
        · rw [if_pos h9, if_pos (by omega), m1 1 (by omega), sgw_co (by omega)]
        · rw [if_neg h9, if_neg (by omega), show md S + 1 - 1 = md S by omega, Nat.sub_zero, m1 _ (by omega), m1 _ (by omega), sgw_co (by omega)]
    | x + 2, hx =>
      have es : ∀ {α : Type} (f : Nat → α), shf f 0 (md S) (x + 2) = f (x + 1) := fun f => if_pos (by omega)
      refine ⟨?_, ?_⟩
      · rw [gF_n (by omega), es, (hw.2 (x + 1) (by omega)).1]
        unfold pW
        rw [hd', show md S + 1 - (x + 2) = md S - (x + 1) by omega, m1 _ (by omega), sgw_bo (by omega)]
      · rw [gF_n (by omega), gF_n (by omega), es, (hw.2 (x + 1) (by omega)).2]
        unfold pP
        rw [hd']
        by_cases h9 : x + 1 = md S
        · rw [if_pos h9, if_pos (by omega), m1 1 (by omega), sgw_co (by omega)]
        · rw [if_neg h9, if_neg (by omega), show md S + 1 - (x + 2) = md S - (x + 1) by omega, m1 _ (by omega), m1 _ (by omega), sgw_co (by omega)]
  · have hrr : 256 + t < 260 := by omega
    have e4 : aRm A (256 + t) = 4 := if_neg (by omega)
    have rk := ok.2.2 _ hrr
    have rmb := ok.rm b
    have okB : aOk (gwB A t b) := aOk_cb (aOk_mv ok hrr (by omega) (by omega) (by omega))
    have dpB : aDp (gwB A t b) b = aDp A (256 + t) := mv_dpj hne
    have enB : aEn (gwB A t b) (256 + t) = 0 := mv_en
    have okC : aOk (gwC A t b) := aOk_sNd okB (by rw [dpB, n0.1]; omega) (by rw [enB]; omega)
    have r9 := nNo_r (i := b) (by omega)
    refine aOk_ins okC hrr ?_ (okC.wd (by omega) 0 0) (by omega) (by omega)
    show gF (aEn (gwB A t b)) (256 + t) (aEn (gwB A t b) (256 + t)) (256 + t) < ((aRm A (256 + t) : Nat) : Int)
    rw [gF_s, enB, e4]
    decide
end
