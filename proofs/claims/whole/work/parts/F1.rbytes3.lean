/-! the reference: rootByte, nodeByte -/
section
variable {G : gG} {N : Option Nat} {h : gH} {R : rA} {SS : Nat → mS} {t m : Nat} {f b i x c r : Int}
set_option maxHeartbeats 4000000 in
theorem m_rootByte (hx : RX R SS m) (hg : Gd SS m) (rf : (-2147483648 ≤ f ∧ f ≤ 2147483647)) (ri : (-2147483648 ≤ i ∧ i ≤ 2147483647)) (hc : (¬ (0 ≤ f ∧ f < 4) ∧ c = 1 ∧ r = 0) ∨ ((0 ≤ f ∧ f < 4) ∧ ¬ (0 ≤ i ∧ i < 60) ∧ c = 2 ∧ r = 0) ∨ (((0 ≤ f ∧ f < 4) ∧ 0 ≤ i ∧ i < 60) ∧ c = 0 ∧ r = nBy (SS f.toNat) (md (SS f.toNat)) 0 4 i)) : Rn G m_Mod_rootByte [vR 541, vI f, vI i] N (hrx R h) 0 0 (qX SS m h c r) gNo := by
  refine Rn.of rfl rfl rfl ?_
  have hM := ok_Mod_rootByte
  have ex : ∀ c9 : Int, c = c9 → c9 ≠ 0 → r = 0 → (-2147483648 ≤ c9 ∧ c9 ≤ 2147483647) → Go G m_Mod_rootByte (gFin G (qX SS m h c r) gNo) 29 [some (vR 541), some (vI f), some (vI i), none] [vI c9, vR 541] none (hrx R h) 0 0 := by
    intro c9 e1 e2 e3 rc
    refine go_put hM rfl hr_o rfl rfl ?_
    have u1 := ur_o (R := R) (h := h) (x := c9)
    rw [u1]
    repeat (first | refine go_pure hM rfl ?_ | refine go_get hM rfl hr_o rfl ?_ | refine go_ldc hM rfl ?_)
    refine go_if_eq hM rfl rc (fun h9 => absurd h9 e2) (fun _ => ?_)
    repeat (first | refine go_pure hM rfl ?_ | refine go_get hM rfl hr_o rfl ?_ | refine go_ldc hM rfl ?_)
    exact go_iret hM rfl rfl ⟨by rw [e3], rfl, sTh R c9, hx.th c9, e1.symm, rfl⟩
  have bad : ¬ (0 ≤ f ∧ f < 4) → Go G m_Mod_rootByte (gFin G (qX SS m h c r) gNo) 10 [some (vR 541), some (vI f), some (vI i), none] [vR 541] none (hrx R h) 0 0 := by
    intro hno
    rcases hc with ⟨_, e1, e2⟩ | ⟨q, _⟩ | ⟨q, _⟩
    · have n1 := ex 1 e1 (by omega) e2 (by omega)
      repeat (first | exact n1 | refine go_pure hM rfl ?_ | refine go_get hM rfl hr_o rfl ?_ | refine go_ldc hM rfl ?_)
    · exact absurd q hno
    · exact absurd q.1 hno
  have bad2 : (0 ≤ f ∧ f < 4) → ¬ (0 ≤ i ∧ i < 60) → Go G m_Mod_rootByte (gFin G (qX SS m h c r) gNo) 24 [some (vR 541), some (vI f), some (vI i), none] [vR 541] none (hrx R h) 0 0 := by
    intro hf hno
    rcases hc with ⟨q, _⟩ | ⟨_, _, e1, e2⟩ | ⟨q, _⟩
    · exact absurd hf q
    · have n1 := ex 2 e1 (by omega) e2 (by omega)
      repeat (first | exact n1 | refine go_pure hM rfl ?_ | refine go_get hM rfl hr_o rfl ?_ | refine go_ldc hM rfl ?_)
    · exact absurd q.2 hno
  refine go_drop ?_
  repeat (first | refine go_pure hM rfl ?_ | refine go_get hM rfl hr_o rfl ?_ | refine go_ldc hM rfl ?_)
  refine go_if_lt hM rfl rf (fun h9 => bad (fun q => by omega)) (fun g1 => ?_)
  repeat (first | refine go_pure hM rfl ?_ | refine go_get hM rfl hr_o rfl ?_ | refine go_ldc hM rfl ?_)
  refine go_icmp_le hM rfl rf (by omega) (fun g2 => ?_) (fun h9 => bad (fun q => by omega))
  repeat (first | refine go_pure hM rfl ?_ | refine go_get hM rfl hr_o rfl ?_ | refine go_ldc hM rfl ?_)
  refine go_if_lt hM rfl ri (fun h9 => bad2 ⟨by omega, by omega⟩ (fun q => by omega)) (fun g3 => ?_)
  repeat (first | refine go_pure hM rfl ?_ | refine go_get hM rfl hr_o rfl ?_ | refine go_ldc hM rfl ?_)
  refine go_icmp_le hM rfl ri (by omega) (fun g4 => ?_) (fun h9 => bad2 ⟨by omega, by omega⟩ (fun q => by omega))
  rcases hc with ⟨q, _⟩ | ⟨_, q, _⟩ | ⟨_, e1, e2⟩
  · exact absurd ⟨by omega, by omega⟩ q
  · exact absurd ⟨by omega, by omega⟩ q
  obtain ⟨t, rfl⟩ : ∃ t : Nat, f = t := ⟨f.toNat, by omega⟩
  have ht : t < 4 := by omega
  have e0 : ((t : Nat) : Int).toNat = t := by omega
  rw [e0] at e2
  have hsh := (hg.2.1 t ht).1
  have hd5 := hsh.1
  have hs := hx.1
  have th0 : ∀ j, (sTh R 0).2.2 j = R.2.2 j := fun j => rfl
  have D0 : R.2.2 5 t = (md (SS t) : Int) := (hs.2.1 t ht).1
  have R0 : R.2.2 6 t = (mc (SS t) (md (SS t)) 0 : Int) := (hs.2.1 t ht).2
  have b1 : R.2.2 0 t = ((bg SS t : Nat) : Int) := hx.2.2.1 t (by omega)
  have by9 := m_bytesOf (G := G) (N := none) (h := h) (R := sTh R 0) (i := i) (l := md (SS t)) (p := 0) (rr := 4) (hx.th 0).1 (hx.th 0).2 hg ht (Nat.le_refl _) (by have := hsh.2.1; omega) (by omega) (by omega)
  repeat (first | refine go_pure hM rfl ?_ | refine go_get hM rfl hr_o rfl ?_ | refine go_ldc hM rfl ?_)
  refine go_put hM rfl hr_o rfl rfl ?_
  have u1 := ur_o (R := R) (h := h) (x := 0)
  rw [u1]
  repeat (first | refine go_pure hM rfl ?_ | refine go_get hM rfl hr_o rfl ?_ | refine go_ldc hM rfl ?_)
  refine go_if_eq hM rfl (by show _ ≤ (0 : Int) ∧ (0 : Int) ≤ _; omega) (fun _ => ?_) (fun h9 => absurd rfl h9)
  repeat (first | refine go_pure hM rfl ?_ | refine go_get hM rfl hr_o rfl ?_ | refine go_ldc hM rfl ?_)
  refine go_iald hM rfl hr_D (by omega) (by omega) (by omega) ?_
  rw [e0, th0, D0]
  repeat (first | refine go_pure hM rfl ?_ | refine go_get hM rfl hr_o rfl ?_ | refine go_ldc hM rfl ?_)
  refine go_iald hM rfl hr_R (by omega) (by omega) (by omega) ?_
  rw [e0, th0, R0]
  have fin : ∀ z : Int, z = ((fsO SS t (md (SS t)) 0 : Nat) : Int) → Go G m_Mod_rootByte (gFin G (qX SS m h c r) gNo) 80 [some (vR 541), some (vI t), some (vI i), some (vI (md (SS t)))] [vI z, vI (md (SS t)), vI 4, vI (mc (SS t) (md (SS t)) 0), vI i, vI t, vR 541] none (hrx (sTh R 0) h) 0 0 := by
    intro z hz
    rw [hz]
    refine go_cV hM rfl rfl rfl hr_o rfl by9 rfl ?_
    exact go_iret hM rfl rfl ⟨by rw [e2], rfl, sTh R 0, hx.th 0, e1.symm, rfl⟩
  repeat (first | refine go_pure hM rfl ?_ | refine go_get hM rfl hr_o rfl ?_ | refine go_ldc hM rfl ?_)
  refine go_if_ne hM rfl (by omega) (fun h9 => ?_) (fun h9 => ?_)
  · obtain ⟨l', hl'⟩ : ∃ l', md (SS t) = l' + 1 := ⟨md (SS t) - 1, by omega⟩
    have lv := (hx.th 0).1.2.2.1.lv (g2 := t) (l2 := l') (by omega) (by omega)
    repeat (first | refine go_pure hM rfl ?_ | refine go_get hM rfl hr_o rfl ?_ | refine go_ldc hM rfl ?_)
    rw [show ((md (SS t) : Nat) : Int) - 1 = (l' : Int) by omega]
    refine go_cV hM rfl rfl rfl hr_o rfl (m_levelOf (R := sTh R 0) (f := t) (l := l') (by omega) (by omega)) rfl ?_
    rw [lv]
    refine fin _ ?_
    rw [hl']
    show _ = ((256 * l' + oF (KS SS) l' t + 0 : Nat) : Int)
    omega
  · have n1 := fin ((bg SS t : Nat) : Int) (by
      rw [show md (SS t) = 0 by omega]
      show _ = ((bg SS t + 0 : Nat) : Int)
      omega)
    repeat (first | refine go_pure hM rfl ?_ | refine go_get hM rfl hr_o rfl ?_ | refine go_ldc hM rfl ?_)
    refine go_iald hM rfl hr_B (by omega) (by omega) (by omega) ?_
    rw [e0, th0, b1]
    repeat (first | exact n1 | refine go_pure hM rfl ?_ | refine go_get hM rfl hr_o rfl ?_ | refine go_ldc hM rfl ?_)
set_option maxHeartbeats 8000000 in
theorem m_nodeByte (hx : RX R SS m) (hg : Gd SS m) (rb : (-2147483648 ≤ b ∧ b ≤ 2147483647)) (ri : (-2147483648 ≤ i ∧ i ≤ 2147483647)) (hc : (¬ okNb SS b i ∧ c = 1 ∧ r = 0) ∨ (okNb SS b i ∧ c = 0 ∧ ∃ t l p, mOwn SS b.toNat t l p ∧ r = nBy (SS t) l p m i)) : Rn G m_Mod_nodeByte [vR 541, vI b, vI i] N (hrx R h) 0 0 (qX SS m h c r) gNo := by
  refine Rn.of rfl rfl rfl ?_
  have hM := ok_Mod_nodeByte
  have hs := hx.1
  have go42 : ¬ okNb SS b i → Go G m_Mod_nodeByte (gFin G (qX SS m h c r) gNo) 42 [some (vR 541), some (vI b), some (vI i), none, none, none, none, none] [vI 1, vR 541] none (hrx R h) 0 0 := by
    intro hno
    rcases hc with ⟨_, e1, e3⟩ | ⟨q, _⟩
    · refine go_put hM rfl hr_o rfl rfl ?_
      have u1 := ur_o (R := R) (h := h) (x := 1)
      rw [u1]
      repeat (first | refine go_pure hM rfl ?_ | refine go_get hM rfl hr_o rfl ?_ | refine go_ldc hM rfl ?_)
      refine go_if_eq hM rfl (by show _ ≤ (1 : Int) ∧ (1 : Int) ≤ _; omega) (fun h9 => absurd h9 (by show ¬ (1 : Int) = 0; omega)) (fun _ => ?_)
      repeat (first | refine go_pure hM rfl ?_ | refine go_get hM rfl hr_o rfl ?_ | refine go_ldc hM rfl ?_)
      exact go_iret hM rfl rfl ⟨by rw [e3], rfl, sTh R 1, hx.th 1, e1.symm, rfl⟩
    · exact absurd q hno
  have bad : ¬ okNb SS b i → Go G m_Mod_nodeByte (gFin G (qX SS m h c r) gNo) 24 [some (vR 541), some (vI b), some (vI i), none, none, none, none, none] [vR 541] none (hrx R h) 0 0 := by
    intro hno
    have n1 := go42 hno
    repeat (first | exact n1 | refine go_pure hM rfl ?_ | refine go_get hM rfl hr_o rfl ?_ | refine go_ldc hM rfl ?_)
  refine go_drop ?_
  repeat (first | refine go_pure hM rfl ?_ | refine go_get hM rfl hr_o rfl ?_ | refine go_ldc hM rfl ?_)
  refine go_icmp_lt hM rfl rb (by omega) (fun h9 => bad (fun q => by have := q.1; omega)) (fun g1 => ?_)
  repeat (first | refine go_pure hM rfl ?_ | refine go_get hM rfl hr_o rfl ?_ | refine go_ldc hM rfl ?_)
  refine go_icmp_ge hM rfl rb (by omega) (fun h9 => bad (fun q => by have := q.1; omega)) (fun g2 => ?_)
  repeat (first | refine go_pure hM rfl ?_ | refine go_get hM rfl hr_o rfl ?_ | refine go_ldc hM rfl ?_)
  refine go_if_lt hM rfl ri (fun h9 => bad (fun q => by have := q.2.2; omega)) (fun g3 => ?_)
  repeat (first | refine go_pure hM rfl ?_ | refine go_get hM rfl hr_o rfl ?_ | refine go_ldc hM rfl ?_)
  refine go_icmp_le hM rfl ri (by omega) (fun g4 => ?_) (fun h9 => bad (fun q => by have := q.2.2; omega))
  have tn := hs.2.2.2.2 b.toNat (by omega) (by omega)
  have tn : (R.2.2 10 b.toNat = 1 ∧ ∃ t l p, mOwn SS b.toNat t l p) ∨ (R.2.2 10 b.toNat = 0 ∧ ¬ ∃ t l p, mOwn SS b.toNat t l p) := tn
  repeat (first | refine go_pure hM rfl ?_ | refine go_get hM rfl hr_o rfl ?_ | refine go_ldc hM rfl ?_)
  refine go_zald hM rfl hr_T (by omega) (by omega) (by omega) ?_
  refine go_if_ne hM rfl (by omega) (fun h8 => ?_) (fun h8 => ?_)
  · have own : ∃ t l p, mOwn SS b.toNat t l p := by
      rcases tn with ⟨_, q⟩ | ⟨q, _⟩
      · exact q
      · exact absurd q h8
    rcases hc with ⟨q, _⟩ | ⟨_, e1, t, l0, p0, ho, e2⟩
    · exact absurd ⟨⟨by omega, by omega⟩, own, by omega, by omega⟩ q
    obtain ⟨o1, o2, o3, o4⟩ := id ho
    have th0 : ∀ j, (sTh R 0).2.2 j = R.2.2 j := fun j => rfl
    have mo : (sTh R 0).2.1 = (m : Int) := hs.1
    have rd := hs.2.2.1
    have hm := hg.1
    -- the owner is not yet behind
    have FI : ∀ (nf g : Nat) (jg : Int) (y4 y5 y6 y7 : Option gV), nf + g = 4 → jg = g → g ≤ t → Go G m_Mod_nodeByte (gFin G (qX SS m h c r) gNo) 56 [some (vR 541), some (vI b), some (vI i), some (vI jg), y4, y5, y6, y7] [] none (hrx (sTh R 0) h) 0 0 := by
      intro nf
      induction nf with
      | zero => intro g jg y4 y5 y6 y7 q1 q2 q3; omega
      | succ nf ihf =>
        intro g jg y4 y5 y6 y7 q1 q2 q3
        subst q2
        have hg4 : g < 4 := by omega
        have hsh := (hg.2.1 g hg4).1
        have hd5 := hsh.1
        have tg : ((g : Nat) : Int).toNat = g := by omega
        have D0 : R.2.2 5 g = (md (SS g) : Int) := (hs.2.1 g hg4).1
        have b1 : R.2.2 0 g = ((bg SS g : Nat) : Int) := hx.2.2.1 g (by omega)
        have LV : ∀ (nl l : Nat) (jl : Int) (y5 y6 y7 : Option gV), nl + l = md (SS g) → jl = l → (g = t → l ≤ l0) → Go G m_Mod_nodeByte (gFin G (qX SS m h c r) gNo) 64 [some (vR 541), some (vI b), some (vI i), some (vI g), some (vI jl), y5, y6, y7] [] none (hrx (sTh R 0) h) 0 0 := by
          intro nl
          induction nl with
          | zero =>
            intro l jl y5 y6 y7 k1 k2 k3
            subst k2
            have gt : g ≠ t := by
              intro z
              have := k3 z
              subst z
              omega
            have nx := ihf (g + 1) ((g : Int) + 1) (some (vI l)) y5 y6 y7 (by omega) (by omega) (by omega)
            repeat (first | refine go_pure hM rfl ?_ | refine go_get hM rfl hr_o rfl ?_ | refine go_ldc hM rfl ?_)
            refine go_iald hM rfl hr_D (by omega) (by omega) (by omega) ?_
            rw [tg, th0, D0]
            refine go_icmp_ge hM rfl (by omega) (by omega) (fun _ => ?_) (fun h9 => absurd h9 (by omega))
            repeat (first | exact nx | refine go_pure hM rfl ?_ | refine go_get hM rfl hr_o rfl ?_ | refine go_ldc hM rfl ?_)
          | succ nl ihl =>
            intro l jl y5 y6 y7 k1 k2 k3
            subst k2
            have hl6 : l < 6 := by omega
            have kS : KS SS g l = mK (SS g) l := if_pos (by omega)
            have lv := (hx.th 0).1.2.2.1.lv (g2 := g) (l2 := l) (by omega) hl6
            have ole := oF_le (K := KS SS) (l := l) hg4
            have ob := hg.2.2.2.1 l
            have mm : R.2.2 9 (6 * g + l) = (mK (SS g) l : Int) := by
              have := rd.2.1 g hg4 l hl6
              rw [kS] at this
              exact this
            have inn : ∀ (nq q : Nat) (i6 i7 : Int), nq + q = mK (SS g) l → i7 = ((256 * l + oF (KS SS) l g + q : Nat) : Int) → i6 = ((fsO SS g l q : Nat) : Int) → (g = t → l = l0 → q ≤ p0) → Go G m_Mod_nodeByte (gFin G (qX SS m h c r) gNo) 113 [some (vR 541), some (vI b), some (vI i), some (vI g), some (vI l), some (vI ((256 * l + oF (KS SS) l g : Nat) : Int)), some (vI i6), some (vI i7)] [] none (hrx (sTh R 0) h) 0 0 := by
              intro nq
              induction nq with
              | zero =>
                intro q i6 i7 j1 j2 j3 j4
                subst j2
                have nx := ihl (l + 1) ((l : Int) + 1) (some (vI ((256 * l + oF (KS SS) l g : Nat) : Int))) (some (vI i6)) (some (vI ((256 * l + oF (KS SS) l g + q : Nat) : Int))) (by omega) (by omega) (fun z => by
                  have z1 := k3 z
                  by_cases z2 : l = l0
                  · have := j4 z z2
                    subst z
                    subst z2
                    omega
                  · omega)
                repeat (first | refine go_pure hM rfl ?_ | refine go_get hM rfl hr_o rfl ?_ | refine go_ldc hM rfl ?_)
                refine go_iald hM rfl hr_M (by omega) (by omega) (by omega) ?_
                rw [show (6 * ((g : Nat) : Int) + (l : Int)).toNat = 6 * g + l by omega, th0, mm]
                repeat (first | refine go_pure hM rfl ?_ | refine go_get hM rfl hr_o rfl ?_ | refine go_ldc hM rfl ?_)
                refine go_icmp_ge hM rfl (by omega) (by omega) (fun _ => ?_) (fun h9 => absurd h9 (by omega))
                repeat (first | exact nx | refine go_pure hM rfl ?_ | refine go_get hM rfl hr_o rfl ?_ | refine go_ldc hM rfl ?_)
              | succ nq ihq =>
                intro q i6 i7 j1 j2 j3 j4
                subst j2
                have hq : q < mK (SS g) l := by omega
                have ev := rd.2.2 g hg4 l hl6 q (by omega)
                have ev7 : R.2.2 7 (256 * l + oF (KS SS) l g + q) = (mb (SS g) l q : Int) := ev.1
                have ev8 : R.2.2 8 (256 * l + oF (KS SS) l g + q) = (mc (SS g) l q : Int) := ev.2
                have bb := (hsh.2.2.2.2.1 l (by omega) q hq).2.2
                have tq : ((256 * l + oF (KS SS) l g + q : Nat) : Int).toNat = 256 * l + oF (KS SS) l g + q := by omega
                have nx := fun (hne : mb (SS g) l q ≠ b.toNat) => ihq (q + 1) (i6 + (mc (SS g) l q : Int)) (((256 * l + oF (KS SS) l g + q : Nat) : Int) + 1) (by omega) (by omega) (by
                  rw [j3]
                  cases l with
                  | zero =>
                    show ((bg SS g + sm (mc (SS g) 0) q : Nat) : Int) + _ = ((bg SS g + (sm (mc (SS g) 0) q + mc (SS g) 0 q) : Nat) : Int)
                    omega
                  | succ l' =>
                    show ((256 * l' + oF (KS SS) l' g + sm (mc (SS g) (l' + 1)) q : Nat) : Int) + _ = ((256 * l' + oF (KS SS) l' g + (sm (mc (SS g) (l' + 1)) q + mc (SS g) (l' + 1) q) : Nat) : Int)
                    omega) (fun z1 z2 => by
                  have z3 := j4 z1 z2
                  by_cases z4 : q = p0
                  · subst z1
                    subst z2
                    subst z4
                    exact absurd o4 hne
                  · omega)
                repeat (first | refine go_pure hM rfl ?_ | refine go_get hM rfl hr_o rfl ?_ | refine go_ldc hM rfl ?_)
                refine go_iald hM rfl hr_M (by omega) (by omega) (by omega) ?_
                rw [show (6 * ((g : Nat) : Int) + (l : Int)).toNat = 6 * g + l by omega, th0, mm]
                repeat (first | refine go_pure hM rfl ?_ | refine go_get hM rfl hr_o rfl ?_ | refine go_ldc hM rfl ?_)
                refine go_icmp_ge hM rfl (by omega) (by omega) (fun h9 => absurd h9 (by omega)) (fun _ => ?_)
                repeat (first | refine go_pure hM rfl ?_ | refine go_get hM rfl hr_o rfl ?_ | refine go_ldc hM rfl ?_)
                refine go_iald hM rfl hr_N (by omega) (by omega) (by omega) ?_
                rw [tq, th0, ev7]
                repeat (first | refine go_pure hM rfl ?_ | refine go_get hM rfl hr_o rfl ?_ | refine go_ldc hM rfl ?_)
                refine go_icmp_ne hM rfl (by omega) (by omega) (fun h9 => ?_) (fun h9 => ?_)
                · have n1 := nx (by omega)
                  repeat (first | refine go_pure hM rfl ?_ | refine go_get hM rfl hr_o rfl ?_ | refine go_ldc hM rfl ?_)
                  refine go_iald hM rfl hr_E (by omega) (by omega) (by omega) ?_
                  rw [tq, th0, ev8]
                  repeat (first | exact n1 | refine go_pure hM rfl ?_ | refine go_get hM rfl hr_o rfl ?_ | refine go_ldc hM rfl ?_)
                · have he : mOwn SS b.toNat g l q := ⟨hg4, by omega, hq, by omega⟩
                  obtain ⟨rfl, rfl, rfl⟩ := hg.2.2.1 _ _ _ _ _ _ _ he ho
                  have by9 := m_bytesOf (G := G) (N := none) (h := h) (R := sTh R 0) (i := i) (l := l) (p := q) (rr := m) (hx.th 0).1 (hx.th 0).2 hg hg4 (by omega) hq (by omega) (by omega)
                  repeat (first | refine go_pure hM rfl ?_ | refine go_get hM rfl hr_o rfl ?_ | refine go_ldc hM rfl ?_)
                  refine go_iald hM rfl hr_E (by omega) (by omega) (by omega) ?_
                  rw [tq, th0, ev8]
                  repeat (first | refine go_pure hM rfl ?_ | refine go_get hM rfl hr_o rfl ?_ | refine go_ldc hM rfl ?_)
                  rw [mo, j3]
                  refine go_cV hM rfl rfl rfl hr_o rfl by9 rfl ?_
                  exact go_iret hM rfl rfl ⟨by rw [e2], rfl, sTh R 0, hx.th 0, e1.symm, rfl⟩
            have st : ∀ z : Int, z = ((fsO SS g l 0 : Nat) : Int) → Go G m_Mod_nodeByte (gFin G (qX SS m h c r) gNo) 107 [some (vR 541), some (vI b), some (vI i), some (vI g), some (vI l), some (vI ((256 * l + oF (KS SS) l g : Nat) : Int)), y6, y7] [vI z] none (hrx (sTh R 0) h) 0 0 := by
              intro z hz
              have n1 := inn (mK (SS g) l) 0 z ((256 * l + oF (KS SS) l g : Nat) : Int) (by omega) (by omega) hz (fun _ _ => Nat.zero_le _)
              repeat (first | exact n1 | refine go_pure hM rfl ?_ | refine go_get hM rfl hr_o rfl ?_ | refine go_ldc hM rfl ?_)
            repeat (first | refine go_pure hM rfl ?_ | refine go_get hM rfl hr_o rfl ?_ | refine go_ldc hM rfl ?_)
            refine go_iald hM rfl hr_D (by omega) (by omega) (by omega) ?_
            rw [tg, th0, D0]
            refine go_icmp_ge hM rfl (by omega) (by omega) (fun h9 => absurd h9 (by omega)) (fun _ => ?_)
            repeat (first | refine go_pure hM rfl ?_ | refine go_get hM rfl hr_o rfl ?_ | refine go_ldc hM rfl ?_)
            refine go_cV hM rfl rfl rfl hr_o rfl (m_levelOf (R := sTh R 0) (f := g) (l := l) (by omega) hl6) rfl ?_
            rw [lv]
            repeat (first | refine go_pure hM rfl ?_ | refine go_get hM rfl hr_o rfl ?_ | refine go_ldc hM rfl ?_)
            refine go_if_ne hM rfl (by omega) (fun h9 => ?_) (fun h9 => ?_)
            · obtain ⟨l', rfl⟩ : ∃ l', l = l' + 1 := ⟨l - 1, by omega⟩
              have lv' := (hx.th 0).1.2.2.1.lv (g2 := g) (l2 := l') (by omega) (by omega)
              repeat (first | refine go_pure hM rfl ?_ | refine go_get hM rfl hr_o rfl ?_ | refine go_ldc hM rfl ?_)
              rw [show ((l' + 1 : Nat) : Int) - 1 = (l' : Int) by omega]
              refine go_cV hM rfl rfl rfl hr_o rfl (m_levelOf (R := sTh R 0) (f := g) (l := l') (by omega) (by omega)) rfl ?_
              rw [lv']
              refine st _ ?_
              show _ = ((256 * l' + oF (KS SS) l' g + 0 : Nat) : Int)
              omega
            · have l00 : l = 0 := by omega
              subst l00
              have n1 := st ((bg SS g : Nat) : Int) (by
                show _ = ((bg SS g + 0 : Nat) : Int)
                omega)
              repeat (first | refine go_pure hM rfl ?_ | refine go_get hM rfl hr_o rfl ?_ | refine go_ldc hM rfl ?_)
              refine go_iald hM rfl hr_B (by omega) (by omega) (by omega) ?_
              rw [tg, th0, b1]
              repeat (first | exact n1 | refine go_pure hM rfl ?_ | refine go_get hM rfl hr_o rfl ?_ | refine go_ldc hM rfl ?_)
        have n1 := LV (md (SS g)) 0 0 y5 y6 y7 (by omega) rfl (fun _ => Nat.zero_le _)
        repeat (first | refine go_pure hM rfl ?_ | refine go_get hM rfl hr_o rfl ?_ | refine go_ldc hM rfl ?_)
        refine go_icmp_ge hM rfl (by omega) (by omega) (fun h9 => absurd h9 (by omega)) (fun _ => ?_)
        repeat (first | exact n1 | refine go_pure hM rfl ?_ | refine go_get hM rfl hr_o rfl ?_ | refine go_ldc hM rfl ?_)
    have n1 := FI 4 0 0 none none none none rfl rfl (Nat.zero_le _)
    repeat (first | refine go_pure hM rfl ?_ | refine go_get hM rfl hr_o rfl ?_ | refine go_ldc hM rfl ?_)
    refine go_put hM rfl hr_o rfl rfl ?_
    have u1 := ur_o (R := R) (h := h) (x := 0)
    rw [u1]
    repeat (first | refine go_pure hM rfl ?_ | refine go_get hM rfl hr_o rfl ?_ | refine go_ldc hM rfl ?_)
    refine go_if_eq hM rfl (by show _ ≤ (0 : Int) ∧ (0 : Int) ≤ _; omega) (fun _ => ?_) (fun h9 => absurd rfl h9)
    repeat (first | exact n1 | refine go_pure hM rfl ?_ | refine go_get hM rfl hr_o rfl ?_ | refine go_ldc hM rfl ?_)
  · have hno : ¬ okNb SS b i := fun q => by
      rcases tn with ⟨z, _⟩ | ⟨_, z⟩
      · rw [z] at h8
        omega
      · exact z q.2.1
    have n1 := go42 hno
    repeat (first | exact n1 | refine go_pure hM rfl ?_ | refine go_get hM rfl hr_o rfl ?_ | refine go_ldc hM rfl ?_)
end
