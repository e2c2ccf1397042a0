/-! the reference: shrink -/
section
variable {G : gG} {N : Option Nat} {h : gH} {R : rA} {SS SS' : Nat → mS} {t m : Nat}
set_option maxHeartbeats 4000000 in
theorem m_shrink (hs : RS R SS m) (ht : t < 4) (hE : StO SS t m SS') : Rn G m_Mod_shrink [vR 541, vI t] N (hrx R h) 0 0 (fun v N' h' => v = none ∧ N' = N ∧ ∃ R', RS R' SS' m ∧ (∀ j, j < 5 → R'.2.2 j = R.2.2 j) ∧ R'.1 = R.1 ∧ h' = hrx R' h) gNo := by
  refine Rn.of rfl rfl rfl ?_
  have hM := ok_Mod_shrink
  obtain ⟨j, j1, j2, j3, j4⟩ := hE
  have tt : ((t : Nat) : Int).toNat = t := by omega
  have loop : ∀ (q i : Nat) (R1 : rA) (mo : Int) (y : Option gV), q + i = j → RS R1 (gF SS t (stM (SS t) t i)) m → (∀ j, j < 5 → R1.2.2 j = R.2.2 j) → R1.1 = R.1 → mo = (if 0 < md (stM (SS t) t i) then 1 else 0) → Go G m_Mod_shrink (gFin G (fun v N' h' => v = none ∧ N' = N ∧ ∃ R', RS R' SS' m ∧ (∀ j, j < 5 → R'.2.2 j = R.2.2 j) ∧ R'.1 = R.1 ∧ h' = hrx R' h) gNo) 15 [some (vR 541), some (vI t), some (vI mo), y] [] N (hrx R1 h) 0 0 := by
    intro q
    induction q with
    | zero =>
      intro i R1 mo y e1 r1 r2 r3 e2
      have e1 : i = j := by omega
      subst e1
      have ex : ∀ y2 y3, Go G m_Mod_shrink (gFin G (fun v N' h' => v = none ∧ N' = N ∧ ∃ R', RS R' SS' m ∧ (∀ j, j < 5 → R'.2.2 j = R.2.2 j) ∧ R'.1 = R.1 ∧ h' = hrx R' h) gNo) 115 [some (vR 541), some (vI t), y2, y3] [] N (hrx R1 h) 0 0 := fun y2 y3 => go_vret hM rfl rfl ⟨rfl, rfl, R1, by rw [j3]; exact r1, r2, r3, rfl⟩
      have hg := j4 i (Nat.le_refl _)
      obtain ⟨s1, s2, s3, s4, s5⟩ := r1
      have hsh := (hg.2.1 t ht).1
      rw [gF_s] at hsh
      have q1 := s2 t ht
      rw [gF_s] at q1
      have D0 : R1.2.2 5 t = (md (stM (SS t) t i) : Int) := q1.1
      have R0 : R1.2.2 6 t = (mc (stM (SS t) t i) (md (stM (SS t) t i)) 0 : Int) := q1.2
      have hd5 := hsh.1
      have hr4 := hsh.2.2.2.2.2.1
      by_cases h0 : 0 < md (stM (SS t) t i)
      · rw [if_pos h0] at e2
        subst e2
        have hk := hsh.Kpos 1 (by omega)
        have kt : KS (gF SS t (stM (SS t) t i)) t (md (stM (SS t) t i) - 1) = mK (stM (SS t) t i) (md (stM (SS t) t i) - 1) := by
          unfold KS
          rw [gF_s, if_pos (by omega)]
        have ev := (s3.2.2 t ht (md (stM (SS t) t i) - 1) (by omega) 0 (by rw [kt]; exact hk)).2
        have ob := s3.1 (md (stM (SS t) t i) - 1) (by omega)
        have ole := oF_le (K := KS (gF SS t (stM (SS t) t i))) (l := md (stM (SS t) t i) - 1) ht
        have cs : CS (gF SS t (stM (SS t) t i)) t (md (stM (SS t) t i) - 1) 0 = mc (stM (SS t) t i) (md (stM (SS t) t i) - 1) 0 := by
          unfold CS
          rw [gF_s]
        rw [cs, Nat.add_zero (256 * (md (stM (SS t) t i) - 1) + _)] at ev
        have ev : R1.2.2 8 (256 * (md (stM (SS t) t i) - 1) + oF (KS (gF SS t (stM (SS t) t i))) (md (stM (SS t) t i) - 1) t) = (mc (stM (SS t) t i) (md (stM (SS t) t i) - 1) 0 : Int) := ev
        have cb := (hsh.2.2.2.2.1 _ (show md (stM (SS t) t i) - 1 < md (stM (SS t) t i) by omega) 0 hk).2.1
        have hm := hg.1
        have lv := s3.lv (g2 := t) (l2 := md (stM (SS t) t i) - 1) (by omega) (by omega)
        have no : ∀ y3, Go G m_Mod_shrink (gFin G (fun v N' h' => v = none ∧ N' = N ∧ ∃ R', RS R' SS' m ∧ (∀ j, j < 5 → R'.2.2 j = R.2.2 j) ∧ R'.1 = R.1 ∧ h' = hrx R' h) gNo) 57 [some (vR 541), some (vI t), some (vI 1), y3] [] N (hrx R1 h) 0 0 := by
          intro y3
          repeat (first | refine go_pure hM rfl ?_ | refine go_get hM rfl hr_o rfl ?_ | refine go_ldc hM rfl ?_)
          refine go_if_eq hM rfl (by omega) (fun _ => ?_) (fun h9 => absurd rfl h9)
          repeat (first | refine go_pure hM rfl ?_ | refine go_get hM rfl hr_o rfl ?_ | refine go_ldc hM rfl ?_)
          exact go_if_eq hM rfl (by omega) (fun _ => ex _ _) (fun h9 => absurd rfl h9)
        repeat (first | refine go_pure hM rfl ?_ | refine go_get hM rfl hr_o rfl ?_ | refine go_ldc hM rfl ?_)
        refine go_if_eq hM rfl (by omega) (fun h9 => absurd h9 (by omega)) (fun _ => ?_)
        repeat (first | refine go_pure hM rfl ?_ | refine go_get hM rfl hr_o rfl ?_ | refine go_ldc hM rfl ?_)
        refine go_iald hM rfl hr_D (by omega) (by omega) (by omega) ?_
        rw [tt, D0]
        repeat (first | refine go_pure hM rfl ?_ | refine go_get hM rfl hr_o rfl ?_ | refine go_ldc hM rfl ?_)
        rw [show ((md (stM (SS t) t i) : Nat) : Int) - 1 = ((md (stM (SS t) t i) - 1 : Nat) : Int) by omega]
        refine go_cV hM rfl rfl rfl hr_o rfl (m_levelOf (f := t) (by omega) (by omega)) rfl ?_
        rw [lv]
        repeat (first | refine go_pure hM rfl ?_ | refine go_get hM rfl hr_o rfl ?_ | refine go_ldc hM rfl ?_)
        refine go_iald hM rfl hr_R (by omega) (by omega) (by omega) ?_
        rw [tt, R0]
        repeat (first | refine go_pure hM rfl ?_ | refine go_get hM rfl hr_o rfl ?_ | refine go_ldc hM rfl ?_)
        refine go_icmp_ne hM rfl (by omega) (by omega) (fun _ => no _) (fun h9 => ?_)
        repeat (first | refine go_pure hM rfl ?_ | refine go_get hM rfl hr_o rfl ?_ | refine go_ldc hM rfl ?_)
        refine go_iald hM rfl hr_E (by omega) (by omega) (by omega) ?_
        rw [show ((256 * (md (stM (SS t) t i) - 1) + oF (KS (gF SS t (stM (SS t) t i))) (md (stM (SS t) t i) - 1) t : Nat) : Int).toNat = 256 * (md (stM (SS t) t i) - 1) + oF (KS (gF SS t (stM (SS t) t i))) (md (stM (SS t) t i) - 1) t by omega, ev]
        repeat (first | refine go_pure hM rfl ?_ | refine go_get hM rfl hr_o rfl ?_ | refine go_ldc hM rfl ?_)
        refine go_icmp_gt hM rfl (by omega) (by omega) (fun _ => no _) (fun h8 => ?_)
        exact absurd ⟨h0, by omega, by omega⟩ j2
      · rw [if_neg h0] at e2
        subst e2
        repeat (first | refine go_pure hM rfl ?_ | refine go_get hM rfl hr_o rfl ?_ | refine go_ldc hM rfl ?_)
        exact go_if_eq hM rfl (by omega) (fun _ => ex _ _) (fun h9 => absurd rfl h9)
    | succ q ih =>
      intro i R1 mo y e1 r1 r2 r3 e2
      have hC := j1 i (by omega)
      have hg := j4 i (by omega)
      have hg2 := j4 (i + 1) (by omega)
      obtain ⟨s1, s2, s3, s4, s5⟩ := r1
      have hsh := (hg.2.1 t ht).1
      rw [gF_s] at hsh
      have q1 := s2 t ht
      rw [gF_s] at q1
      have inj := hg.inj ht
      rw [gF_s] at inj
      have kone := stc_k hsh hC
      have nx0 := ih (i + 1)
      have eS : stM (SS t) t (i + 1) = sSt (stM (SS t) t i) t := rfl
      rw [eS] at nx0 hg2
      generalize hX : stM (SS t) t i = X at *
      obtain ⟨c1, c2, c3⟩ := hC
      have D0 : R1.2.2 5 t = (md X : Int) := q1.1
      have R0 : R1.2.2 6 t = (mc X (md X) 0 : Int) := q1.2
      have hd5 := hsh.1
      rw [if_pos c1] at e2
      subst e2
      have kt : KS (gF SS t X) t (md X - 1) = 1 := by
        unfold KS
        rw [gF_s, if_pos (by omega)]
        exact kone
      have evb := s3.2.2 t ht (md X - 1) (by omega) 0 (by rw [kt]; omega)
      have ob := s3.1 (md X - 1) (by omega)
      have ole := oF_le (K := KS (gF SS t X)) (l := md X - 1) ht
      have cs : CS (gF SS t X) t (md X - 1) 0 = mc X (md X - 1) 0 := by
        unfold CS
        rw [gF_s]
      have bs : BS (gF SS t X) t (md X - 1) 0 = mb X (md X - 1) 0 := by
        unfold BS
        rw [gF_s]
      rw [cs, bs, Nat.add_zero (256 * (md X - 1) + _)] at evb
      have ev : R1.2.2 8 (256 * (md X - 1) + oF (KS (gF SS t X)) (md X - 1) t) = (mc X (md X - 1) 0 : Int) := evb.2
      have bb := (hsh.2.2.2.2.1 _ (show md X - 1 < md X by omega) 0 (by omega)).2.2
      have lv := s3.lv (g2 := t) (l2 := md X - 1) (by omega) (by omega)
      generalize hRa : sR (sR R1 6 (gF (zR R1) t (mc X (md X - 1) 0 : Int))) 5 (gF (zD R1) t ((md X - 1 : Nat) : Int)) = Ra
      have oa : ∀ j, j ≠ 5 → j ≠ 6 → Ra.2.2 j = R1.2.2 j := fun j j1 j2 => by
        rw [← hRa]
        exact (sR_n j1).trans (sR_n j2)
      have rda : RD Ra (KS (gF SS t X)) (BS (gF SS t X)) (CS (gF SS t X)) := by
        refine ⟨s3.1, fun g hg l hl => ?_, fun g hg l hl p hp => ?_⟩
        · rw [show zM Ra = zM R1 from oa 9 (by omega) (by omega)]
          exact s3.2.1 g hg l hl
        · rw [show zN Ra = zN R1 from oa 7 (by omega) (by omega), show zE Ra = zE R1 from oa 8 (by omega) (by omega)]
          exact s3.2.2 g hg l hl p hp
      obtain ⟨e, he⟩ : ∃ e, e + 1 = 256 * (md X - 1) + oF (KS (gF SS t X)) (md X - 1) 4 := ⟨256 * (md X - 1) + oF (KS (gF SS t X)) (md X - 1) 4 - 1, by omega⟩
      have rb := rda.del (g := t) (l := md X - 1) (q := 0) (e := e) (T' := gF (zT Ra) (mb X (md X - 1) 0) 0) ht (by omega) (by rw [kt]; omega) he
      have lve : lvO Ra 4 (md X - 1) = ((e + 1 : Nat) : Int) := by
        rw [rda.lv (Nat.le_refl _) (by omega), he]
      have cr := m_removeNode (G := G) (N := N) (h := h) (R := Ra) (f := t) (l := md X - 1) (p := 256 * (md X - 1) + oF (KS (gF SS t X)) (md X - 1) t + 0) (e := e) (b := mb X (md X - 1) 0) ht (by omega) lve (by omega) (by omega) (by
        rw [show zN Ra = zN R1 from oa 7 (by omega) (by omega), Nat.add_zero (256 * (md X - 1) + _)]
        exact evb.1) (by omega)
      rw [Nat.add_zero (256 * (md X - 1) + _)] at cr rb
      generalize hRb : sR (sNE (sR Ra 10 (gF (zT Ra) (mb X (md X - 1) 0) 0)) (shE (zN Ra) (256 * (md X - 1) + oF (KS (gF SS t X)) (md X - 1) t) e) (shE (zE Ra) (256 * (md X - 1) + oF (KS (gF SS t X)) (md X - 1) t) e)) 9 (gF (zM Ra) (6 * t + (md X - 1)) (zM Ra (6 * t + (md X - 1)) - 1)) = Rb at rb cr
      have ob2 : ∀ j, j ≠ 7 → j ≠ 8 → j ≠ 9 → j ≠ 10 → Rb.2.2 j = Ra.2.2 j := fun j j7 j8 j9 j10 => by
        rw [← hRb]
        exact (sR_n j9).trans ((sNE_o j7 j8).trans (sR_n j10))
      have tb : zT Rb = gF (zT R1) (mb X (md X - 1) 0) 0 := by
        rw [← hRb]
        have z1 : ∀ a b c d, zT (sR (sNE (sR Ra 10 c) a b) 9 d) = c := fun a b c d => (sR_n (by omega)).trans ((sNE_o (by omega) (by omega)).trans sR_s)
        rw [z1, show zT Ra = zT R1 from oa 10 (by omega) (by omega)]
      have d5 : zD Rb = gF (zD R1) t ((md X - 1 : Nat) : Int) := (ob2 5 (by omega) (by omega) (by omega) (by omega)).trans (by
        rw [← hRa]
        exact sR_s)
      have d6 : zR Rb = gF (zR R1) t (mc X (md X - 1) 0 : Int) := (ob2 6 (by omega) (by omega) (by omega) (by omega)).trans (by
        rw [← hRa]
        exact (sR_n (by omega)).trans sR_s)
      have RSn : RS Rb (gF SS t (sSt X t)) m := by
        refine ⟨?_, fun g hg9 => ?_, rb.congr (fun g hg9 l hl => ?_) (fun g hg9 l hl p hp => ?_), ?_, ?_⟩
        · rw [← hRb]
          show Ra.2.1 = _
          rw [← hRa]
          exact s1
        · rw [d5, d6]
          by_cases eg : g = t
          · subst eg
            rw [gF_s, gF_s, gF_s]
            exact ⟨rfl, rfl⟩
          · have := s2 g hg9
            rw [gF_n eg] at this
            rw [gF_n eg, gF_n eg, gF_n eg]
            exact this
        · by_cases eg : g = t
          · subst eg
            by_cases el : l = md X - 1
            · rw [el, uF2_s, kt]
              unfold KS
              rw [gF_s]
              exact if_neg (by show ¬ md X - 1 < md X - 1; omega)
            · rw [uF2_l el]
              unfold KS
              rw [gF_s, gF_s]
              show (if l < md X - 1 then mK X l else 0) = if l < md X then mK X l else 0
              by_cases e3 : l < md X - 1
              · rw [if_pos e3, if_pos (by omega)]
              · rw [if_neg e3, if_neg (by omega)]
          · rw [uF2_g eg]
            unfold KS
            rw [gF_n eg, gF_n eg]
        · by_cases eg : g = t
          · subst eg
            by_cases el : l = md X - 1
            · rw [el, uF2_s, kt] at hp
              exact absurd hp (Nat.not_lt_zero _)
            · rw [uF2_l el, uF2_l el]
              unfold BS CS
              rw [gF_s, gF_s, sst_bo el]
              exact ⟨rfl, rfl⟩
          · rw [uF2_g eg, uF2_g eg]
            unfold BS CS
            rw [gF_n eg, gF_n eg]
            exact ⟨rfl, rfl⟩
        · rw [tb, gF_n (by omega)]
          exact s4
        · rw [tb]
          have z := tn_sub (S' := sSt X t) hg ht s5 (bs := fun _ => mb X (md X - 1) 0) (n := 1) (fun y hy => ⟨md X - 1, 0, by rw [gF_s]; omega, by rw [gF_s]; omega, by rw [gF_s]⟩) (fun b => by
            rw [gF_s, sst_own hsh inj ⟨c1, c2, c3⟩ b]
            exact ⟨fun z => ⟨z.1, fun y _ => z.2⟩, fun z => ⟨z.1, z.2 0 (by omega)⟩⟩)
          rw [gF_uu] at z
          exact z
      have nx := fun mo y h9 => nx0 Rb mo y (by omega) RSn (fun j hj => by rw [ob2 j (by omega) (by omega) (by omega) (by omega), oa j (by omega) (by omega)]; exact r2 j hj) (by
        rw [← hRb]
        show Ra.1 = _
        rw [← hRa]
        exact r3) h9
      have twi : ((256 * (md X - 1) + oF (KS (gF SS t X)) (md X - 1) t : Nat) : Int).toNat = 256 * (md X - 1) + oF (KS (gF SS t X)) (md X - 1) t := by omega
      have D1 : (sR R1 6 (gF (R1.2.2 6) t (mc X (md X - 1) 0 : Int))).2.2 5 = R1.2.2 5 := sR_n (by omega)
      have Da : Ra.2.2 5 t = ((md X - 1 : Nat) : Int) := by
        rw [← hRa, sR_s, gF_s]
      have Db : Rb.2.2 5 t = ((md X - 1 : Nat) : Int) := by
        rw [ob2 5 (by omega) (by omega) (by omega) (by omega)]
        exact Da
      repeat (first | refine go_pure hM rfl ?_ | refine go_get hM rfl hr_o rfl ?_ | refine go_ldc hM rfl ?_)
      refine go_if_eq hM rfl (by omega) (fun h9 => absurd h9 (by omega)) (fun _ => ?_)
      repeat (first | refine go_pure hM rfl ?_ | refine go_get hM rfl hr_o rfl ?_ | refine go_ldc hM rfl ?_)
      refine go_iald hM rfl hr_D (by omega) (by omega) (by omega) ?_
      rw [tt, D0]
      repeat (first | refine go_pure hM rfl ?_ | refine go_get hM rfl hr_o rfl ?_ | refine go_ldc hM rfl ?_)
      rw [show ((md X : Nat) : Int) - 1 = ((md X - 1 : Nat) : Int) by omega]
      refine go_cV hM rfl rfl rfl hr_o rfl (m_levelOf (f := t) (by omega) (by omega)) rfl ?_
      rw [lv]
      repeat (first | refine go_pure hM rfl ?_ | refine go_get hM rfl hr_o rfl ?_ | refine go_ldc hM rfl ?_)
      refine go_iald hM rfl hr_R (by omega) (by omega) (by omega) ?_
      rw [tt, R0, c2]
      repeat (first | refine go_pure hM rfl ?_ | refine go_get hM rfl hr_o rfl ?_ | refine go_ldc hM rfl ?_)
      refine go_icmp_ne hM rfl (by omega) (by omega) (fun h9 => absurd rfl h9) (fun _ => ?_)
      repeat (first | refine go_pure hM rfl ?_ | refine go_get hM rfl hr_o rfl ?_ | refine go_ldc hM rfl ?_)
      refine go_iald hM rfl hr_E (by omega) (by omega) (by omega) ?_
      rw [twi, ev]
      repeat (first | refine go_pure hM rfl ?_ | refine go_get hM rfl hr_o rfl ?_ | refine go_ldc hM rfl ?_)
      refine go_icmp_gt hM rfl (by omega) (by omega) (fun h9 => absurd h9 (by omega)) (fun _ => ?_)
      repeat (first | refine go_pure hM rfl ?_ | refine go_get hM rfl hr_o rfl ?_ | refine go_ldc hM rfl ?_)
      refine go_if_eq hM rfl (by omega) (fun h9 => absurd h9 (by omega)) (fun _ => ?_)
      repeat (first | refine go_pure hM rfl ?_ | refine go_get hM rfl hr_o rfl ?_ | refine go_ldc hM rfl ?_)
      refine go_iald hM rfl hr_E (by omega) (by omega) (by omega) ?_
      rw [twi, ev]
      refine go_iast hM rfl hr_R (by omega) (by omega) (by omega) ?_
      rw [tt, ur_R]
      repeat (first | refine go_pure hM rfl ?_ | refine go_get hM rfl hr_o rfl ?_ | refine go_ldc hM rfl ?_)
      refine go_dup2 hM rfl ?_
      refine go_iald hM rfl hr_D (by omega) (by omega) (by omega) ?_
      rw [tt, D1, D0]
      repeat (first | refine go_pure hM rfl ?_ | refine go_get hM rfl hr_o rfl ?_ | refine go_ldc hM rfl ?_)
      refine go_iast hM rfl hr_D (by omega) (by omega) (by omega) ?_
      rw [tt, ur_D, D1, show ((md X : Nat) : Int) - 1 = ((md X - 1 : Nat) : Int) by omega]
      have hRa : sR (sR R1 6 (gF (R1.2.2 6) t (mc X (md X - 1) 0 : Int))) 5 (gF (R1.2.2 5) t ((md X - 1 : Nat) : Int)) = Ra := hRa
      rw [hRa]
      repeat (first | refine go_pure hM rfl ?_ | refine go_get hM rfl hr_o rfl ?_ | refine go_ldc hM rfl ?_)
      refine go_iald hM rfl hr_D (by omega) (by omega) (by omega) ?_
      rw [tt, Da]
      repeat (first | refine go_pure hM rfl ?_ | refine go_get hM rfl hr_o rfl ?_ | refine go_ldc hM rfl ?_)
      refine go_cV hM rfl rfl rfl hr_o rfl cr rfl ?_
      repeat (first | refine go_pure hM rfl ?_ | refine go_get hM rfl hr_o rfl ?_ | refine go_ldc hM rfl ?_)
      refine go_iald hM rfl hr_D (by omega) (by omega) (by omega) ?_
      rw [tt, Db]
      refine go_if_le hM rfl (by omega) (fun h9 => ?_) (fun h9 => ?_)
      · have n2 := nx 0 (some (vI ((256 * (md X - 1) + oF (KS (gF SS t X)) (md X - 1) t : Nat) : Int))) (if_neg (show ¬ 0 < md X - 1 by omega)).symm
        repeat (first | exact n2 | refine go_pure hM rfl ?_ | refine go_get hM rfl hr_o rfl ?_ | refine go_ldc hM rfl ?_)
      · have n2 := nx 1 (some (vI ((256 * (md X - 1) + oF (KS (gF SS t X)) (md X - 1) t : Nat) : Int))) (if_pos (show 0 < md X - 1 by omega)).symm
        repeat (first | exact n2 | refine go_pure hM rfl ?_ | refine go_get hM rfl hr_o rfl ?_ | refine go_ldc hM rfl ?_)
  have q1 := (hs.2.1 t ht).1
  have D0 : R.2.2 5 t = (md (SS t) : Int) := q1
  have hd5 := ((j4 0 (Nat.zero_le _)).2.1 t ht).1.1
  rw [gF_s] at hd5
  have hd5 : md (SS t) ≤ 5 := hd5
  have r0 : RS R (gF SS t (stM (SS t) t 0)) m := by
    show RS R (gF SS t (SS t)) m
    rw [gF_same]
    exact hs
  have nx := fun mo h9 => loop j 0 R mo none (by omega) r0 (fun j _ => rfl) rfl h9
  repeat (first | refine go_pure hM rfl ?_ | refine go_get hM rfl hr_o rfl ?_ | refine go_ldc hM rfl ?_)
  refine go_iald hM rfl hr_D (by omega) (by omega) (by omega) ?_
  rw [tt, D0]
  refine go_if_le hM rfl (by omega) (fun h9 => ?_) (fun h9 => ?_)
  · have n2 := nx 0 (by
      show (0 : Int) = if 0 < md (SS t) then 1 else 0
      rw [if_neg (by omega)])
    repeat (first | exact n2 | refine go_pure hM rfl ?_ | refine go_get hM rfl hr_o rfl ?_ | refine go_ldc hM rfl ?_)
  · have n2 := nx 1 (by
      show (1 : Int) = if 0 < md (SS t) then 1 else 0
      rw [if_pos (by omega)])
    repeat (first | exact n2 | refine go_pure hM rfl ?_ | refine go_get hM rfl hr_o rfl ?_ | refine go_ldc hM rfl ?_)
end
