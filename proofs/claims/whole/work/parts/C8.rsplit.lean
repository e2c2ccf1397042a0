/-! the reference: enter, its last loop: the full nodes of the way split -/
def eK (K : Nat → Nat → Nat) (t a n : Nat) : Nat → Nat → Nat := fun g l => if g = t ∧ n ≤ l ∧ l < a then K g l + 1 else K g l
def eB (B : Nat → Nat → Nat → Nat) (t a n : Nat) (P nb : Nat → Nat) : Nat → Nat → Nat → Nat := fun g l => if g = t ∧ n ≤ l ∧ l < a then insN (B g l) (P l + 1) (nb l) else B g l
def eC (C : Nat → Nat → Nat → Nat) (t a n : Nat) (P u v : Nat → Nat) : Nat → Nat → Nat → Nat := fun g l => if g = t ∧ n ≤ l ∧ l < a then insN (gF (C g l) (P l) (u l)) (P l + 1) (v l) else C g l
section
variable {G : gG} {N : Option Nat} {h : gH} {K : Nat → Nat → Nat} {B C : Nat → Nat → Nat → Nat} {t a m : Nat} {P nb pl : Nat → Nat} {i d : Int} {Rs : rA}
/-- what stays as it was -/
def sam (R Rs : rA) : Prop := R.1 = Rs.1 ∧ R.2.1 = Rs.2.1 ∧ ∀ j, j ≠ 7 → j ≠ 8 → j ≠ 9 → R.2.2 j = Rs.2.2 j
set_option maxRecDepth 8000 in
set_option maxHeartbeats 4000000 in
theorem en_split {Q9 : Option gV → Option Nat → gH → Prop} {X : String → gH → Prop} (ht : t < 4) (ha : a ≤ 5) (hm : 5 ≤ m ∧ m ≤ 84) (hmo : Rs.2.1 = (m : Int)) (hP : ∀ l, l < a → P l < K t l) (hY : ∀ l, l < a → zY Rs l = ((256 * l + oF K l t + P l : Nat) : Int)) (hpl : ∀ l, l < a → zP Rs l = (pl l : Int) ∧ pl l ≤ 100000) (hF : ∀ l, l < a → zF Rs l = (nb l : Int)) (hbd : ∀ l, l < a → oF (eK K t a 0) l 4 ≤ 255) :
    ∀ (n : Nat) (R : rA) (j : Int) (y6 y7 : Option gV), n ≤ a → j = (n : Int) - 1 → RD R (eK K t a n) (eB B t a n P nb) (eC C t a n P (fun l => (m + 1) / 2 + if pl l ≤ (m + 1) / 2 then 1 else 0) (fun l => m - (m + 1) / 2 + if pl l ≤ (m + 1) / 2 then 0 else 1)) → sam R Rs → (∀ R', RD R' (eK K t a 0) (eB B t a 0 P nb) (eC C t a 0 P (fun l => (m + 1) / 2 + if pl l ≤ (m + 1) / 2 then 1 else 0) (fun l => m - (m + 1) / 2 + if pl l ≤ (m + 1) / 2 then 0 else 1)) → sam R' Rs → Q9 none N (hrx R' h)) →
      Go G m_Mod_enter (gFin G Q9 X) 197 [some (vR 541), some (vI t), some (vI i), some (vI d), some (vI a), some (vI j), y6, y7] [] N (hrx R h) 0 0 := by
  have hM := ok_Mod_enter
  intro n
  induction n with
  | zero =>
    intro R j y6 y7 e1 e2 hR hs hQ
    subst e2
    repeat (first | refine go_pure hM rfl ?_ | refine go_get hM rfl hr_o rfl ?_ | refine go_ldc hM rfl ?_)
    refine go_if_lt hM rfl (by omega) (fun _ => ?_) (fun h9 => absurd h9 (by omega))
    exact go_vret hM rfl rfl (hQ R hR hs)
  | succ l ih =>
    intro R j y6 y7 e1 e2 hR hs hQ
    have e2 : j = (l : Int) := by omega
    subst e2
    have hl6 : l < 6 := by omega
    have hPl := hP l (by omega)
    obtain ⟨s1, s2, s3⟩ := hs
    have y9 := hY l (by omega)
    obtain ⟨p9, p8⟩ := hpl l (by omega)
    have f9 := hF l (by omega)
    have k0 : ∀ g, eK K t a (l + 1) g l = K g l := fun g => if_neg (by omega)
    have c0 : ∀ g, eC C t a (l + 1) P (fun l => (m + 1) / 2 + if pl l ≤ (m + 1) / 2 then 1 else 0) (fun l => m - (m + 1) / 2 + if pl l ≤ (m + 1) / 2 then 0 else 1) g l = C g l := fun g => if_neg (by omega)
    have b0 : ∀ g, eB B t a (l + 1) P nb g l = B g l := fun g => if_neg (by omega)
    have o1 : ∀ g, oF (eK K t a (l + 1)) l g = oF K l g := fun g => oF_congr (fun g' _ => k0 g')
    have o2 : oF (eK K t a 0) l 4 = oF K l 4 + 1 := by
      have z1 : oF (eK K t a 0) l 4 = oF (uF2 K t l (K t l + 1)) l 4 := oF_congr (fun g _ => by
        by_cases e : g = t
        · subst e
          rw [uF2_s]
          exact if_pos ⟨rfl, by omega, by omega⟩
        · rw [uF2_g e]
          exact if_neg (fun z => e z.1))
      rw [z1, oF_up, if_pos ht]
    have hb := hbd l (by omega)
    have ole := oF_le (K := K) (l := l) ht
    generalize hh : (m + 1) / 2 = hf at *
    have hf1 : (((m : Int) + 1) / 2) = (hf : Int) := by omega
    have R1 := hR.cnt (g := t) (l := l) (q := P l) (x := hf + if pl l ≤ hf then 1 else 0) ht hl6 (by rw [k0]; exact hPl)
    rw [o1] at R1
    have nE : zN (sR R 8 (gF (zE R) (256 * l + oF K l t + P l) ((hf + if pl l ≤ hf then 1 else 0 : Nat) : Int))) = zN R := sR_n (by omega)
    have R2 := R1.ins (g := t) (l := l) (q := P l + 1) (x := nb l) (n := m - hf + if pl l ≤ hf then 0 else 1) ht hl6 (by rw [k0]; omega) (by rw [o1]; omega)
    rw [o1, o1] at R2
    generalize hR1 : sR R 8 (gF (zE R) (256 * l + oF K l t + P l) ((hf + if pl l ≤ hf then 1 else 0 : Nat) : Int)) = Ra at R1 R2 nE
    have lve : lvO Ra 4 l = ((256 * l + oF K l 4 : Nat) : Int) := by
      have := R1.lv (g2 := 4) (Nat.le_refl _) hl6
      rw [o1] at this
      exact this
    have Ra_o : ∀ j, j ≠ 8 → Ra.2.2 j = R.2.2 j := fun j hj => by
      rw [← hR1]
      exact sR_n hj
    have Ra_1 : Ra.1 = R.1 ∧ Ra.2.1 = R.2.1 := by
      rw [← hR1]
      exact ⟨rfl, rfl⟩
    have ci := m_insertNode (G := G) (N := N) (h := h) (R := Ra) (f := t) (l := l) (p := 256 * l + oF K l t + (P l + 1)) (e := 256 * l + oF K l 4) (x := (nb l : Int)) (n := ((m - hf + if pl l ≤ hf then 0 else 1 : Nat) : Int)) ht hl6 lve (by omega) (by omega)
    generalize hR2 : sR (sNE Ra (gF (shU (zN Ra) (256 * l + oF K l t + (P l + 1)) (256 * l + oF K l 4)) (256 * l + oF K l t + (P l + 1)) (nb l : Int)) (gF (shU (zE Ra) (256 * l + oF K l t + (P l + 1)) (256 * l + oF K l 4)) (256 * l + oF K l t + (P l + 1)) ((m - hf + if pl l ≤ hf then 0 else 1 : Nat) : Int))) 9 (gF (zM Ra) (6 * t + l) (zM Ra (6 * t + l) + 1)) = Rb at R2 ci
    have Rb_s : sam Rb Rs := by
      rw [← hR2]
      refine ⟨Ra_1.1.trans s1, Ra_1.2.trans s2, fun j j7 j8 j9 => ?_⟩
      rw [sR_n j9, sNE_o j7 j8, Ra_o j j8]
      exact s3 j j7 j8 j9
    have nx := ih Rb ((l : Int) + -1) (some (vI (hf : Int))) (some (vI (if pl l ≤ hf then 1 else 0))) (by omega) (by omega) (R2.congr (fun g hg l2 hl2 => by
      by_cases e : g = t ∧ l2 = l
      · rw [e.1, e.2, uF2_s, k0]
        exact if_pos ⟨rfl, by omega, by omega⟩
      · have e9 : uF2 (eK K t a (l + 1)) t l (eK K t a (l + 1) t l + 1) g l2 = eK K t a (l + 1) g l2 := by
          by_cases eg : g = t
          · exact uF2_l (fun z => e ⟨eg, z⟩)
          · rw [uF2_g eg]
        rw [e9]
        unfold eK
        by_cases e8 : g = t ∧ l ≤ l2 ∧ l2 < a
        · rw [if_pos e8, if_pos (by omega)]
        · rw [if_neg e8, if_neg (by omega)]) (fun g hg l2 hl2 p hp => by
      by_cases e : g = t ∧ l2 = l
      · obtain ⟨rfl, rfl⟩ := e
        rw [uF2_s, uF2_s, uF2_s, b0, c0]
        have q1 : eB B g a l2 P nb g l2 = insN (B g l2) (P l2 + 1) (nb l2) := if_pos ⟨rfl, by omega, by omega⟩
        have q2 : eC C g a l2 P (fun l => hf + if pl l ≤ hf then 1 else 0) (fun l => m - hf + if pl l ≤ hf then 0 else 1) g l2 = insN (gF (C g l2) (P l2) (hf + if pl l2 ≤ hf then 1 else 0)) (P l2 + 1) (m - hf + if pl l2 ≤ hf then 0 else 1) := if_pos ⟨rfl, by omega, by omega⟩
        rw [q1, q2]
        exact ⟨rfl, rfl⟩
      · have gn : ∀ {α : Type} (f : Nat → Nat → α) (x : α), uF2 f t l x g l2 = f g l2 := by
          intro α f x
          by_cases eg : g = t
          · exact uF2_l (fun z => e ⟨eg, z⟩)
          · rw [uF2_g eg]
        rw [gn, gn, gn]
        unfold eB eC
        by_cases e8 : g = t ∧ l ≤ l2 ∧ l2 < a
        · rw [if_pos e8, if_pos e8, if_pos (by omega), if_pos (by omega)]
          exact ⟨rfl, rfl⟩
        · rw [if_neg e8, if_neg e8, if_neg (by omega), if_neg (by omega)]
          exact ⟨rfl, rfl⟩)) Rb_s hQ
    have y9 : R.2.2 11 l = ((256 * l + oF K l t + P l : Nat) : Int) := by
      rw [s3 11 (by omega) (by omega) (by omega)]
      exact y9
    have p9 : R.2.2 12 l = (pl l : Int) := by
      rw [s3 12 (by omega) (by omega) (by omega)]
      exact p9
    have f9 : R.2.2 13 l = (nb l : Int) := by
      rw [s3 13 (by omega) (by omega) (by omega)]
      exact f9
    have mo : R.2.1 = (m : Int) := s2.trans hmo
    have tl : ((l : Nat) : Int).toNat = l := by omega
    repeat (first | refine go_pure hM rfl ?_ | refine go_get hM rfl hr_o rfl ?_ | refine go_ldc hM rfl ?_)
    refine go_if_lt hM rfl (by omega) (fun h9 => absurd h9 (by omega)) (fun _ => ?_)
    repeat (first | refine go_pure hM rfl ?_ | refine go_get hM rfl hr_o rfl ?_ | refine go_ldc hM rfl ?_)
    refine go_idiv hM rfl (by rw [mo]; omega) (by omega) ?_
    rw [mo, hf1]
    repeat (first | refine go_pure hM rfl ?_ | refine go_get hM rfl hr_o rfl ?_ | refine go_ldc hM rfl ?_)
    refine go_iald hM rfl hr_P (by omega) (by omega) (by omega) ?_
    rw [tl, p9]
    repeat (first | refine go_pure hM rfl ?_ | refine go_get hM rfl hr_o rfl ?_ | refine go_ldc hM rfl ?_)
    -- behind the choice
    have rest : ∀ o : Int, o = (if pl l ≤ hf then 1 else 0) → Go G m_Mod_enter (gFin G Q9 X) 229 [some (vR 541), some (vI t), some (vI i), some (vI d), some (vI a), some (vI l), some (vI hf), y7] [vI o] N (hrx R h) 0 0 := by
      intro o ho
      have o01 : (o = 1 ∧ pl l ≤ hf) ∨ (o = 0 ∧ ¬ pl l ≤ hf) := by
        by_cases e : pl l ≤ hf
        · rw [if_pos e] at ho
          exact Or.inl ⟨ho, e⟩
        · rw [if_neg e] at ho
          exact Or.inr ⟨ho, e⟩
      have end2 : ∀ z : Int, z = (if pl l ≤ hf then 0 else 1) → Go G m_Mod_enter (gFin G Q9 X) 293 [some (vR 541), some (vI t), some (vI i), some (vI d), some (vI a), some (vI l), some (vI hf), some (vI o)] [vI z, vI ((m : Int) - hf), vI (nb l), vI ((256 * l + oF K l t + (P l + 1) : Nat) : Int), vI l, vI t, vR 541] N (hrx Ra h) 0 0 := by
        intro z hz
        have ez : (m : Int) - hf + z = ((m - hf + if pl l ≤ hf then 0 else 1 : Nat) : Int) := by
          rw [hz]
          split <;> omega
        refine go_pure hM rfl ?_
        rw [ez]
        refine go_cV hM rfl rfl rfl hr_o rfl ci rfl ?_
        rw [ho]
        repeat (first | exact nx | refine go_pure hM rfl ?_ | refine go_get hM rfl hr_o rfl ?_ | refine go_ldc hM rfl ?_)
      have end1 : ∀ z : Int, z = (if pl l ≤ hf then 1 else 0) → Go G m_Mod_enter (gFin G Q9 X) 254 [some (vR 541), some (vI t), some (vI i), some (vI d), some (vI a), some (vI l), some (vI hf), some (vI o)] [vI z, vI hf, vI ((256 * l + oF K l t + P l : Nat) : Int), vR 550] N (hrx R h) 0 0 := by
        intro z hz
        have ez : (hf : Int) + z = ((hf + if pl l ≤ hf then 1 else 0 : Nat) : Int) := by
          rw [hz]
          split <;> omega
        refine go_pure hM rfl ?_
        rw [ez]
        refine go_iast hM rfl hr_E (by omega) (by omega) (by omega) ?_
        rw [show ((256 * l + oF K l t + P l : Nat) : Int).toNat = 256 * l + oF K l t + P l by omega, ur_E, hR1]
        repeat (first | refine go_pure hM rfl ?_ | refine go_get hM rfl hr_o rfl ?_ | refine go_ldc hM rfl ?_)
        refine go_iald hM rfl hr_Y (by omega) (by omega) (by omega) ?_
        rw [tl, Ra_o 11 (by omega), y9]
        repeat (first | refine go_pure hM rfl ?_ | refine go_get hM rfl hr_o rfl ?_ | refine go_ldc hM rfl ?_)
        refine go_iald hM rfl hr_F (by omega) (by omega) (by omega) ?_
        rw [tl, Ra_o 13 (by omega), f9]
        have mo2 : Ra.2.1 = (m : Int) := Ra_1.2.trans mo
        repeat (first | refine go_pure hM rfl ?_ | refine go_get hM rfl hr_o rfl ?_ | refine go_ldc hM rfl ?_)
        rw [mo2, show ((256 * l + oF K l t + P l : Nat) : Int) + 1 = ((256 * l + oF K l t + (P l + 1) : Nat) : Int) by omega]
        rcases o01 with ⟨rfl, e9⟩ | ⟨rfl, e9⟩
        · refine go_if_eq hM rfl (by omega) (fun h9 => absurd h9 (by omega)) (fun _ => ?_)
          have n2 := end2 0 (by rw [if_pos e9])
          repeat (first | exact n2 | refine go_pure hM rfl ?_ | refine go_get hM rfl hr_o rfl ?_ | refine go_ldc hM rfl ?_)
        · refine go_if_eq hM rfl (by omega) (fun _ => ?_) (fun h9 => absurd rfl h9)
          have n2 := end2 1 (by rw [if_neg e9])
          repeat (first | exact n2 | refine go_pure hM rfl ?_ | refine go_get hM rfl hr_o rfl ?_ | refine go_ldc hM rfl ?_)
      repeat (first | refine go_pure hM rfl ?_ | refine go_get hM rfl hr_o rfl ?_ | refine go_ldc hM rfl ?_)
      refine go_iald hM rfl hr_Y (by omega) (by omega) (by omega) ?_
      rw [tl, y9]
      repeat (first | refine go_pure hM rfl ?_ | refine go_get hM rfl hr_o rfl ?_ | refine go_ldc hM rfl ?_)
      rcases o01 with ⟨rfl, e9⟩ | ⟨rfl, e9⟩
      · refine go_if_eq hM rfl (by omega) (fun h9 => absurd h9 (by omega)) (fun _ => ?_)
        have n2 := end1 1 (by rw [if_pos e9])
        repeat (first | exact n2 | refine go_pure hM rfl ?_ | refine go_get hM rfl hr_o rfl ?_ | refine go_ldc hM rfl ?_)
      · refine go_if_eq hM rfl (by omega) (fun _ => ?_) (fun h9 => absurd rfl h9)
        have n2 := end1 0 (by rw [if_neg e9])
        repeat (first | exact n2 | refine go_pure hM rfl ?_ | refine go_get hM rfl hr_o rfl ?_ | refine go_ldc hM rfl ?_)
    refine go_icmp_gt hM rfl (by omega) (by omega) (fun h9 => ?_) (fun h9 => ?_)
    · have n2 := rest 0 (by rw [if_neg (by omega)])
      repeat (first | exact n2 | refine go_pure hM rfl ?_ | refine go_get hM rfl hr_o rfl ?_ | refine go_ldc hM rfl ?_)
    · have n2 := rest 1 (by rw [if_pos (by omega)])
      repeat (first | exact n2 | refine go_pure hM rfl ?_ | refine go_get hM rfl hr_o rfl ?_ | refine go_ldc hM rfl ?_)
end
