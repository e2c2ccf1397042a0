/-! the reference: findWay -/
def sWP (R : rA) (a b : Nat → Int) : rA := (R.1, R.2.1, gF (gF R.2.2 11 a) 12 b)
section
variable {R : rA} {a b : Nat → Int}
theorem sWP_11 : (sWP R a b).2.2 11 = a := by
  show gF (gF R.2.2 11 a) 12 b 11 = a
  rw [gF_n (by omega), gF_s]
theorem sWP_12 : (sWP R a b).2.2 12 = b := gF_s (gF R.2.2 11 a) 12 b
theorem sWP_o {k : Nat} (h7 : k ≠ 11) (h8 : k ≠ 12) : (sWP R a b).2.2 k = R.2.2 k := by
  show gF (gF R.2.2 11 a) 12 b k = _
  rw [gF_n h8, gF_n h7]
theorem sWP_s11 {a' : Nat → Int} : sR (sWP R a b) 11 a' = sWP R a' b := by
  have : gF (gF (gF R.2.2 11 a) 12 b) 11 a' = gF (gF R.2.2 11 a') 12 b := by
    funext k
    by_cases e7 : k = 11
    · rw [e7, gF_s, gF_n (by omega), gF_s]
    · rw [gF_n e7]
      by_cases e8 : k = 12
      · rw [e8, gF_s, gF_s]
      · rw [gF_n e8, gF_n e8, gF_n e7, gF_n e7]
  show (R.1, R.2.1, gF (gF (gF R.2.2 11 a) 12 b) 11 a') = (R.1, R.2.1, gF (gF R.2.2 11 a') 12 b)
  rw [this]
theorem sWP_s12 {b' : Nat → Int} : sR (sWP R a b) 12 b' = sWP R a b' := by
  show (R.1, R.2.1, gF (gF (gF R.2.2 11 a) 12 b) 12 b') = (R.1, R.2.1, gF (gF R.2.2 11 a) 12 b')
  rw [gF_uu]
theorem sWP_0 : sWP R (zY R) (zP R) = R := by
  show (R.1, R.2.1, gF (gF R.2.2 11 (R.2.2 11)) 12 (R.2.2 12)) = R
  rw [gF_same, gF_same]
end
/-- the way's places -/
def fwY (R : rA) (K : Nat → Nat → Nat) (f : Nat) (Q : Nat → Nat) (n : Nat) : Nat → Int := fun l => if l < n then ((256 * l + oF K l f + Q (l + 1) : Nat) : Int) else zY R l
def fwP (R : rA) (C : Nat → Nat → Nat → Nat) (f : Nat) (Q : Nat → Nat) (n : Nat) : Nat → Int := fun l => if l < n then ((Q l - sm (C f l) (Q (l + 1)) : Nat) : Int) else zP R l
section
variable {G : gG} {N : Option Nat} {h : gH} {R : rA} {K : Nat → Nat → Nat} {B C : Nat → Nat → Nat → Nat} {f d : Nat} {Q : Nat → Nat}
theorem fwY_s {n : Nat} : gF (fwY R K f Q n) n ((256 * n + oF K n f + Q (n + 1) : Nat) : Int) = fwY R K f Q (n + 1) := by
  funext l
  unfold fwY
  by_cases e : l = n
  · rw [e, gF_s, if_pos (by omega)]
  · rw [gF_n e]
    by_cases e2 : l < n
    · rw [if_pos e2, if_pos (by omega)]
    · rw [if_neg e2, if_neg (by omega)]
theorem fwP_s {n : Nat} : gF (fwP R C f Q n) n ((Q n - sm (C f n) (Q (n + 1)) : Nat) : Int) = fwP R C f Q (n + 1) := by
  funext l
  unfold fwP
  by_cases e : l = n
  · rw [e, gF_s, if_pos (by omega)]
  · rw [gF_n e]
    by_cases e2 : l < n
    · rw [if_pos e2, if_pos (by omega)]
    · rw [if_neg e2, if_neg (by omega)]
theorem fwY_0 : fwY R K f Q 0 = zY R := by
  funext l
  exact if_neg (by omega)
theorem fwP_0 : fwP R C f Q 0 = zP R := by
  funext l
  exact if_neg (by omega)
set_option maxHeartbeats 4000000 in
theorem m_findWay (hd : RD R K B C) (hf : f < 4) (hd5 : d ≤ 5) (hD : zD R f = (d : Int)) (hQ : ∀ l, l < d → Q (l + 1) < K f l ∧ sm (C f l) (Q (l + 1)) ≤ Q l ∧ Q l < sm (C f l) (Q (l + 1)) + C f l (Q (l + 1))) (hQr : ∀ l, l ≤ d → Q l ≤ 100000) (hCr : ∀ l, l < d → ∀ p, p < K f l → C f l p ≤ 100000) : Rd G m_Mod_findWay [vR 541, vI f, vI (Q 0)] N (hrx R h) none N (hrx (sWP R (fwY R K f Q d) (gF (fwP R C f Q d) d (Q d : Int))) h) := by
  refine Rn.of rfl rfl rfl ?_
  have hM := ok_Mod_findWay
  have hb := hd.1
  have loop : ∀ (q l : Nat) (i : Int) (y5 y6 : Option gV), q + l = d → i = l → Go G m_Mod_findWay (gFin G (gEq none N (hrx (sWP R (fwY R K f Q d) (gF (fwP R C f Q d) d (Q d : Int))) h)) gNo) 5 [some (vR 541), some (vI f), some (vI (Q 0)), some (vI (Q l)), some (vI i), y5, y6] [] N (hrx (sWP R (fwY R K f Q l) (fwP R C f Q l)) h) 0 0 := by
    intro q
    induction q with
    | zero =>
      intro l i y5 y6 e1 e2
      subst e2
      have e1 : l = d := by omega
      subst e1
      repeat (first | refine go_pure hM rfl ?_ | refine go_get hM rfl hr_o rfl ?_ | refine go_ldc hM rfl ?_)
      refine go_iald hM rfl hr_D (by omega) (by omega) (by omega) ?_
      rw [show ((f : Nat) : Int).toNat = f by omega, sWP_o (by omega) (by omega)]
      have hD : R.2.2 5 f = (l : Int) := hD
      rw [hD]
      refine go_icmp_ge hM rfl (by omega) (by omega) (fun _ => ?_) (fun h9 => absurd h9 (by omega))
      repeat (first | refine go_pure hM rfl ?_ | refine go_get hM rfl hr_o rfl ?_ | refine go_ldc hM rfl ?_)
      refine go_iald hM rfl hr_D (by omega) (by omega) (by omega) ?_
      rw [show ((f : Nat) : Int).toNat = f by omega, sWP_o (by omega) (by omega), hD]
      repeat (first | refine go_pure hM rfl ?_ | refine go_get hM rfl hr_o rfl ?_ | refine go_ldc hM rfl ?_)
      refine go_iast hM rfl hr_P (by omega) (by omega) (by omega) ?_
      rw [show ((l : Nat) : Int).toNat = l by omega, ur_P, sWP_s12, sWP_12]
      exact go_vret hM rfl rfl ⟨rfl, rfl, rfl⟩
    | succ q ih =>
      intro l i y5 y6 e1 e2
      subst e2
      obtain ⟨w1, w2, w3⟩ := hQ l (by omega)
      have hl6 : l < 6 := by omega
      have b1 := hb l hl6
      have b2 := oF_le (K := K) (l := l) hf
      have r1 := hQr l (by omega)
      have lvo : lvO (sWP R (fwY R K f Q l) (fwP R C f Q l)) f l = ((256 * l + oF K l f : Nat) : Int) := by
        have : lvO (sWP R (fwY R K f Q l) (fwP R C f Q l)) f l = lvO R f l := by
          unfold lvO
          rw [show zM (sWP R (fwY R K f Q l) (fwP R C f Q l)) = zM R from sWP_o (by omega) (by omega)]
        rw [this]
        exact hd.lv (by omega) hl6
      have inner : ∀ (q2 p : Nat) (i5 i3 : Int), q2 + p = Q (l + 1) → i5 = ((256 * l + oF K l f + p : Nat) : Int) → i3 = (Q l : Int) - (sm (C f l) p : Int) → Go G m_Mod_findWay (gFin G (gEq none N (hrx (sWP R (fwY R K f Q d) (gF (fwP R C f Q d) d (Q d : Int))) h)) gNo) 29 [some (vR 541), some (vI f), some (vI (Q 0)), some (vI i3), some (vI l), some (vI i5), some (vI ((256 * l + oF K l f : Nat) : Int))] [] N (hrx (sWP R (fwY R K f Q l) (fwP R C f Q l)) h) 0 0 := by
        intro q2
        induction q2 with
        | zero =>
          intro p i5 i3 g1 g2 g3
          subst g2
          have g1 : p = Q (l + 1) := by omega
          subst g1
          have ce := (hd.2.2 f hf l hl6 _ w1).2
          have cr := hCr l (by omega) _ w1
          have ce : R.2.2 8 (256 * l + oF K l f + Q (l + 1)) = (C f l (Q (l + 1)) : Int) := ce
          repeat (first | refine go_pure hM rfl ?_ | refine go_get hM rfl hr_o rfl ?_ | refine go_ldc hM rfl ?_)
          refine go_iald hM rfl hr_E (by omega) (by omega) (by omega) ?_
          rw [show ((256 * l + oF K l f + Q (l + 1) : Nat) : Int).toNat = 256 * l + oF K l f + Q (l + 1) by omega, sWP_o (by omega) (by omega), ce]
          refine go_icmp_lt hM rfl (by omega) (by omega) (fun _ => ?_) (fun h9 => absurd h9 (by omega))
          repeat (first | refine go_pure hM rfl ?_ | refine go_get hM rfl hr_o rfl ?_ | refine go_ldc hM rfl ?_)
          refine go_iast hM rfl hr_Y (by omega) (by omega) (by omega) ?_
          rw [show ((l : Nat) : Int).toNat = l by omega, ur_Y, sWP_s11, sWP_11, fwY_s]
          repeat (first | refine go_pure hM rfl ?_ | refine go_get hM rfl hr_o rfl ?_ | refine go_ldc hM rfl ?_)
          refine go_iast hM rfl hr_P (by omega) (by omega) (by omega) ?_
          have g3 : i3 = ((Q l - sm (C f l) (Q (l + 1)) : Nat) : Int) := by omega
          rw [show ((l : Nat) : Int).toNat = l by omega, ur_P, sWP_s12, sWP_12, g3, fwP_s]
          have nx := ih (l + 1) ((l : Int) + 1) (some (vI ((256 * l + oF K l f + Q (l + 1) : Nat) : Int))) (some (vI ((256 * l + oF K l f : Nat) : Int))) (by omega) (by omega)
          rw [show (Q (l + 1) : Int) = ((256 * l + oF K l f + Q (l + 1) : Nat) : Int) - ((256 * l + oF K l f : Nat) : Int) by omega] at nx
          repeat (first | exact nx | refine go_pure hM rfl ?_ | refine go_get hM rfl hr_o rfl ?_ | refine go_ldc hM rfl ?_)
        | succ q2 ih2 =>
          intro p i5 i3 g1 g2 g3
          subst g2
          have hp : p < K f l := by omega
          have ce := (hd.2.2 f hf l hl6 p hp).2
          have cr := hCr l (by omega) p hp
          have ce : R.2.2 8 (256 * l + oF K l f + p) = (C f l p : Int) := ce
          have sm1 : sm (C f l) (p + 1) ≤ sm (C f l) (Q (l + 1)) := sm_mono (by omega)
          have sm2 : sm (C f l) (p + 1) = sm (C f l) p + C f l p := rfl
          have nx := ih2 (p + 1) (((256 * l + oF K l f + p : Nat) : Int) + 1) (i3 - (C f l p : Int)) (by omega) (by omega) (by omega)
          repeat (first | refine go_pure hM rfl ?_ | refine go_get hM rfl hr_o rfl ?_ | refine go_ldc hM rfl ?_)
          refine go_iald hM rfl hr_E (by omega) (by omega) (by omega) ?_
          rw [show ((256 * l + oF K l f + p : Nat) : Int).toNat = 256 * l + oF K l f + p by omega, sWP_o (by omega) (by omega), ce]
          refine go_icmp_lt hM rfl (by omega) (by omega) (fun h9 => absurd h9 (by omega)) (fun _ => ?_)
          repeat (first | refine go_pure hM rfl ?_ | refine go_get hM rfl hr_o rfl ?_ | refine go_ldc hM rfl ?_)
          refine go_iald hM rfl hr_E (by omega) (by omega) (by omega) ?_
          rw [show ((256 * l + oF K l f + p : Nat) : Int).toNat = 256 * l + oF K l f + p by omega, sWP_o (by omega) (by omega), ce]
          repeat (first | exact nx | refine go_pure hM rfl ?_ | refine go_get hM rfl hr_o rfl ?_ | refine go_ldc hM rfl ?_)
      have nx := inner (Q (l + 1)) 0 _ _ (by omega) rfl rfl
      have nx2 : Go G m_Mod_findWay (gFin G (gEq none N (hrx (sWP R (fwY R K f Q d) (gF (fwP R C f Q d) d (Q d : Int))) h)) gNo) 29 [some (vR 541), some (vI f), some (vI (Q 0)), some (vI (Q l)), some (vI l), some (vI ((256 * l + oF K l f : Nat) : Int)), some (vI ((256 * l + oF K l f : Nat) : Int))] [] N (hrx (sWP R (fwY R K f Q l) (fwP R C f Q l)) h) 0 0 := by
        rw [show (Q l : Int) - (sm (C f l) 0 : Int) = (Q l : Int) from Int.sub_zero _] at nx
        exact nx
      repeat (first | refine go_pure hM rfl ?_ | refine go_get hM rfl hr_o rfl ?_ | refine go_ldc hM rfl ?_)
      refine go_iald hM rfl hr_D (by omega) (by omega) (by omega) ?_
      rw [show ((f : Nat) : Int).toNat = f by omega, sWP_o (by omega) (by omega)]
      have hD : R.2.2 5 f = (d : Int) := hD
      rw [hD]
      refine go_icmp_ge hM rfl (by omega) (by omega) (fun h9 => absurd h9 (by omega)) (fun _ => ?_)
      repeat (first | refine go_pure hM rfl ?_ | refine go_get hM rfl hr_o rfl ?_ | refine go_ldc hM rfl ?_)
      refine go_cV hM rfl rfl rfl hr_o rfl (m_levelOf (f := f) (by omega) hl6) rfl ?_
      rw [lvo]
      repeat (first | exact nx2 | refine go_pure hM rfl ?_ | refine go_get hM rfl hr_o rfl ?_ | refine go_ldc hM rfl ?_)
  have nx := loop d 0 0 none none (by omega) rfl
  rw [fwY_0, fwP_0, sWP_0] at nx
  repeat (first | exact nx | refine go_pure hM rfl ?_ | refine go_get hM rfl hr_o rfl ?_ | refine go_ldc hM rfl ?_)
end
