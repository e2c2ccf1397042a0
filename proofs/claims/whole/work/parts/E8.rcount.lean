/-! the reference: count -/
section
variable {G : gG} {N : Option Nat} {h : gH} {R : rA} {SS : Nat → mS} {S : mS} {t m k : Nat} {f w c r : Int}
theorem ks_sum : ∀ n, md S ≤ n → sm (fun l => if l < md S then mK S l else 0) n = sm (mK S) (md S) := by
  intro n
  induction n with
  | zero =>
    intro h
    rw [show md S = 0 by omega]
    rfl
  | succ n ih =>
    intro h9
    show sm (fun l => if l < md S then mK S l else 0) n + (if n < md S then mK S n else 0) = _
    by_cases e : md S ≤ n
    · rw [ih e, if_neg (by omega)]
      rfl
    · have e2 : md S = n + 1 := by omega
      rw [if_pos (by omega), e2]
      show _ = sm (mK S) n + mK S n
      rw [sm_congr (g := mK S) (fun l hl => if_pos (by omega))]
set_option maxHeartbeats 4000000 in
theorem m_count (hx : RX R SS m) (hg : Gd SS m) (rf : (-2147483648 ≤ f ∧ f ≤ 2147483647)) (rw9 : (-2147483648 ≤ w ∧ w ≤ 2147483647)) (hc : (¬ ((0 ≤ f ∧ f < 4) ∧ 0 ≤ w ∧ w ≤ 5) ∧ c = 1 ∧ r = 0) ∨ (((0 ≤ f ∧ f < 4) ∧ 0 ≤ w ∧ w ≤ 5) ∧ c = 0 ∧ r = cntS (SS f.toNat) w)) : Rn G m_Mod_count [vR 541, vI f, vI w] N (hrx R h) 0 0 (qX SS m h c r) gNo := by
  refine Rn.of rfl rfl rfl ?_
  have hM := ok_Mod_count
  have bad : ¬ ((0 ≤ f ∧ f < 4) ∧ 0 ≤ w ∧ w ≤ 5) → Go G m_Mod_count (gFin G (qX SS m h c r) gNo) 19 [some (vR 541), some (vI f), some (vI w), none, none, none, none] [vR 541] none (hrx R h) 0 0 := by
    intro hno
    rcases hc with ⟨_, e1, e3⟩ | ⟨q, _⟩
    · repeat (first | refine go_pure hM rfl ?_ | refine go_get hM rfl hr_o rfl ?_ | refine go_ldc hM rfl ?_)
      refine go_put hM rfl hr_o rfl rfl ?_
      have u1 := ur_o (R := R) (h := h) (x := 1)
      rw [u1]
      repeat (first | refine go_pure hM rfl ?_ | refine go_get hM rfl hr_o rfl ?_ | refine go_ldc hM rfl ?_)
      refine go_if_eq hM rfl (by show _ ≤ (1 : Int) ∧ (1 : Int) ≤ _; omega) (fun h9 => absurd h9 (by show ¬ (1 : Int) = 0; omega)) (fun _ => ?_)
      repeat (first | refine go_pure hM rfl ?_ | refine go_get hM rfl hr_o rfl ?_ | refine go_ldc hM rfl ?_)
      exact go_iret hM rfl rfl ⟨by rw [e3], rfl, sTh R 1, hx.th 1, e1.symm, rfl⟩
    · exact absurd q hno
  refine go_drop ?_
  repeat (first | refine go_pure hM rfl ?_ | refine go_get hM rfl hr_o rfl ?_ | refine go_ldc hM rfl ?_)
  refine go_if_lt hM rfl rf (fun h9 => bad (fun q => by omega)) (fun g1 => ?_)
  repeat (first | refine go_pure hM rfl ?_ | refine go_get hM rfl hr_o rfl ?_ | refine go_ldc hM rfl ?_)
  refine go_icmp_gt hM rfl rf (by omega) (fun h9 => bad (fun q => by omega)) (fun g2 => ?_)
  repeat (first | refine go_pure hM rfl ?_ | refine go_get hM rfl hr_o rfl ?_ | refine go_ldc hM rfl ?_)
  refine go_if_lt hM rfl rw9 (fun h9 => bad (fun q => by omega)) (fun g3 => ?_)
  repeat (first | refine go_pure hM rfl ?_ | refine go_get hM rfl hr_o rfl ?_ | refine go_ldc hM rfl ?_)
  refine go_icmp_le hM rfl rw9 (by omega) (fun g4 => ?_) (fun h9 => bad (fun q => by omega))
  rcases hc with ⟨q, _⟩ | ⟨_, e1, e2⟩
  · exact absurd ⟨⟨by omega, by omega⟩, by omega, by omega⟩ q
  obtain ⟨t, rfl⟩ : ∃ t : Nat, f = t := ⟨f.toNat, by omega⟩
  have ht : t < 4 := by omega
  have e0 : ((t : Nat) : Int).toNat = t := by omega
  rw [e0] at e2
  have hnn := (hg.2.1 t ht).2
  have hsh := (hg.2.1 t ht).1
  have hd5 := hsh.1
  obtain ⟨⟨s1, s2, s3, s4, s5⟩, r1, r2, r3⟩ := id hx
  have bt := bg_le (SS := SS) ht
  have b1 : R.2.2 0 t = ((bg SS t : Nat) : Int) := r2 t (by omega)
  have b2 : R.2.2 0 (t + 1) = ((bg SS t + mn (SS t) : Nat) : Int) := r2 (t + 1) (by omega)
  have tt1 : (((t : Nat) : Int) + 1).toNat = t + 1 := by omega
  have th0 : ∀ j, (sTh R 0).2.2 j = R.2.2 j := fun j => rfl
  have rd : ∀ p, p < mn (SS t) → R.2.2 1 (bg SS t + p) = ms (SS t) p ∧ R.2.2 2 (bg SS t + p) = ml (SS t) p ∧ R.2.2 3 (bg SS t + p) = mv (SS t) p ∧ R.2.2 4 (bg SS t + p) = mw (SS t) p := r3 t ht
  have D0 : R.2.2 5 t = (md (SS t) : Int) := (s2 t ht).1
  have mm : ∀ l, l < 6 → R.2.2 9 (6 * t + l) = ((if l < md (SS t) then mK (SS t) l else 0 : Nat) : Int) := fun l hl => s3.2.1 t ht l hl
  have ans : ∀ x : Int, x = cntS (SS t) w → qX SS m h c r (some (vI x)) none (hrx (sTh R 0) h) := fun x hx9 => ⟨by rw [hx9, e2], rfl, sTh R 0, hx.th 0, e1.symm, rfl⟩
  -- the choice
  have sw : ∀ y6, Go G m_Mod_count (gFin G (qX SS m h c r) gNo) 140 [some (vR 541), some (vI t), some (vI w), some (vI (smI (ml (SS t)) (mn (SS t)))), some (vI (smI (fun i => mw (SS t) i * ml (SS t) i) (mn (SS t)))), some (vI ((sm (mK (SS t)) (md (SS t)) : Nat) : Int)), y6] [] none (hrx (sTh R 0) h) 0 0 := by
    intro y6
    repeat (first | refine go_pure hM rfl ?_ | refine go_get hM rfl hr_o rfl ?_ | refine go_ldc hM rfl ?_)
    by_cases w0 : w = 0
    · subst w0
      refine go_tswIn (tgt := 176) hM rfl (by omega) (by omega) (by omega) rfl rfl ?_
      repeat (first | refine go_pure hM rfl ?_ | refine go_get hM rfl hr_o rfl ?_ | refine go_ldc hM rfl ?_)
      refine go_cV hM rfl rfl rfl hr_o rfl (m_runs (R := sTh R 0) hx.2 ht) rfl ?_
      exact go_iret hM rfl rfl (ans _ rfl)
    by_cases w1 : w = 1
    · subst w1
      refine go_tswIn (tgt := 182) hM rfl (by omega) (by omega) (by omega) rfl rfl ?_
      repeat (first | refine go_pure hM rfl ?_ | refine go_get hM rfl hr_o rfl ?_ | refine go_ldc hM rfl ?_)
      refine go_iald hM rfl hr_D (by omega) (by omega) (by omega) ?_
      rw [e0, th0, D0]
      exact go_iret hM rfl rfl (ans _ rfl)
    by_cases w2 : w = 2
    · subst w2
      refine go_tswIn (tgt := 189) hM rfl (by omega) (by omega) (by omega) rfl rfl ?_
      repeat (first | refine go_pure hM rfl ?_ | refine go_get hM rfl hr_o rfl ?_ | refine go_ldc hM rfl ?_)
      exact go_iret hM rfl rfl (ans _ rfl)
    by_cases w3 : w = 3
    · subst w3
      refine go_tswIn (tgt := 192) hM rfl (by omega) (by omega) (by omega) rfl rfl ?_
      repeat (first | refine go_pure hM rfl ?_ | refine go_get hM rfl hr_o rfl ?_ | refine go_ldc hM rfl ?_)
      exact go_iret hM rfl rfl (ans _ rfl)
    by_cases w4 : w = 4
    · subst w4
      refine go_tswIn (tgt := 194) hM rfl (by omega) (by omega) (by omega) rfl rfl ?_
      repeat (first | refine go_pure hM rfl ?_ | refine go_get hM rfl hr_o rfl ?_ | refine go_ldc hM rfl ?_)
      exact go_iret hM rfl rfl (ans _ rfl)
    · have w5 : w = 5 := by omega
      subst w5
      refine go_tswOut (tgt := 197) hM rfl (by omega) (by omega) rfl ?_
      repeat (first | refine go_pure hM rfl ?_ | refine go_get hM rfl hr_o rfl ?_ | refine go_ldc hM rfl ?_)
      refine go_iald hM rfl hr_D (by omega) (by omega) (by omega) ?_
      rw [e0, th0, D0]
      refine go_if_ne hM rfl (by omega) (fun h9 => ?_) (fun h9 => ?_)
      · have m0 := mm 0 (by omega)
        rw [Nat.add_zero, if_pos (by omega)] at m0
        repeat (first | refine go_pure hM rfl ?_ | refine go_get hM rfl hr_o rfl ?_ | refine go_ldc hM rfl ?_)
        refine go_iald hM rfl hr_M (by omega) (by omega) (by omega) ?_
        rw [show (6 * ((t : Nat) : Int)).toNat = 6 * t by omega, th0, m0]
        refine go_iret hM rfl rfl (ans _ ?_)
        unfold cntS
        rw [if_neg (by omega), if_neg (by omega), if_neg (by omega), if_neg (by omega), if_neg (by omega), if_neg (show ¬ md (SS t) = 0 by omega)]
      · repeat (first | refine go_pure hM rfl ?_ | refine go_get hM rfl hr_o rfl ?_ | refine go_ldc hM rfl ?_)
        refine go_iret hM rfl rfl (ans _ ?_)
        unfold cntS
        rw [if_neg (by omega), if_neg (by omega), if_neg (by omega), if_neg (by omega), if_neg (by omega), if_pos (show md (SS t) = 0 by omega)]
  have l2 : ∀ (q l : Nat) (i z : Int), q + l = 6 → i = l → z = ((sm (fun l => if l < md (SS t) then mK (SS t) l else 0) l : Nat) : Int) → Go G m_Mod_count (gFin G (qX SS m h c r) gNo) 110 [some (vR 541), some (vI t), some (vI w), some (vI (smI (ml (SS t)) (mn (SS t)))), some (vI (smI (fun i => mw (SS t) i * ml (SS t) i) (mn (SS t)))), some (vI z), some (vI i)] [] none (hrx (sTh R 0) h) 0 0 := by
    intro q
    induction q with
    | zero =>
      intro l i z e3 e4 e5
      subst e4
      have e3 : l = 6 := by omega
      subst e3
      rw [ks_sum 6 (by omega)] at e5
      have n1 := sw (some (vI ((6 : Nat) : Int)))
      rw [← e5] at n1
      repeat (first | refine go_pure hM rfl ?_ | refine go_get hM rfl hr_o rfl ?_ | refine go_ldc hM rfl ?_)
      exact go_icmp_ge hM rfl (by omega) (by omega) (fun _ => n1) (fun h9 => absurd h9 (by omega))
    | succ q ih =>
      intro l i z e3 e4 e5
      subst e4
      have nx := ih (l + 1) ((l : Int) + 1) (z + ((if l < md (SS t) then mK (SS t) l else 0 : Nat) : Int)) (by omega) (by omega) (by
        show _ = ((sm (fun l => if l < md (SS t) then mK (SS t) l else 0) l + (if l < md (SS t) then mK (SS t) l else 0) : Nat) : Int)
        rw [e5]
        omega)
      repeat (first | refine go_pure hM rfl ?_ | refine go_get hM rfl hr_o rfl ?_ | refine go_ldc hM rfl ?_)
      refine go_icmp_ge hM rfl (by omega) (by omega) (fun h9 => absurd h9 (by omega)) (fun _ => ?_)
      repeat (first | refine go_pure hM rfl ?_ | refine go_get hM rfl hr_o rfl ?_ | refine go_ldc hM rfl ?_)
      refine go_iald hM rfl hr_M (by omega) (by omega) (by omega) ?_
      rw [show (6 * ((t : Nat) : Int) + (l : Int)).toNat = 6 * t + l by omega, th0, mm l (by omega)]
      repeat (first | exact nx | refine go_pure hM rfl ?_ | refine go_get hM rfl hr_o rfl ?_ | refine go_ldc hM rfl ?_)
  have l1 : ∀ (q k : Nat) (i z y : Int), q + k = mn (SS t) → i = ((bg SS t + k : Nat) : Int) → z = smI (ml (SS t)) k → y = smI (fun i => mw (SS t) i * ml (SS t) i) k → Go G m_Mod_count (gFin G (qX SS m h c r) gNo) 52 [some (vR 541), some (vI t), some (vI w), some (vI z), some (vI y), some (vI 0), some (vI i)] [] none (hrx (sTh R 0) h) 0 0 := by
    intro q
    induction q with
    | zero =>
      intro k i z y e3 e4 e5 e6
      subst e4
      have e3 : k = mn (SS t) := by omega
      subst e3
      have n1 := l2 6 0 0 0 rfl rfl rfl
      rw [← e5, ← e6] at n1
      repeat (first | refine go_pure hM rfl ?_ | refine go_get hM rfl hr_o rfl ?_ | refine go_ldc hM rfl ?_)
      refine go_iald hM rfl hr_B (by omega) (by omega) (by omega) ?_
      rw [tt1, th0, b2]
      refine go_icmp_ge hM rfl (by omega) (by omega) (fun _ => ?_) (fun h9 => absurd h9 (by omega))
      repeat (first | exact n1 | refine go_pure hM rfl ?_ | refine go_get hM rfl hr_o rfl ?_ | refine go_ldc hM rfl ?_)
    | succ q ih =>
      intro k i z y e3 e4 e5 e6
      subst e4
      obtain ⟨d1, d2, d3, d4⟩ := rd k (by omega)
      have c0 := hnn.1 k (by omega)
      have tk : ((bg SS t + k : Nat) : Int).toNat = bg SS t + k := by omega
      have nx := fun y9 h9 => ih (k + 1) (((bg SS t + k : Nat) : Int) + 1) (z + ml (SS t) k) y9 (by omega) (by omega) (by
        show _ = smI (ml (SS t)) k + ml (SS t) k
        rw [e5]) h9
      have es : smI (fun i => mw (SS t) i * ml (SS t) i) (k + 1) = smI (fun i => mw (SS t) i * ml (SS t) i) k + mw (SS t) k * ml (SS t) k := rfl
      repeat (first | refine go_pure hM rfl ?_ | refine go_get hM rfl hr_o rfl ?_ | refine go_ldc hM rfl ?_)
      refine go_iald hM rfl hr_B (by omega) (by omega) (by omega) ?_
      rw [tt1, th0, b2]
      refine go_icmp_ge hM rfl (by omega) (by omega) (fun h9 => absurd h9 (by omega)) (fun _ => ?_)
      repeat (first | refine go_pure hM rfl ?_ | refine go_get hM rfl hr_o rfl ?_ | refine go_ldc hM rfl ?_)
      refine go_iald hM rfl hr_L (by omega) (by omega) (by omega) ?_
      rw [tk, th0, d2]
      repeat (first | refine go_pure hM rfl ?_ | refine go_get hM rfl hr_o rfl ?_ | refine go_ldc hM rfl ?_)
      refine go_zald hM rfl hr_W (by omega) (by omega) (by omega) ?_
      rw [tk, th0, d4]
      refine go_if_eq hM rfl (by omega) (fun h9 => ?_) (fun h9 => ?_)
      · have n1 := nx (y + 0) (by rw [es, e6, h9, Int.zero_mul])
        repeat (first | exact n1 | refine go_pure hM rfl ?_ | refine go_get hM rfl hr_o rfl ?_ | refine go_ldc hM rfl ?_)
      · have w9 : mw (SS t) k = 1 := by omega
        have n1 := nx (y + ml (SS t) k) (by rw [es, e6, w9, Int.one_mul])
        repeat (first | refine go_pure hM rfl ?_ | refine go_get hM rfl hr_o rfl ?_ | refine go_ldc hM rfl ?_)
        refine go_iald hM rfl hr_L (by omega) (by omega) (by omega) ?_
        rw [tk, th0, d2]
        repeat (first | exact n1 | refine go_pure hM rfl ?_ | refine go_get hM rfl hr_o rfl ?_ | refine go_ldc hM rfl ?_)
  have n1 := l1 (mn (SS t)) 0 ((bg SS t : Nat) : Int) 0 0 (by omega) (by omega) rfl rfl
  repeat (first | refine go_pure hM rfl ?_ | refine go_get hM rfl hr_o rfl ?_ | refine go_ldc hM rfl ?_)
  refine go_put hM rfl hr_o rfl rfl ?_
  have u1 := ur_o (R := R) (h := h) (x := 0)
  rw [u1]
  repeat (first | refine go_pure hM rfl ?_ | refine go_get hM rfl hr_o rfl ?_ | refine go_ldc hM rfl ?_)
  refine go_if_eq hM rfl (by show _ ≤ (0 : Int) ∧ (0 : Int) ≤ _; omega) (fun _ => ?_) (fun h9 => absurd rfl h9)
  repeat (first | refine go_pure hM rfl ?_ | refine go_get hM rfl hr_o rfl ?_ | refine go_ldc hM rfl ?_)
  refine go_iald hM rfl hr_B (by omega) (by omega) (by omega) ?_
  rw [e0, th0, b1]
  repeat (first | exact n1 | refine go_pure hM rfl ?_ | refine go_get hM rfl hr_o rfl ?_ | refine go_ldc hM rfl ?_)
end
