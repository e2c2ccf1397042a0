/-! room for the second change of write -/
section
variable {A A' : cA} {SS : Nat → mS} {S S1 : mS} {t m q k : Nat} {x n : Int}
theorem rmen_of (hs : mSh S t m) (hk : k ≤ mn S) (h1 : (md S : Int) + 1 ≤ aLe A) (h2 : ¬ (5 ≤ md S ∧ 4 ≤ mc S (md S) 0)) : RmEn A S k := by
  refine ⟨h1, fun ⟨b1, b2⟩ => h2 ⟨b1, ?_⟩⟩
  have := b2 (md S) (Nat.le_refl _)
  have p1 := (pP_b hs (i := (k : Int) - 1) (by omega) (k := 0) (by omega)).1
  rw [Nat.sub_zero, show ((k : Int) - 1).toNat = k - 1 by omega] at p1
  have hb := hs.2.1
  rw [show mQ S (k - 1) (md S + 1) = 0 by omega, if_pos rfl] at this
  omega
theorem wr_room (hc : CX A SS (fun _ => False)) (hc' : CX A' (gF SS t S1) (fun _ => False)) (hM : aM A' = aM A) (ht : t < 4) (hS : SS t = S) (hro : Ro SS t 2 3 4) (hq : q < mn S) (h1 : ms S q ≤ x) (hn : 1 ≤ n) (h3 : x + n ≤ ms S q + ml S q) (hO : OutR SS t (aM A) q x n S1)
    (hle : (ms S q < x ∧ x + n < ms S q + ml S q ∧ ∃ tt, EnT (gF SS t (sSet S q (ms S q) (x - ms S q) (mv S q) (mw S q))) t (aM A) (q + 1) tt (x + n) (ms S q + ml S q - (x + n)) (mv S q + (x + n - ms S q)) (mw S q) S1 ∧ aLe A' = aLe A - tt) ∨ (¬ (ms S q < x ∧ x + n < ms S q + ml S q) ∧ aLe A ≤ aLe A')) : ∃ k, Fr S1 k x n ∧ RmEn A' S1 k := by
  subst hS
  obtain ⟨hs, hr, ha, -⟩ := hc.2.1 t ht
  have hs1 := (hc'.2.1 t ht).1
  rw [gF_s] at hs1
  obtain ⟨g1, g2⟩ := hc.ro.mp hro
  have hm5 := hc.1.1
  rcases hle with ⟨l1, l2, tt, ⟨T, z1, z2, z3, z4, z5, -⟩, l4⟩ | ⟨l1, l2⟩
  · rw [gF_s] at z2 z3 z4 z5
    have eQ : ∀ y, mQ (sSet (SS t) q (ms (SS t) q) (x - ms (SS t) q) (mv (SS t) q) (mw (SS t) q)) (q + 1 - 1) y = mQ (SS t) q y := fun y => mQ_congr y (fun k _ => ⟨rfl, rfl⟩)
    have hs0 : mSh (sSet (SS t) q (ms (SS t) q) (x - ms (SS t) q) (mv (SS t) q) (mw (SS t) q)) t (aM A) := hs
    have hmn : mn (sSet (SS t) q (ms (SS t) q) (x - ms (SS t) q) (mv (SS t) q) (mw (SS t) q)) = mn (SS t) := rfl
    obtain ⟨r1, r2, r3, r4, r5⟩ := enS_run (S := sSet (SS t) q (ms (SS t) q) (x - ms (SS t) q) (mv (SS t) q) (mw (SS t) q)) (t := t) (m := aM A) (i := q + 1 - 1) (nb := nbT T) (tt := tt) (j := q + 1) (x := x + n) (n := ms (SS t) q + ml (SS t) q - (x + n)) (v := mv (SS t) q + (x + n - ms (SS t) q)) (w := mw (SS t) q)
    obtain ⟨y1, y2, y3, y4⟩ := enS_eq (S := sSet (SS t) q (ms (SS t) q) (x - ms (SS t) q) (mv (SS t) q) (mw (SS t) q)) (t := t) (m := aM A) (i := q + 1 - 1) (nb := nbT T) (tt := tt) (j := q + 1) (x := x + n) (n := ms (SS t) q + ml (SS t) q - (x + n)) (v := mv (SS t) q + (x + n - ms (SS t) q)) (w := mw (SS t) q) hs0 (Or.inl (by rw [hmn]; omega)) hm5 z2 z3
    rw [← z5] at r1 r2 r3 r4 r5 y1 y2 y3 y4
    have z2 : tt ≤ md (SS t) + 1 := z2
    refine ⟨q + 1, ⟨by rw [r1]; show q + 1 ≤ mn (SS t) + 1; omega, fun p hp => ?_, fun p p1 p2 => ?_⟩, ?_, ?_⟩
    · rw [r2, r3, insN_lo hp, insN_lo hp]
      show gF (ms (SS t)) q _ p + gF (ml (SS t)) q _ p ≤ x
      by_cases e : p = q
      · rw [e, gF_s, gF_s]
        omega
      · rw [gF_n e, gF_n e]
        have := hr.mono (show p < q by omega) hq
        omega
    · rw [r1] at p2
      have p2 : p < mn (SS t) + 1 := p2
      rw [r2]
      by_cases e : p = q + 1
      · rw [e, insN_at]
        exact Int.le_refl _
      · obtain ⟨p', rfl⟩ : ∃ p', p = p' + 1 := ⟨p - 1, by omega⟩
        rw [insN_hi (by omega)]
        show _ ≤ gF (ms (SS t)) q _ p'
        rw [gF_n (by omega)]
        have := hr.mono (show q < p' by omega) (by omega)
        omega
    · by_cases h9 : tt ≤ md (SS t)
      · have e : md S1 = md (SS t) := (y2 h9).1
        rw [e]
        omega
      · have e : md S1 = md (SS t) + 1 := (y4 (show tt = md (SS t) + 1 by omega)).1
        rw [e]
        omega
    · rintro ⟨b1, b2⟩
      have full : tt = md (SS t) + 1 → 4 ≤ mc (SS t) (md (SS t)) 0 := by
        intro e
        have w := z3 (md (SS t)) (by omega)
        rw [eQ, mQ_top hs hq] at w
        have w : mc (SS t) (md (SS t)) 0 = if md (SS t) = md (SS t) then 4 else aM A := w
        rw [if_pos rfl] at w
        omega
      by_cases h9 : tt ≤ md (SS t)
      · have e : md S1 = md (SS t) := (y2 h9).1
        rw [e] at b1 b2
        by_cases h8 : tt = 0
        · have w := b2 (md (SS t)) (Nat.le_refl _)
          have w2 : mc S1 (md (SS t)) = mc (SS t) (md (SS t)) := (y3 (md (SS t)) (by omega) (Nat.le_refl _)).2.2
          have top : mQ S1 (q + 1 - 1) (md (SS t) + 1) = 0 := by
            rw [← e]
            exact mQ_top hs1 (by rw [r1]; show q < mn (SS t) + 1; omega)
          rw [w2, top, if_pos rfl] at w
          exact g2 ⟨by omega, by omega⟩
        · obtain ⟨u1, u2, u3⟩ := y1 0 (by omega) (show 0 < md (SS t) by omega)
          rw [show 0 + 1 = 1 from rfl, eQ] at u3
          have u3 : mc S1 0 = incN (splN (mc (SS t) 0) (mQ (SS t) q 1) ((aM A + 1) / 2)) (cQ (sSet (SS t) q (ms (SS t) q) (x - ms (SS t) q) (mv (SS t) q) (mw (SS t) q)) (q + 1 - 1) ((aM A + 1) / 2) 0) := u3
          have w := b2 0 (Nat.zero_le _)
          rw [if_neg (by omega), hM] at w
          have hq1 : q + 1 - 1 < mn S1 := by
            rw [r1]
            show q < mn (SS t) + 1
            omega
          obtain ⟨i1, i2, i3⟩ := mQ_in hs1 hq1 (Nat.zero_le _)
          obtain ⟨o1, o2, o3⟩ := mQ_in hs hq (Nat.zero_le _)
          rw [show 0 + 1 = 1 from rfl] at i1 i2 i3 o1 o2 o3 w
          have i3 : q < sm (mc S1 0) (mQ S1 (q + 1 - 1) 1) + mc S1 0 (mQ S1 (q + 1 - 1) 1) := i3
          have i2 : sm (mc S1 0) (mQ S1 (q + 1 - 1) 1) ≤ q := i2
          have o2 : sm (mc (SS t) 0) (mQ (SS t) q 1) ≤ q := o2
          have o3 : q < sm (mc (SS t) 0) (mQ (SS t) q 1) + mc (SS t) 0 (mQ (SS t) q 1) := o3
          have fl := z3 0 (by omega)
          rw [show 0 + 1 = 1 from rfl, eQ] at fl
          have fl : mc (SS t) 0 (mQ (SS t) q 1) = if 0 = md (SS t) then 4 else aM A := fl
          rw [if_neg (by omega)] at fl
          have cq : cQ (sSet (SS t) q (ms (SS t) q) (x - ms (SS t) q) (mv (SS t) q) (mw (SS t) q)) (q + 1 - 1) ((aM A + 1) / 2) 0 = mQ (SS t) q 1 + 1 ∨ cQ (sSet (SS t) q (ms (SS t) q) (x - ms (SS t) q) (mv (SS t) q) (mw (SS t) q)) (q + 1 - 1) ((aM A + 1) / 2) 0 = mQ (SS t) q 1 := by
            unfold cQ
            rw [show 0 + 1 = 1 from rfl, eQ]
            split
            · exact Or.inl rfl
            · exact Or.inr rfl
          generalize cQ (sSet (SS t) q (ms (SS t) q) (x - ms (SS t) q) (mv (SS t) q) (mw (SS t) q)) (q + 1 - 1) ((aM A + 1) / 2) 0 = Q at u3 cq
          generalize mQ S1 (q + 1 - 1) 1 = P at i1 i2 i3 w
          generalize hp0 : mQ (SS t) q 1 = p0 at u3 cq o1 o2 o3 fl
          -- P is p0 or the one behind it
          have c1 : sm (mc S1 0) p0 = sm (mc (SS t) 0) p0 := by
            rw [u3, sm_inc_lo (by omega), sm_spl_lo (Nat.le_refl _)]
          have c2 : sm (mc S1 0) (p0 + 2) = sm (mc (SS t) 0) (p0 + 1) + 1 := by
            rw [u3, sm_inc_hi (p0 + 2) (by omega), sm_spl_hi (by omega) (p0 + 1) (by omega)]
          have c3 : sm (mc (SS t) 0) (p0 + 1) = sm (mc (SS t) 0) p0 + mc (SS t) 0 p0 := rfl
          have lo : p0 ≤ P := by
            by_cases h7 : p0 ≤ P
            · exact h7
            · have := sm_mono (f := mc S1 0) (show P + 1 ≤ p0 by omega)
              have c4 : sm (mc S1 0) (P + 1) = sm (mc S1 0) P + mc S1 0 P := rfl
              omega
          have hi : P < p0 + 2 := by
            by_cases h7 : P < p0 + 2
            · exact h7
            · have := sm_mono (f := mc S1 0) (show p0 + 2 ≤ P by omega)
              omega
          rw [u3] at w
          by_cases h6 : P = p0
          · rw [h6] at w
            by_cases h5 : p0 = Q
            · rw [← h5, inc_at, spl_at] at w
              omega
            · rw [inc_n h5, spl_at] at w
              omega
          · have h6 : P = p0 + 1 := by omega
            rw [h6] at w
            by_cases h5 : p0 + 1 = Q
            · rw [← h5, inc_at, spl_nx] at w
              omega
            · rw [inc_n h5, spl_nx] at w
              omega
      · have e : md S1 = md (SS t) + 1 := (y4 (show tt = md (SS t) + 1 by omega)).1
        exact g2 ⟨by omega, full (by omega)⟩
  · rcases hO with ⟨e1, e2, e3⟩ | ⟨e1, e2, e3⟩ | ⟨e1, e2, e3⟩ | ⟨e1, e2, -⟩
    · obtain ⟨r1, r2, r3⟩ := e3.runs hs
      have fr : Fr S1 q x n := ⟨by omega, fun p hp => by
        obtain ⟨i1, i2, -⟩ := r3 p (by omega)
        rw [i1, i2, del_lo hp, del_lo hp, e1]
        exact hr.mono hp hq, fun p p1 p2 => by
        obtain ⟨i1, -⟩ := r3 p p2
        rw [i1, del_hi p1, e2]
        exact hr.mono (by omega) (by omega)⟩
      have mm : md S1 ≤ md (SS t) ∧ (5 ≤ md S1 → md S1 = md (SS t) ∧ mc S1 (md S1) 0 ≤ mc (SS t) (md (SS t)) 0) := by
        rcases e3 with ⟨c, hC, rfl⟩ | ⟨_, rfl⟩
        · refine ⟨Nat.le_refl _, fun _ => ⟨rfl, ?_⟩⟩
          show mc (sRm (SS t) q c) (md (SS t)) 0 ≤ _
          by_cases h9 : c = md (SS t)
          · subst h9
            rw [srm_cc, mQ_top hs hq, dec_at]
            omega
          · rw [srm_ch (by have := hC.2.1; omega)]
            exact Nat.le_refl _
        · exact ⟨Nat.zero_le _, fun h => absurd h (by show ¬ 5 ≤ 0; omega)⟩
      refine ⟨q, fr, rmen_of hs1 fr.1 (by omega) (fun ⟨b1, b2⟩ => g2 ⟨?_, ?_⟩)⟩
      · have := (mm.2 b1).1
        omega
      · have := (mm.2 b1).2
        omega
    · subst e3
      have fr : Fr (sSet (SS t) q (x + n) (ms (SS t) q + ml (SS t) q - x - n) (mv (SS t) q + (x - ms (SS t) q) + n) (mw (SS t) q)) q x n := ⟨by show q ≤ mn (SS t); omega, fun p hp => by
        show gF (ms (SS t)) q _ p + gF (ml (SS t)) q _ p ≤ x
        rw [gF_n (by omega), gF_n (by omega), e1]
        exact hr.mono hp hq, fun p p1 p2 => by
        have p2 : p < mn (SS t) := p2
        show _ ≤ gF (ms (SS t)) q _ p
        by_cases e : p = q
        · rw [e, gF_s]
          exact Int.le_refl _
        · rw [gF_n e]
          have := hr.mono (show q < p by omega) p2
          omega⟩
      refine ⟨q, fr, rmen_of hs1 fr.1 ?_ (fun ⟨b1, b2⟩ => g2 ⟨?_, b2⟩)⟩
      · show ((md (SS t) : Nat) : Int) + 1 ≤ _
        omega
      · have b1 : 5 ≤ md (SS t) := b1
        omega
    · subst e3
      have fr : Fr (sSet (SS t) q (ms (SS t) q) (x - ms (SS t) q) (mv (SS t) q) (mw (SS t) q)) (q + 1) x n := ⟨by show q + 1 ≤ mn (SS t); omega, fun p hp => by
        show gF (ms (SS t)) q _ p + gF (ml (SS t)) q _ p ≤ x
        by_cases e : p = q
        · rw [e, gF_s, gF_s]
          omega
        · rw [gF_n e, gF_n e]
          have := hr.mono (show p < q by omega) hq
          omega, fun p p1 p2 => by
        have p2 : p < mn (SS t) := p2
        show _ ≤ gF (ms (SS t)) q _ p
        rw [gF_n (by omega)]
        have := hr.mono (show q < p by omega) p2
        omega⟩
      refine ⟨q + 1, fr, rmen_of hs1 fr.1 ?_ (fun ⟨b1, b2⟩ => g2 ⟨?_, b2⟩)⟩
      · show ((md (SS t) : Nat) : Int) + 1 ≤ _
        omega
      · have b1 : 5 ≤ md (SS t) := b1
        omega
    · exact absurd ⟨e1, e2⟩ l1
end
