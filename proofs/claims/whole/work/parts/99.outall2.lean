/-! takeOutAll -/
section
variable {G : gG} {N : Option Nat} {h0 : gH} {A : cA} {SS : Nat → mS} {S S' : mS} {t m q k : Nat} {x e n : Int}
/-- where a run was cut at its end, none reaches over that place -/
theorem out_no (hs : mSh (SS t) t m) (hr : mRn (SS t)) (hq : q < mn (SS t)) (h1 : ms (SS t) q ≤ x) (hn : 1 ≤ n) (he : x + n = ms (SS t) q + ml (SS t) q) (h : OutR SS t m q x n S') : ∀ p, p < mn S' → ms S' p < x + n → ms S' p + ml S' p ≤ x + n := by
  intro p hp hlt
  rcases h with ⟨e1, e2, e3⟩ | ⟨e1, e2, e3⟩ | ⟨e1, e2, e3⟩ | ⟨e1, e2, e3⟩
  · obtain ⟨r1, r2, r3⟩ := e3.runs hs
    obtain ⟨i1, i2, -⟩ := r3 p hp
    rw [i1] at hlt
    rw [i1, i2]
    by_cases h9 : p < q
    · rw [del_lo h9, del_lo h9]
      have := hr.mono h9 hq
      omega
    · rw [del_hi (by omega)] at hlt
      have := hr.mono (show q < p + 1 by omega) (by omega)
      omega
  · omega
  · subst e3
    have hp : p < mn (SS t) := hp
    have hlt : gF (ms (SS t)) q (ms (SS t) q) p < x + n := hlt
    show gF (ms (SS t)) q (ms (SS t) q) p + gF (ml (SS t)) q (x - ms (SS t) q) p ≤ x + n
    by_cases h9 : p = q
    · rw [h9, gF_s, gF_s]
      omega
    · rw [gF_n h9] at hlt
      rw [gF_n h9, gF_n h9]
      by_cases h8 : p < q
      · have := hr.mono h8 hq
        omega
      · have := hr.mono (show q < p by omega) hp
        omega
  · omega
/-- a place is in a run or in a gap -/
theorem at_or (hr : mRn S) (x : Int) : (∃ q, q < mn S ∧ ms S q ≤ x ∧ x < ms S q + ml S q ∧ lsS S x = (q : Int)) ∨ ∃ k, Fr S k x 1 := by
  obtain ⟨g1, g2, g3⟩ := lsR_spec hr x
  show (∃ q, q < mn S ∧ ms S q ≤ x ∧ x < ms S q + ml S q ∧ lsR (ms S) x (mn S) = (q : Int)) ∨ _
  generalize lsR (ms S) x (mn S) = i at *
  have hi : ∀ p, i + 1 ≤ (p : Nat) → p < mn S → x + 1 ≤ ms S p := by
    intro p p1 p2
    have h1 := g3 (by omega)
    by_cases e : p = (i + 1).toNat
    · rw [e]
      omega
    · have := hr.lt (show (i + 1).toNat < p by omega) p2
      omega
  by_cases h : 0 ≤ i
  · have h2 := g2 h
    by_cases h3 : x < ms S i.toNat + ml S i.toNat
    · exact Or.inl ⟨i.toNat, by omega, h2, h3, by omega⟩
    · refine Or.inr ⟨(i + 1).toNat, by omega, fun p hp => ?_, fun p p1 p2 => hi p (by omega) p2⟩
      by_cases e : p = i.toNat
      · rw [e]
        omega
      · have h5 := hr.mono (show p < i.toNat by omega) (by omega)
        omega
  · exact Or.inr ⟨0, by omega, fun p hp => absurd hp (Nat.not_lt_zero _), fun p p1 p2 => hi p (by omega) p2⟩
theorem out_loop (ht : t < 4) (re : 0 ≤ e ∧ e ≤ 65536) (hx : 0 ≤ x) : ∀ (r : Nat) (SS : Nat → mS) (A : cA) (a u o : Int) (y : Option gV), e - a ≤ r → 0 ≤ a → a ≤ 65536 → 0 ≤ u → u ≤ a → aM A = m → CX A SS (fun _ => False) → MX A SS → (a < e → ∀ q, q < mn (SS t) → ms (SS t) q < a → a < ms (SS t) q + ml (SS t) q → RmEn A (SS t) (q + 1)) →
    ∃ SS' o' A', TO t m e (r + 1) SS a SS' o' ∧ Go G m_Tree_takeOutAll (gFin G (gEq (some (vI (o + o'))) none (hpx A' h0)) gNo) 8 [some (vR (517 + 6 * t)), some (vI x), some (vI e), some (vI o), some (vI a), some (vI u), y] [] none (hpx A h0) 0 0 ∧ CX A' SS' (fun _ => False) ∧ MX A' SS' ∧ aM A' = m := by
  intro r
  induction r with
  | zero =>
    intro SS A a u o y h1 h2 h3 h4 h5 hM hc hm hro
    refine ⟨SS, 0, A, Or.inl ⟨by omega, rfl, rfl⟩, ?_, hc, hm, hM⟩
    rw [Int.add_zero]
    exact go_toEnd ⟨h4, by omega⟩ ⟨h2, h3⟩ re (by omega)
  | succ r ih =>
    intro SS A a u o y h1 h2 h3 h4 h5 hM hc hm hro
    by_cases hae : e ≤ a
    · refine ⟨SS, 0, A, Or.inl ⟨hae, rfl, rfl⟩, ?_, hc, hm, hM⟩
      rw [Int.add_zero]
      exact go_toEnd ⟨h4, by omega⟩ ⟨h2, h3⟩ re hae
    · obtain ⟨hs, hr, ha, -⟩ := hc.2.1 t ht
      obtain ⟨-, w2, w3, w4, w5, w6, w7, w8⟩ := s_find (G := G) (N := none) (h0 := h0) (b := a) hc ht rfl (by omega)
      have hm2 : MX (fA A t (SS t) a) SS := hm
      rcases at_or hr a with ⟨q, q1, q2, q3, q4⟩ | ⟨k, hk⟩
      · rw [q4] at w3
        have hn : ∃ n : Int, n = (if e ≤ ms (SS t) q + ml (SS t) q then e else ms (SS t) q + ml (SS t) q) - a := ⟨_, rfl⟩
        obtain ⟨n, hn⟩ := hn
        have hn1 : 1 ≤ n ∧ a + n ≤ ms (SS t) q + ml (SS t) q ∧ a + n ≤ e ∧ (a + n < e → a + n = ms (SS t) q + ml (SS t) q) := by
          split at hn <;> omega
        obtain ⟨S1, A2, i1, i2, i3, i4, i5, i6⟩ := s_takeOutOfRun (G := G) (N := none) (h0 := h0) (x := a) (n := n) w2 hm2 ht rfl w3 q1 q2 hn1.1 hn1.2.1 (fun z1 z2 => by
          have := hro (by omega) q q1 z1 q3
          unfold RmEn at this ⊢
          rw [w6, w8]
          exact this)
        rw [w6, hM] at i1
        rw [w6, hM] at i5
        obtain ⟨c1, c2, c3, -⟩ := hr.1 q q1
        obtain ⟨SS', o', A', j1, j2, j3, j4, j5⟩ := ih (gF SS t S1) A2 (a + n) (u + 1) (o + n) (some (vI n)) (by omega) (by omega) (by omega) (by omega) (by omega) i5 i3 i4 (fun z p p1 p2 p3 => by
          rw [gF_s] at p1 p2 p3
          have := out_no (m := m) (by rw [← hM]; exact hs) hr q1 q2 hn1.1 (hn1.2.2.2 z) i1 p p1 p2
          omega)
        refine ⟨SS', n + o', A', Or.inr (Or.inr ⟨by omega, q, S1, n, o', q1, q2, q3, hn, i1, i3.gd i5, j1, rfl⟩), ?_, j3, j4, j5⟩
        rw [← Int.add_assoc]
        exact go_toOut hc ht ⟨h4, by omega⟩ ⟨h2, h3⟩ re (by omega) q1 q2 q3 hn q4 i2 j2
      · have hnx : a + 1 ≤ (if k < mn (SS t) then ms (SS t) k else 65536) ∧ (if k < mn (SS t) then ms (SS t) k else 65536) ≤ 65536 := by
          split
          · rename_i h9
            have h8 := hk.2.2 k (Nat.le_refl _) h9
            have h7 := hr.1 k h9
            omega
          · omega
        obtain ⟨SS', o', A', j1, j2, j3, j4, j5⟩ := ih SS (fA A t (SS t) a) (if k < mn (SS t) then ms (SS t) k else 65536) (u + 1) o y (by omega) (by omega) (by omega) (by omega) (by omega) (w6.trans hM) w2 hm2 (fun z p p1 p2 p3 => by
          exfalso
          have hkk := hk.1
          by_cases h9 : k < mn (SS t)
          · rw [if_pos h9] at p2 p3
            rcases Nat.lt_trichotomy p k with h8 | h8 | h8
            · have := hr.mono h8 h9
              omega
            · rw [h8] at p2
              omega
            · have := hr.lt h8 p1
              omega
          · rw [if_neg h9] at p3
            have := hr.1 p p1
            omega)
        refine ⟨SS', o', A', Or.inr (Or.inl ⟨by omega, k, hk, j1⟩), ?_, j3, j4, j5⟩
        exact go_toGap hc ht ⟨h4, by omega⟩ ⟨h2, h3⟩ re (by omega) hk j2
theorem s_takeOutAll (hc : CX A SS (fun _ => False)) (hm : MX A SS) (ht : t < 4) (hx : 0 ≤ x ∧ x ≤ 65536) (re : 0 ≤ e ∧ e ≤ 65536) (hro : x < e → ∀ q, q < mn (SS t) → ms (SS t) q < x → x < ms (SS t) q + ml (SS t) q → RmEn A (SS t) (q + 1)) :
    ∃ f SS' o A', TO t (aM A) e f SS x SS' o ∧ Rd G m_Tree_takeOutAll [vR (517 + 6 * t), vI x, vI e] N (hpx A h0) (some (vI o)) none (hpx A' h0) ∧ CX A' SS' (fun _ => False) ∧ MX A' SS' ∧ aM A' = aM A := by
  obtain ⟨SS', o', A', j1, j2, j3, j4, j5⟩ := out_loop (G := G) (h0 := h0) (m := aM A) ht re hx.1 (e - x).toNat SS A x 0 0 none (by omega) hx.1 hx.2 (Int.le_refl _) hx.1 rfl hc hm hro
  refine ⟨_, SS', o', A', j1, ?_, j3, j4, j5⟩
  refine Rn.of rfl rfl rfl ?_
  have hM := ok_Tree_takeOutAll
  refine go_drop ?_
  rw [Int.zero_add] at j2
  repeat (first | exact j2 | refine go_pure hM rfl ?_ | (refine go_get (fs := ?_) (v := ?_) hM rfl ?_ ?_ ?_; rotate_left 2; assumption; rfl) | refine go_ldc hM rfl ?_)
/-- all of it in one run -/
theorem s_takeOutOne (hc : CX A SS (fun _ => False)) (hm : MX A SS) (ht : t < 4) (hS : SS t = S) (hx : 0 ≤ x ∧ x < e) (re : 0 ≤ e ∧ e ≤ 65536) (hq : q < mn S) (h1 : ms S q ≤ x) (h2 : e ≤ ms S q + ml S q) (hro : ms S q < x → e < ms S q + ml S q → RmEn A S (q + 1)) :
    ∃ S' A', OutR SS t (aM A) q x (e - x) S' ∧ TO t (aM A) e 2 SS x (gF SS t S') (e - x) ∧ Rd G m_Tree_takeOutAll [vR (517 + 6 * t), vI x, vI e] N (hpx A h0) (some (vI (e - x))) none (hpx A' h0) ∧ CX A' (gF SS t S') (fun _ => False) ∧ MX A' (gF SS t S') ∧ aM A' = aM A ∧ ((ms S q < x ∧ e < ms S q + ml S q ∧ ∃ tt, EnT (gF SS t (sSet S q (ms S q) (x - ms S q) (mv S q) (mw S q))) t (aM A) (q + 1) tt e (ms S q + ml S q - e) (mv S q + (e - ms S q)) (mw S q) S' ∧ aLe A' = aLe A - tt) ∨ (¬ (ms S q < x ∧ e < ms S q + ml S q) ∧ aLe A ≤ aLe A')) := by
  subst hS
  obtain ⟨hs, hr, ha, -⟩ := hc.2.1 t ht
  have hl : lsS (SS t) x = (q : Int) := by
    rcases at_or hr x with ⟨p, p1, p2, p3, p4⟩ | ⟨k, hk⟩
    · rcases Nat.lt_trichotomy p q with h | h | h
      · have := hr.mono h hq
        omega
      · rw [← h]
        exact p4
      · have := hr.mono h p1
        omega
    · exfalso
      by_cases h : q < k
      · have := hk.2.1 q h
        omega
      · have := hk.2.2 q (by omega) hq
        omega
  obtain ⟨-, w2, w3, w4, w5, w6, w7, w8⟩ := s_find (G := G) (N := none) (h0 := h0) (b := x) hc ht rfl (by omega)
  have hm2 : MX (fA A t (SS t) x) SS := hm
  rw [hl] at w3
  obtain ⟨S1, A2, i1, i2, i3, i4, i5, i6⟩ := s_takeOutOfRun (G := G) (N := none) (h0 := h0) (x := x) (n := e - x) w2 hm2 ht rfl w3 hq h1 (by omega) (by omega) (fun z1 z2 => by
    have := hro z1 (by omega)
    unfold RmEn at this ⊢
    rw [w6, w8]
    exact this)
  rw [w6] at i1 i5
  rw [w6, w8] at i6
  rw [show x + (e - x) = e by omega, show ms (SS t) q + ml (SS t) q - x - (e - x) = ms (SS t) q + ml (SS t) q - e by omega, show mv (SS t) q + (x - ms (SS t) q) + (e - x) = mv (SS t) q + (e - ms (SS t) q) by omega] at i6
  refine ⟨S1, A2, i1, ?_, ?_, i3, i4, i5, i6⟩
  · exact Or.inr (Or.inr ⟨hx.2, q, S1, e - x, 0, hq, h1, by omega, by rw [if_pos h2], i1, i3.gd i5, Or.inl ⟨by omega, rfl, rfl⟩, by omega⟩)
  · refine Rn.of rfl rfl rfl ?_
    have hM := ok_Tree_takeOutAll
    refine go_drop ?_
    have k2 := go_toEnd (G := G) (h0 := h0) (A := A2) (t := t) (x := x) (e := e) (o := 0 + (e - x)) (a := x + (e - x)) (u := 0 + 1) (y := some (vI (e - x))) (by omega) (by omega) re (by omega)
    have k1 := go_toOut (y := none) (u := 0) (o := 0) (x := x) hc ht (by omega) (by omega) re hx.2 hq h1 (by omega) (by rw [if_pos h2]) hl i2 k2
    rw [Int.zero_add] at k1
    repeat (first | exact k1 | refine go_pure hM rfl ?_ | (refine go_get (fs := ?_) (v := ?_) hM rfl ?_ ?_ ?_; rotate_left 2; assumption; rfl) | refine go_ldc hM rfl ?_)
end
