/-! takeOutOfRun -/
section
variable {G : gG} {N : Option Nat} {h0 : gH} {A A' : cA} {SS SS' : Nat → mS} {F : Nat → Prop} {S S' : mS} {T T' : Nat → Int} {t m q k : Nat} {x n : Int}
theorem wy_rd (hc : CX A SS F) (ht : t < 4) (hS : SS t = S) (hw : WyTo A t S (q : Int)) (hq : q < mn S) : rF A t (md S) = ms S q ∧ rL A t (md S) = ml S q ∧ rV A t (md S) = mv S q ∧ rW A t (md S) = mw S q := by
  subst hS
  obtain ⟨hs, hr, ha, -⟩ := hc.2.1 t ht
  obtain ⟨e1, e2, e3, e4⟩ := run_at (A := A) ht hs hr ha (i := (q : Int)) ⟨by omega, by omega⟩
  rw [show ((q : Nat) : Int).toNat = q by omega] at e1 e2 e3 e4
  have f1 := fnd_rF (A := A) (t := t) (W := pW (SS t) q) (P := pP (SS t) q) (d := md (SS t))
  have f2 := fnd_rL (A := A) (t := t) (W := pW (SS t) q) (P := pP (SS t) q) (d := md (SS t))
  have f3 := fnd_rV (A := A) (t := t) (W := pW (SS t) q) (P := pP (SS t) q) (d := md (SS t))
  have f4 := fnd_rW (A := A) (t := t) (W := pW (SS t) q) (P := pP (SS t) q) (d := md (SS t))
  rw [wy_eq hw] at f1 f2 f3 f4
  exact ⟨f1.trans e1, f2.trans e2, f3.trans e3, f4.trans e4⟩
theorem cnF_mono : ∀ n, (∀ b, 1 ≤ b → b ≤ n → T b = 0 → T' b = 0) → cnF T n ≤ cnF T' n := by
  intro n
  induction n with
  | zero => intro _; exact Int.le_refl _
  | succ n ih =>
    intro h
    have h1 := ih (fun b b1 b2 => h b b1 (by omega))
    show cnF T n + (if T (n + 1) = 0 then 1 else 0) ≤ cnF T' n + (if T' (n + 1) = 0 then 1 else 0)
    by_cases e : T (n + 1) = 0
    · rw [if_pos e, if_pos (h (n + 1) (by omega) (by omega) e)]
      omega
    · rw [if_neg e]
      split <;> omega
theorem le_mono (hc : CX A SS (fun _ => False)) (hc' : CX A' SS' (fun _ => False)) (h : ∀ b, (∃ t l p, mOwn SS' b t l p) → ∃ t l p, mOwn SS b t l p) : aLe A ≤ aLe A' := by
  rw [hc.2.2.2.2.2.2, hc'.2.2.2.2.2.2]
  refine cnF_mono 255 (fun b b1 b2 e => ?_)
  rcases hc'.tn b b1 (by omega) with ⟨a1, a2⟩ | ⟨a1, a2⟩
  · rcases hc.tn b b1 (by omega) with ⟨c1, c2⟩ | ⟨c1, c2⟩
    · omega
    · exact absurd (h b a2) c2
  · exact a1
theorem Rm.own (hc : CX A SS F) (ht : t < 4) (h : Rm (SS t) t q S') (b : Nat) : (∃ t' l p, mOwn (gF SS t S') b t' l p) → ∃ t' l p, mOwn SS b t' l p := by
  rintro ⟨t', l, p, z1, z2, z3, z4⟩
  by_cases e : t' = t
  · subst e
    rw [gF_s] at z2 z3 z4
    rcases h with ⟨c, h1, rfl⟩ | ⟨h1, rfl⟩
    · obtain ⟨⟨l', p', y1, y2, y3⟩, -⟩ := (srm_own (hc.2.1 t' ht).1 (hc.inj ht) h1 b).mp ⟨l, p, z2, z3, z4⟩
      exact ⟨t', l', p', ht, y1, y2, y3⟩
    · exact absurd z2 (Nat.not_lt_zero _)
  · rw [gF_n e] at z2 z3 z4
    exact ⟨t', l, p, z1, z2, z3, z4⟩
set_option maxHeartbeats 4000000 in
theorem s_takeOutOfRun (hc : CX A SS (fun _ => False)) (hm : MX A SS) (ht : t < 4) (hS : SS t = S) (hw : WyTo A t S (q : Int)) (hq : q < mn S) (h1 : ms S q ≤ x) (h2 : 1 ≤ n) (h3 : x + n ≤ ms S q + ml S q) (hroom : ms S q < x → x + n < ms S q + ml S q → RmEn A S (q + 1)) :
    ∃ S' A', OutR SS t (aM A) q x n S' ∧ Rd G m_Tree_takeOutOfRun [vR (517 + 6 * t), vI x, vI n] N (hpx A h0) none none (hpx A' h0) ∧ CX A' (gF SS t S') (fun _ => False) ∧ MX A' (gF SS t S') ∧ aM A' = aM A ∧ ((ms S q < x ∧ x + n < ms S q + ml S q ∧ ∃ tt, EnT (gF SS t (sSet S q (ms S q) (x - ms S q) (mv S q) (mw S q))) t (aM A) (q + 1) tt (x + n) (ms S q + ml S q - x - n) (mv S q + (x - ms S q) + n) (mw S q) S' ∧ aLe A' = aLe A - tt) ∨ (¬ (ms S q < x ∧ x + n < ms S q + ml S q) ∧ aLe A ≤ aLe A')) := by
  have hM := ok_Tree_takeOutOfRun
  subst hS
  obtain ⟨hs, hr, ha, -⟩ := hc.2.1 t ht
  obtain ⟨c1, c2, c3, c4, c5, c6, c7⟩ := hr.1 q hq
  obtain ⟨d1, d2, d3, d4⟩ := wy_rd hc ht rfl hw hq
  obtain ⟨t1, t2, t3, t4⟩ := hw.tr hc ht rfl (by omega)
  have hc1 : CX (cmA A t (-n) (mw (SS t) q)) SS (fun _ => False) := hc.cnt
  have hw1 : WyTo (cmA A t (-n) (mw (SS t) q)) t (SS t) (q : Int) := wy_cnt hw
  obtain ⟨m1, m2, m3, m4, m5⟩ := cnt_mm (A := A) (t := t) (x := -n) (w := mw (SS t) q)
  have cm := c_countMapped (G := G) (N := none) (h0 := h0) (A := A) (x := -n) ht c4
  have cm : Rd G m_Tree_countMapped [vR (517 + 6 * t), vI (-n), vI (mw (SS t) q)] none (hpx A h0) none none (hpx (cmA A t (-n) (mw (SS t) q)) h0) := cm
  generalize cmA A t (-n) (mw (SS t) q) = A1 at hc1 hw1 m1 m2 m3 m4 m5 cm
  have pre : ∀ {E : gK → State → Prop}, Go G m_Tree_takeOutOfRun E 45 [some (vR (517 + 6 * t)), some (vI x), some (vI n), some (vI (mw (SS t) q)), some (vI (x - ms (SS t) q)), some (vI (ms (SS t) q + ml (SS t) q - x - n)), some (vI (mv (SS t) q)), some (vI (mv (SS t) q + (x - ms (SS t) q) + n))] [] none (hpx A1 h0) 0 0 → Go G m_Tree_takeOutOfRun E 0 [some (vR (517 + 6 * t)), some (vI x), some (vI n), none, none, none, none, none] [] N (hpx A h0) 0 0 := by
    intro E kk
    refine go_drop ?_
    repeat (first | refine go_pure hM rfl ?_ | (refine go_get (fs := ?_) (v := ?_) hM rfl ?_ ?_ ?_; rotate_left 2; assumption; rfl) | refine go_ldc hM rfl ?_)
    refine go_cV hM rfl rfl rfl (hp_tr ht) rfl (c_runIsWritten hc.1 ht t1 t2 t3 t4) rfl ?_
    rw [d4]
    repeat (first | refine go_pure hM rfl ?_ | (refine go_get (fs := ?_) (v := ?_) hM rfl ?_ ?_ ?_; rotate_left 2; assumption; rfl) | refine go_ldc hM rfl ?_)
    refine go_cV hM rfl rfl rfl (hp_tr ht) rfl (c_runFirst hc.1 ht t1 t2 t3 t4) rfl ?_
    rw [d1]
    repeat (first | refine go_pure hM rfl ?_ | (refine go_get (fs := ?_) (v := ?_) hM rfl ?_ ?_ ?_; rotate_left 2; assumption; rfl) | refine go_ldc hM rfl ?_)
    refine go_cV hM rfl rfl rfl (hp_tr ht) rfl (c_runEnd hc.1 ht t1 t2 t3 t4) rfl ?_
    rw [d1, d2]
    repeat (first | refine go_pure hM rfl ?_ | (refine go_get (fs := ?_) (v := ?_) hM rfl ?_ ?_ ?_; rotate_left 2; assumption; rfl) | refine go_ldc hM rfl ?_)
    refine go_cV hM rfl rfl rfl (hp_tr ht) rfl (c_runVolume hc.1 ht t1 t2 t3 t4) rfl ?_
    rw [d3]
    repeat (first | refine go_pure hM rfl ?_ | (refine go_get (fs := ?_) (v := ?_) hM rfl ?_ ?_ ?_; rotate_left 2; assumption; rfl) | refine go_ldc hM rfl ?_)
    refine go_cV hM rfl rfl rfl (hp_tr ht) rfl cm rfl ?_
    exact kk
  by_cases hb : ms (SS t) q = x
  · by_cases he : x + n = ms (SS t) q + ml (SS t) q
    · obtain ⟨S', A2, q1, q2, q3, q4, q5, q6⟩ := s_Rm (G := G) (N := none) (h0 := h0) hc1 ht hw1 hq
      refine ⟨S', A2, Or.inl ⟨hb.symm, he, q1⟩, ?_, q3, ?_, q6.trans m3, Or.inr ⟨by omega, le_mono hc q3 (fun b => q1.own hc ht b)⟩⟩
      · refine Rn.of rfl rfl rfl ?_
        refine pre ?_
        repeat (first | refine go_pure hM rfl ?_ | (refine go_get (fs := ?_) (v := ?_) hM rfl ?_ ?_ ?_; rotate_left 2; assumption; rfl) | refine go_ldc hM rfl ?_)
        refine go_if_ne hM rfl (by omega) (fun h => by omega) (fun _ => ?_)
        repeat (first | refine go_pure hM rfl ?_ | (refine go_get (fs := ?_) (v := ?_) hM rfl ?_ ?_ ?_; rotate_left 2; assumption; rfl) | refine go_ldc hM rfl ?_)
        refine go_if_ne hM rfl (by omega) (fun h => by omega) (fun _ => ?_)
        repeat (first | refine go_pure hM rfl ?_ | (refine go_get (fs := ?_) (v := ?_) hM rfl ?_ ?_ ?_; rotate_left 2; assumption; rfl) | refine go_ldc hM rfl ?_)
        refine go_cV hM rfl rfl rfl (hp_tr ht) rfl q2 rfl ?_
        repeat (first | refine go_pure hM rfl ?_ | (refine go_get (fs := ?_) (v := ?_) hM rfl ?_ ?_ ?_; rotate_left 2; assumption; rfl) | refine go_ldc hM rfl ?_)
        exact go_vret hM rfl rfl ⟨rfl, rfl, rfl⟩
      · obtain ⟨u3, u4⟩ := rm_sum hs q1
        have hn : n = ml (SS t) q := by omega
        refine mx_step hm (q4.trans m1) (q5.trans m2) c4 ?_ ?_
        · rw [u3]
          omega
        · rw [u4, Int.mul_neg, hn]
          omega
    · have rok : rOk (x + n) (ms (SS t) q + ml (SS t) q - x - n) (mv (SS t) q + (x - ms (SS t) q) + n) (mw (SS t) q) := ⟨by omega, by omega, by omega, c4, by omega, by omega, by omega⟩
      have hrn : mRn (sSet (SS t) q (x + n) (ms (SS t) q + ml (SS t) q - x - n) (mv (SS t) q + (x - ms (SS t) q) + n) (mw (SS t) q)) := sset_rn hr rok (fun i hi => by
        have := hr.mono (show i < q by omega) hq
        omega) (fun h => by
        have := hr.2 q h
        omega)
      obtain ⟨A2, z1, z2, z3, z4, z5, z6, z7, z8⟩ := s_Set (G := G) (N := none) (h0 := h0) hc1 ht rfl hw1 hq rok hrn
      refine ⟨_, A2, Or.inr (Or.inl ⟨hb.symm, by omega, rfl⟩), ?_, z2, ?_, z6.trans m3, Or.inr ⟨by omega, by rw [z8, m5]; exact Int.le_refl _⟩⟩
      · refine Rn.of rfl rfl rfl ?_
        refine pre ?_
        repeat (first | refine go_pure hM rfl ?_ | (refine go_get (fs := ?_) (v := ?_) hM rfl ?_ ?_ ?_; rotate_left 2; assumption; rfl) | refine go_ldc hM rfl ?_)
        refine go_if_ne hM rfl (by omega) (fun h => by omega) (fun _ => ?_)
        repeat (first | refine go_pure hM rfl ?_ | (refine go_get (fs := ?_) (v := ?_) hM rfl ?_ ?_ ?_; rotate_left 2; assumption; rfl) | refine go_ldc hM rfl ?_)
        refine go_if_ne hM rfl (by omega) (fun _ => ?_) (fun h => by omega)
        repeat (first | refine go_pure hM rfl ?_ | (refine go_get (fs := ?_) (v := ?_) hM rfl ?_ ?_ ?_; rotate_left 2; assumption; rfl) | refine go_ldc hM rfl ?_)
        refine go_if_ne hM rfl (by omega) (fun h => by omega) (fun _ => ?_)
        repeat (first | refine go_pure hM rfl ?_ | (refine go_get (fs := ?_) (v := ?_) hM rfl ?_ ?_ ?_; rotate_left 2; assumption; rfl) | refine go_ldc hM rfl ?_)
        refine go_cV hM rfl rfl rfl (hp_tr ht) rfl z1 rfl ?_
        repeat (first | refine go_pure hM rfl ?_ | (refine go_get (fs := ?_) (v := ?_) hM rfl ?_ ?_ ?_; rotate_left 2; assumption; rfl) | refine go_ldc hM rfl ?_)
        exact go_vret hM rfl rfl ⟨rfl, rfl, rfl⟩
      · obtain ⟨u1, u2⟩ := set_sum (S := SS t) (q := q) (x := x + n) (n := ms (SS t) q + ml (SS t) q - x - n) (v := mv (SS t) q + (x - ms (SS t) q) + n) (w := mw (SS t) q) hq
        refine mx_step hm (z4.trans m1) (z5.trans m2) c4 ?_ ?_
        · rw [u1]
          omega
        · rw [u2, show ms (SS t) q + ml (SS t) q - x - n = ml (SS t) q + -n by omega, Int.mul_add]
          omega
  · have rok : rOk (ms (SS t) q) (x - ms (SS t) q) (mv (SS t) q) (mw (SS t) q) := ⟨by omega, by omega, by omega, c4, by omega, by omega, by omega⟩
    have hrn : mRn (sSet (SS t) q (ms (SS t) q) (x - ms (SS t) q) (mv (SS t) q) (mw (SS t) q)) := sset_rn hr rok (fun i hi => hr.mono (show i < q by omega) hq) (fun h => by
      have := hr.2 q h
      omega)
    obtain ⟨A2, z1, z2, z3, z4, z5, z6, z7, z8⟩ := s_Set (G := G) (N := none) (h0 := h0) hc1 ht rfl hw1 hq rok hrn
    obtain ⟨g1, -, -, -⟩ := wy_rd hc1 ht rfl hw1 hq
    obtain ⟨y1, y2, y3, y4⟩ := hw1.tr hc1 ht rfl (by omega)
    obtain ⟨u1, u2⟩ := set_sum (S := SS t) (q := q) (x := ms (SS t) q) (n := x - ms (SS t) q) (v := mv (SS t) q) (w := mw (SS t) q) hq
    by_cases he : x + n = ms (SS t) q + ml (SS t) q
    · refine ⟨_, A2, Or.inr (Or.inr (Or.inl ⟨by omega, he, rfl⟩)), ?_, z2, ?_, z6.trans m3, Or.inr ⟨by omega, by rw [z8, m5]; exact Int.le_refl _⟩⟩
      · refine Rn.of rfl rfl rfl ?_
        refine pre ?_
        repeat (first | refine go_pure hM rfl ?_ | (refine go_get (fs := ?_) (v := ?_) hM rfl ?_ ?_ ?_; rotate_left 2; assumption; rfl) | refine go_ldc hM rfl ?_)
        refine go_if_ne hM rfl (by omega) (fun _ => ?_) (fun h => by omega)
        repeat (first | refine go_pure hM rfl ?_ | (refine go_get (fs := ?_) (v := ?_) hM rfl ?_ ?_ ?_; rotate_left 2; assumption; rfl) | refine go_ldc hM rfl ?_)
        refine go_if_ne hM rfl (by omega) (fun _ => ?_) (fun h => by omega)
        repeat (first | refine go_pure hM rfl ?_ | (refine go_get (fs := ?_) (v := ?_) hM rfl ?_ ?_ ?_; rotate_left 2; assumption; rfl) | refine go_ldc hM rfl ?_)
        refine go_cV hM rfl rfl rfl (hp_tr ht) rfl (c_runFirst hc1.1 ht y1 y2 y3 y4) rfl ?_
        rw [g1]
        repeat (first | refine go_pure hM rfl ?_ | (refine go_get (fs := ?_) (v := ?_) hM rfl ?_ ?_ ?_; rotate_left 2; assumption; rfl) | refine go_ldc hM rfl ?_)
        refine go_cV hM rfl rfl rfl (hp_tr ht) rfl z1 rfl ?_
        repeat (first | refine go_pure hM rfl ?_ | (refine go_get (fs := ?_) (v := ?_) hM rfl ?_ ?_ ?_; rotate_left 2; assumption; rfl) | refine go_ldc hM rfl ?_)
        refine go_if_le hM rfl (by omega) (fun _ => ?_) (fun h => by omega)
        repeat (first | refine go_pure hM rfl ?_ | (refine go_get (fs := ?_) (v := ?_) hM rfl ?_ ?_ ?_; rotate_left 2; assumption; rfl) | refine go_ldc hM rfl ?_)
        exact go_vret hM rfl rfl ⟨rfl, rfl, rfl⟩
      · refine mx_step hm (z4.trans m1) (z5.trans m2) c4 ?_ ?_
        · rw [u1]
          omega
        · rw [u2, show x - ms (SS t) q = ml (SS t) q + -n by omega, Int.mul_add]
          omega
    · have rok3 : rOk (x + n) (ms (SS t) q + ml (SS t) q - x - n) (mv (SS t) q + (x - ms (SS t) q) + n) (mw (SS t) q) := ⟨by omega, by omega, by omega, c4, by omega, by omega, by omega⟩
      have hro : RmEn A2 (gF SS t (sSet (SS t) q (ms (SS t) q) (x - ms (SS t) q) (mv (SS t) q) (mw (SS t) q)) t) (q + 1) := by
        have hh := hroom (by omega) (by omega)
        rw [gF_s]
        refine ⟨by rw [z8, m5]; exact hh.1, fun ⟨i1, i2⟩ => hh.2 ⟨i1, fun y hy => ?_⟩⟩
        have := i2 y hy
        rw [mQ_congr (S := sSet (SS t) q (ms (SS t) q) (x - ms (SS t) q) (mv (SS t) q) (mw (SS t) q)) (T := SS t) (y + 1) (fun k _ => ⟨rfl, rfl⟩), z6, m3] at this
        exact this
      have hw2 : WyTo A2 t (gF SS t (sSet (SS t) q (ms (SS t) q) (x - ms (SS t) q) (mv (SS t) q) (mw (SS t) q)) t) (((q + 1 : Nat) : Int) - 1) := by
        rw [gF_s, show ((q + 1 : Nat) : Int) - 1 = (q : Int) by omega]
        exact z3
      have hr2 : mRn (sIn (gF SS t (sSet (SS t) q (ms (SS t) q) (x - ms (SS t) q) (mv (SS t) q) (mw (SS t) q)) t) (q + 1) 0 (x + n) (ms (SS t) q + ml (SS t) q - x - n) (mv (SS t) q + (x - ms (SS t) q) + n) (mw (SS t) q)) := by
        rw [gF_s]
        refine sin_rn hrn (by show q + 1 ≤ mn (SS t); omega) rok3 (fun i hi => ?_) (fun h => ?_)
        · rw [show i = q by omega]
          show gF (ms (SS t)) q _ q + gF (ml (SS t)) q _ q ≤ _
          rw [gF_s, gF_s]
          omega
        · have h : q + 1 < mn (SS t) := h
          show _ ≤ gF (ms (SS t)) q _ (q + 1)
          rw [gF_n (by omega)]
          have := hr.2 q h
          omega
      obtain ⟨tt, S', A3, i0, i1, i2, i4, i5, i6, i7⟩ := s_En (G := G) (N := none) (h0 := h0) z2 ht hw2 (by rw [gF_s]; show q + 1 ≤ mn (SS t); omega) hro rok3 hr2
      rw [z6, m3] at i0
      rw [gF_uu] at i2
      obtain ⟨u3, u4⟩ := en_sum (by rw [gF_s]; show q + 1 ≤ mn (SS t); omega) i0
      rw [gF_s] at u3 u4
      refine ⟨S', A3, Or.inr (Or.inr (Or.inr ⟨by omega, by omega, tt, i0⟩)), ?_, i2, ?_, i6.trans (z6.trans m3), Or.inl ⟨by omega, by omega, tt, i0, by rw [i7, z8, m5]⟩⟩
      · refine Rn.of rfl rfl rfl ?_
        refine pre ?_
        repeat (first | refine go_pure hM rfl ?_ | (refine go_get (fs := ?_) (v := ?_) hM rfl ?_ ?_ ?_; rotate_left 2; assumption; rfl) | refine go_ldc hM rfl ?_)
        refine go_if_ne hM rfl (by omega) (fun _ => ?_) (fun h => by omega)
        repeat (first | refine go_pure hM rfl ?_ | (refine go_get (fs := ?_) (v := ?_) hM rfl ?_ ?_ ?_; rotate_left 2; assumption; rfl) | refine go_ldc hM rfl ?_)
        refine go_if_ne hM rfl (by omega) (fun _ => ?_) (fun h => by omega)
        repeat (first | refine go_pure hM rfl ?_ | (refine go_get (fs := ?_) (v := ?_) hM rfl ?_ ?_ ?_; rotate_left 2; assumption; rfl) | refine go_ldc hM rfl ?_)
        refine go_cV hM rfl rfl rfl (hp_tr ht) rfl (c_runFirst hc1.1 ht y1 y2 y3 y4) rfl ?_
        rw [g1]
        repeat (first | refine go_pure hM rfl ?_ | (refine go_get (fs := ?_) (v := ?_) hM rfl ?_ ?_ ?_; rotate_left 2; assumption; rfl) | refine go_ldc hM rfl ?_)
        refine go_cV hM rfl rfl rfl (hp_tr ht) rfl z1 rfl ?_
        repeat (first | refine go_pure hM rfl ?_ | (refine go_get (fs := ?_) (v := ?_) hM rfl ?_ ?_ ?_; rotate_left 2; assumption; rfl) | refine go_ldc hM rfl ?_)
        refine go_if_le hM rfl (by omega) (fun h => by omega) (fun _ => ?_)
        repeat (first | refine go_pure hM rfl ?_ | (refine go_get (fs := ?_) (v := ?_) hM rfl ?_ ?_ ?_; rotate_left 2; assumption; rfl) | refine go_ldc hM rfl ?_)
        refine go_cV hM rfl rfl rfl (hp_tr ht) rfl i1 rfl ?_
        repeat (first | refine go_pure hM rfl ?_ | (refine go_get (fs := ?_) (v := ?_) hM rfl ?_ ?_ ?_; rotate_left 2; assumption; rfl) | refine go_ldc hM rfl ?_)
        exact go_vret hM rfl rfl ⟨rfl, rfl, rfl⟩
      · refine mx_step hm (i4.trans (z4.trans m1)) (i5.trans (z5.trans m2)) c4 ?_ ?_
        · rw [u3, u1]
          omega
        · rw [u4, u2, show ms (SS t) q + ml (SS t) q - x - n = ml (SS t) q + -n + -(x - ms (SS t) q) by omega, Int.mul_add, Int.mul_add, Int.mul_neg, Int.mul_neg]
          omega
end
