/-! the reference: enterRun, its four ways -/
section
variable {G : gG} {N : Option Nat} {h : gH} {R : rA} {SS : Nat → mS} {S' : mS} {t m k : Nat} {x n v w : Int}
/-- the reference holds these files -/
def RX (R : rA) (SS : Nat → mS) (m : Nat) : Prop := RS R SS m ∧ RR R SS
abbrev qR (R : rA) (SS' : Nat → mS) (m : Nat) (h : gH) (v : Option gV) : Option gV → Option Nat → gH → Prop := fun v' N' h' => v' = v ∧ N' = none ∧ ∃ R', RX R' SS' m ∧ R'.1 = R.1 ∧ h' = hrx R' h
theorem RR.same {R' : rA} (hr : RR R SS) (e : ∀ j, j < 5 → R'.2.2 j = R.2.2 j) : RR R' SS := by
  obtain ⟨h1, h2, h3⟩ := hr
  refine ⟨h1, fun g hg => by rw [show zB R' = zB R from e 0 (by omega)]; exact h2 g hg, fun g hg i hi => ?_⟩
  rw [show zS R' = zS R from e 1 (by omega), show zL R' = zL R from e 2 (by omega), show zV R' = zV R from e 3 (by omega), show zW R' = zW R from e 4 (by omega)]
  exact h3 g hg i hi
theorem ds_set {f f1 : Nat → Int} {y : Int} {k i : Nat} (hk : 0 < k) (h1 : f1 i = delN f k i) : gF f1 (k - 1) y i = delN (gF f (k - 1) y) k i := by
  by_cases e : i < k
  · rw [del_lo e] at h1 ⊢
    by_cases e2 : i = k - 1
    · rw [e2, gF_s, gF_s]
    · rw [gF_n e2, gF_n e2, h1]
  · rw [del_hi (by omega)] at h1 ⊢
    rw [gF_n (by omega), gF_n (by omega), h1]
set_option maxRecDepth 8000 in
set_option maxHeartbeats 4000000 in
theorem m_enterRun (hx : RX R SS m) (hg : Gd SS m) (ht : t < 4) (ho : rOk x n v w) (hf : Fr (SS t) k x n) (hP : PutR SS t m k x n v w S') : Rn G m_Mod_enterRun [vR 541, vI t, vI x, vI n, vI v, vI w] N (hrx R h) 0 0 (qR R (gF SS t S') m h none) gNo := by
  refine Rn.of rfl rfl rfl ?_
  have hM := ok_Mod_enterRun
  obtain ⟨hs, hr⟩ := hx
  have hnn := (hg.2.1 t ht).2
  have hsh := (hg.2.1 t ht).1
  have ho' := ho
  obtain ⟨o1, o2, o3, o4, o5, o6, o7⟩ := ho'
  have hk := hf.1
  have hr' := hr
  obtain ⟨r1, r2, r3⟩ := hr'
  have bt := bg_le (SS := SS) ht
  have rd : ∀ p, p < mn (SS t) → R.2.2 1 (bg SS t + p) = ms (SS t) p ∧ R.2.2 2 (bg SS t + p) = ml (SS t) p ∧ R.2.2 3 (bg SS t + p) = mv (SS t) p ∧ R.2.2 4 (bg SS t + p) = mw (SS t) p := r3 t ht
  have same : ∀ (f : Nat → Int) (j : Nat), f = gF f j (f j) := fun f j => (gF_same f j).symm
  have tt : ((t : Nat) : Int).toNat = t := by omega
  have ta : ((bg SS t + k : Nat) : Int).toNat = bg SS t + k := by omega
  have b1 : R.2.2 0 t = ((bg SS t : Nat) : Int) := r2 t (by omega)
  rcases hP with ⟨hB, hA, S1, p1, p2, p3⟩ | ⟨hB, hA, p3⟩ | ⟨hB, hA, p3⟩ | ⟨hB, hA, tt9, p3⟩
  · -- both
    have hk0 := hB.1
    have hkn := hA.1
    have ta1 : (((bg SS t + k : Nat) : Int) - 1).toNat = bg SS t + (k - 1) := by omega
    obtain ⟨d1, d2, d3, d4⟩ := rd k hkn
    obtain ⟨c1, c2, c3, c4⟩ := rd (k - 1) (by omega)
    obtain ⟨q1, q2, q3⟩ := p1.runs hsh
    refine er_pre hr hnn ht ho hf (b := 1) (st := ms (SS t) (k - 1)) (fr := mv (SS t) (k - 1)) (sz := ml (SS t) (k - 1) + n) (nx := 1) (Or.inl ⟨hB, rfl, rfl, rfl, rfl⟩) (Or.inl ⟨by rw [show ml (SS t) (k - 1) + n - n = ml (SS t) (k - 1) by omega]; exact hA, rfl⟩) ?_
    generalize hR1 : sR R 2 (gF (zL R) (bg SS t + (k - 1)) (ml (SS t) (k - 1) + n + ml (SS t) k)) = R1
    have oa : ∀ j, j ≠ 2 → R1.2.2 j = R.2.2 j := fun j j1 => by
      rw [← hR1]
      exact sR_n j1
    have m1 : R1.1 = R.1 ∧ R1.2.1 = R.2.1 := by
      rw [← hR1]
      exact ⟨rfl, rfl⟩
    have rs1 : RS R1 SS m := hs.mv (fun j hj => oa j (by omega)) m1.2 (fun g => ⟨rfl, rfl, rfl, rfl⟩)
    have rr1 : RR R1 (gF SS t (sSet (SS t) (k - 1) (ms (SS t) (k - 1)) (ml (SS t) (k - 1) + n + ml (SS t) k) (mv (SS t) (k - 1)) w)) := hr.set ht (by omega) (oa 0 (by omega)) (by
      rw [show zS R1 = zS R from oa 1 (by omega), ← c1]
      exact same _ _) (by rw [← hR1]; exact sR_s) (by
      rw [show zV R1 = zV R from oa 3 (by omega), ← c3]
      exact same _ _) (by
      rw [show zW R1 = zW R from oa 4 (by omega), ← hB.2.2.2.1, ← c4]
      exact same _ _)
    have lv := m_leave (G := G) (N := none) (h := h) rs1 hg ht p1
    have bE := bg_eq (SS := SS) (t := t) (S' := sSet (SS t) (k - 1) (ms (SS t) (k - 1)) (ml (SS t) (k - 1) + n + ml (SS t) k) (mv (SS t) (k - 1)) w) rfl
    repeat (first | refine go_pure hM rfl ?_ | refine go_get hM rfl hr_o rfl ?_ | refine go_ldc hM rfl ?_)
    refine go_if_eq hM rfl (by omega) (fun h9 => absurd h9 (by omega)) (fun _ => ?_)
    repeat (first | refine go_pure hM rfl ?_ | refine go_get hM rfl hr_o rfl ?_ | refine go_ldc hM rfl ?_)
    refine go_if_eq hM rfl (by omega) (fun h9 => absurd h9 (by omega)) (fun _ => ?_)
    repeat (first | refine go_pure hM rfl ?_ | refine go_get hM rfl hr_o rfl ?_ | refine go_ldc hM rfl ?_)
    refine go_iald hM rfl hr_L (by omega) (by omega) (by omega) ?_
    rw [ta, d2]
    repeat (first | refine go_pure hM rfl ?_ | refine go_get hM rfl hr_o rfl ?_ | refine go_ldc hM rfl ?_)
    refine go_iast hM rfl hr_L (by omega) (by omega) (by omega) ?_
    have hR1 : sR R 2 (gF (R.2.2 2) (bg SS t + (k - 1)) (ml (SS t) (k - 1) + n + ml (SS t) k)) = R1 := hR1
    rw [ta1, ur_L, hR1]
    repeat (first | refine go_pure hM rfl ?_ | refine go_get hM rfl hr_o rfl ?_ | refine go_ldc hM rfl ?_)
    refine go_if_eq hM rfl (by omega) (fun h9 => absurd h9 (by omega)) (fun _ => ?_)
    repeat (first | refine go_pure hM rfl ?_ | refine go_get hM rfl hr_o rfl ?_ | refine go_ldc hM rfl ?_)
    refine go_iald hM rfl hr_B (by omega) (by omega) (by omega) ?_
    rw [tt, oa 0 (by omega), b1]
    repeat (first | refine go_pure hM rfl ?_ | refine go_get hM rfl hr_o rfl ?_ | refine go_ldc hM rfl ?_)
    rw [show ((bg SS t + k : Nat) : Int) - ((bg SS t : Nat) : Int) = (k : Int) by omega]
    refine go_callV (mc := 0) (ms := 0) hM rfl rfl rfl hr_o rfl lv rfl (fun v9 N9 h9 hq => ?_) (fun _ _ q => q.elim)
    obtain ⟨rfl, rfl, R2, u1, u2, u3, rfl⟩ := hq
    have rr2 := rr1.same u2
    have w2 : zW R2 = zW R := (u2 4 (by omega)).trans (oa 4 (by omega))
    have b2 : zB R2 4 = ((bg SS 4 : Nat) : Int) := by
      rw [show zB R2 = zB R from (u2 0 (by omega)).trans (oa 0 (by omega))]
      exact r2 4 (Nat.le_refl _)
    have rm := m_removeRun0 (G := G) (N := none) (h := h) (R := R2) (at9 := bg SS t + k) (e := bg SS 4) ht b2 (by omega) (by omega) (fun i hi => by rw [w2]; exact hr.w01 (fun g hg9 => (hg.2.1 g hg9).2) i hi)
    have hk1 : k - 1 < mn S1 := by omega
    have del := rr2.del (k := k) (S' := S') ht (by rw [gF_s]; exact hkn) (by rw [gF_s, p3]; exact q2) (fun i hi => by
      rw [gF_s, p3]
      have hi : i < mn S1 := by
        rw [p3] at hi
        exact hi
      obtain ⟨g1, g2, g3, g4⟩ := q3 i hi
      exact ⟨ds_set (f := ms (SS t)) hk0 g1, ds_set (f := ml (SS t)) hk0 g2, ds_set (f := mv (SS t)) hk0 g3, ds_set (f := mw (SS t)) hk0 g4⟩)
    rw [bE, bE, gF_uu] at del
    repeat (first | refine go_pure hM rfl ?_ | refine go_get hM rfl hr_o rfl ?_ | refine go_ldc hM rfl ?_)
    refine go_cV hM rfl rfl rfl hr_o rfl rm rfl ?_
    repeat (first | refine go_pure hM rfl ?_ | refine go_get hM rfl hr_o rfl ?_ | refine go_ldc hM rfl ?_)
    refine go_vret hM rfl rfl ⟨rfl, rfl, _, ⟨?_, del⟩, ?_, rfl⟩
    · refine u1.mv (fun j hj => ?_) rfl (fun g => ?_)
      · rw [sR_n (by omega), sRu_o (Or.inr hj)]
      · by_cases eg : g = t
        · subst eg
          rw [gF_s, gF_s, p3]
          exact ⟨rfl, rfl, rfl, rfl⟩
        · rw [gF_n eg, gF_n eg]
          exact ⟨rfl, rfl, rfl, rfl⟩
    · show R2.1 = R.1
      rw [u3]
      exact m1.1
  · -- with the one before
    have hk0 := hB.1
    have ta1 : (((bg SS t + k : Nat) : Int) - 1).toNat = bg SS t + (k - 1) := by omega
    obtain ⟨c1, c2, c3, c4⟩ := rd (k - 1) (by omega)
    refine er_pre hr hnn ht ho hf (b := 1) (st := ms (SS t) (k - 1)) (fr := mv (SS t) (k - 1)) (sz := ml (SS t) (k - 1) + n) (nx := 0) (Or.inl ⟨hB, rfl, rfl, rfl, rfl⟩) (Or.inr ⟨by rw [show ml (SS t) (k - 1) + n - n = ml (SS t) (k - 1) by omega]; exact hA, rfl⟩) ?_
    repeat (first | refine go_pure hM rfl ?_ | refine go_get hM rfl hr_o rfl ?_ | refine go_ldc hM rfl ?_)
    refine go_if_eq hM rfl (by omega) (fun h9 => absurd h9 (by omega)) (fun _ => ?_)
    repeat (first | refine go_pure hM rfl ?_ | refine go_get hM rfl hr_o rfl ?_ | refine go_ldc hM rfl ?_)
    refine go_if_eq hM rfl (by omega) (fun _ => ?_) (fun h9 => absurd rfl h9)
    repeat (first | refine go_pure hM rfl ?_ | refine go_get hM rfl hr_o rfl ?_ | refine go_ldc hM rfl ?_)
    refine go_iast hM rfl hr_L (by omega) (by omega) (by omega) ?_
    rw [ta1, ur_L, Int.add_zero]
    repeat (first | refine go_pure hM rfl ?_ | refine go_get hM rfl hr_o rfl ?_ | refine go_ldc hM rfl ?_)
    refine go_if_eq hM rfl (by omega) (fun _ => ?_) (fun h9 => absurd rfl h9)
    refine go_vret hM rfl rfl ⟨rfl, rfl, _, ⟨?_, ?_⟩, ?_, rfl⟩
    · refine hs.mv (fun j hj => sR_n (by omega)) rfl (str_g ?_)
      rw [p3]
      exact ⟨rfl, rfl, rfl, rfl⟩
    · rw [p3]
      refine hr.set ht (by omega) (sR_n (by omega)) ?_ sR_s ?_ ?_
      · rw [← c1]
        exact (show zS (sR R 2 _) = zS R from sR_n (by omega)).trans (same _ _)
      · rw [← c3]
        exact (show zV (sR R 2 _) = zV R from sR_n (by omega)).trans (same _ _)
      · rw [← hB.2.2.2.1, ← c4]
        exact (show zW (sR R 2 _) = zW R from sR_n (by omega)).trans (same _ _)
    · rfl
  · -- with the one behind
    have hkn := hA.1
    obtain ⟨d1, d2, d3, d4⟩ := rd k hkn
    refine er_pre hr hnn ht ho hf (b := 0) (st := x) (fr := v) (sz := n) (nx := 1) (Or.inr ⟨hB, rfl, rfl, rfl, rfl⟩) (Or.inl ⟨by rw [Int.sub_self]; exact hA, rfl⟩) ?_
    repeat (first | refine go_pure hM rfl ?_ | refine go_get hM rfl hr_o rfl ?_ | refine go_ldc hM rfl ?_)
    refine go_if_eq hM rfl (by omega) (fun _ => ?_) (fun h9 => absurd rfl h9)
    repeat (first | refine go_pure hM rfl ?_ | refine go_get hM rfl hr_o rfl ?_ | refine go_ldc hM rfl ?_)
    refine go_if_eq hM rfl (by omega) (fun h9 => absurd h9 (by omega)) (fun _ => ?_)
    repeat (first | refine go_pure hM rfl ?_ | refine go_get hM rfl hr_o rfl ?_ | refine go_ldc hM rfl ?_)
    refine go_iast hM rfl hr_S (by omega) (by omega) (by omega) ?_
    rw [ta, ur_S]
    repeat (first | refine go_pure hM rfl ?_ | refine go_get hM rfl hr_o rfl ?_ | refine go_ldc hM rfl ?_)
    refine go_iast hM rfl hr_V (by omega) (by omega) (by omega) ?_
    rw [ta, ur_V, sR_n (by omega)]
    repeat (first | refine go_pure hM rfl ?_ | refine go_get hM rfl hr_o rfl ?_ | refine go_ldc hM rfl ?_)
    refine go_iald hM rfl hr_L (by omega) (by omega) (by omega) ?_
    rw [ta, sR_n (by omega), sR_n (by omega), d2]
    repeat (first | refine go_pure hM rfl ?_ | refine go_get hM rfl hr_o rfl ?_ | refine go_ldc hM rfl ?_)
    refine go_iast hM rfl hr_L (by omega) (by omega) (by omega) ?_
    rw [ta, ur_L, sR_n (by omega), sR_n (by omega)]
    repeat (first | refine go_pure hM rfl ?_ | refine go_get hM rfl hr_o rfl ?_ | refine go_ldc hM rfl ?_)
    refine go_vret hM rfl rfl ⟨rfl, rfl, _, ⟨?_, ?_⟩, ?_, rfl⟩
    · refine hs.mv (fun j hj => ?_) rfl (str_g ?_)
      · rw [sR_n (by omega), sR_n (by omega), sR_n (by omega)]
      · rw [p3]
        exact ⟨rfl, rfl, rfl, rfl⟩
    · rw [p3]
      refine hr.set ht hkn ((sR_n (by omega)).trans ((sR_n (by omega)).trans (sR_n (by omega)))) ((sR_n (by omega)).trans ((sR_n (by omega)).trans sR_s)) sR_s ((sR_n (by omega)).trans sR_s) ?_
      rw [← hA.2.2.2.1, ← d4]
      exact ((sR_n (by omega)).trans ((sR_n (by omega)).trans (sR_n (by omega)))).trans (same _ _)
    · rfl
  · -- a new run
    refine er_pre hr hnn ht ho hf (b := 0) (st := x) (fr := v) (sz := n) (nx := 0) (Or.inr ⟨hB, rfl, rfl, rfl, rfl⟩) (Or.inr ⟨by rw [Int.sub_self]; exact hA, rfl⟩) ?_
    have en := m_enter (G := G) (N := none) (h := h) hs hg ht hk p3
    repeat (first | refine go_pure hM rfl ?_ | refine go_get hM rfl hr_o rfl ?_ | refine go_ldc hM rfl ?_)
    refine go_if_eq hM rfl (by omega) (fun _ => ?_) (fun h9 => absurd rfl h9)
    repeat (first | refine go_pure hM rfl ?_ | refine go_get hM rfl hr_o rfl ?_ | refine go_ldc hM rfl ?_)
    refine go_if_eq hM rfl (by omega) (fun _ => ?_) (fun h9 => absurd rfl h9)
    repeat (first | refine go_pure hM rfl ?_ | refine go_get hM rfl hr_o rfl ?_ | refine go_ldc hM rfl ?_)
    refine go_iald hM rfl hr_B (by omega) (by omega) (by omega) ?_
    rw [tt, b1]
    repeat (first | refine go_pure hM rfl ?_ | refine go_get hM rfl hr_o rfl ?_ | refine go_ldc hM rfl ?_)
    rw [show ((bg SS t + k : Nat) : Int) - ((bg SS t : Nat) : Int) - 1 = (k : Int) - 1 by omega]
    refine go_callV (mc := 0) (ms := 0) hM rfl rfl rfl hr_o rfl en rfl (fun v9 N9 h9 hq => ?_) (fun _ _ q => q.elim)
    obtain ⟨rfl, rfl, R2, u1, u2, u3, rfl⟩ := hq
    have rr2 := hr.same u2
    have b2 : zB R2 4 = ((bg SS 4 : Nat) : Int) := rr2.2.1 4 (Nat.le_refl _)
    obtain ⟨T, z1, z2, z3, z4, z5, z6, z7, z8, z9⟩ := p3
    obtain ⟨y1, y2, y3, y4, y5⟩ := enS_run (S := SS t) (t := t) (m := m) (i := k - 1) (nb := nbT T) (tt := tt9) (j := k) (x := x) (n := n) (v := v) (w := w)
    rw [← z5] at y1 y2 y3 y4 y5
    have b5 := z9.2.2.2.2
    have up := bg_up (SS := SS) (t := t) (S' := S') y1 4
    rw [if_pos ht] at up
    have ci := m_insertRun0 (G := G) (N := none) (h := h) (R := R2) (at9 := bg SS t + k) (e := bg SS 4) (x := x) (n := n) (v := v) (w := w) ht b2 (by omega) (by omega) o4 (rr2.w01 (fun g hg9 => (hg.2.1 g hg9).2))
    have ins := rr2.ins (k := k) (S' := S') (x := x) (n := n) (v := v) (w := w) ht hk (by omega) y1 (fun i hi => by rw [y2, y3, y4, y5]; exact ⟨rfl, rfl, rfl, rfl⟩)
    repeat (first | refine go_pure hM rfl ?_ | refine go_get hM rfl hr_o rfl ?_ | refine go_ldc hM rfl ?_)
    refine go_cV hM rfl rfl rfl hr_o rfl ci rfl ?_
    refine go_vret hM rfl rfl ⟨rfl, rfl, _, ⟨?_, ins⟩, u3, rfl⟩
    refine u1.mv (fun j hj => ?_) rfl (fun g => ⟨rfl, rfl, rfl, rfl⟩)
    rw [sR_n (by omega), sRu_o (Or.inr hj)]
end
