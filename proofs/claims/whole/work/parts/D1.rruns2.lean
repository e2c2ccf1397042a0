/-! .. with the files' runs -/
section
variable {SS : Nat → mS} {S' : mS} {t : Nat}
theorem bg_up (hn : mn S' = mn (SS t) + 1) : ∀ g, bg (gF SS t S') g = bg SS g + if t < g then 1 else 0 := by
  intro g
  induction g with
  | zero =>
    rw [if_neg (by omega)]
    rfl
  | succ g ih =>
    show bg (gF SS t S') g + mn (gF SS t S' g) = bg SS g + mn (SS g) + _
    rw [ih]
    by_cases e : g = t
    · rw [e, gF_s, if_neg (by omega), if_pos (by omega)]
      omega
    · rw [gF_n e]
      by_cases e2 : t < g
      · rw [if_pos e2, if_pos (by omega)]
        omega
      · rw [if_neg e2, if_neg (by omega)]
        omega
theorem bg_dn (hn : mn S' + 1 = mn (SS t)) : ∀ g, bg (gF SS t S') g + (if t < g then 1 else 0) = bg SS g := by
  intro g
  induction g with
  | zero =>
    rw [if_neg (by omega)]
    rfl
  | succ g ih =>
    show bg (gF SS t S') g + mn (gF SS t S' g) + _ = bg SS g + mn (SS g)
    by_cases e : g = t
    · rw [e] at ih ⊢
      rw [gF_s, if_pos (by omega)]
      rw [if_neg (by omega)] at ih
      omega
    · rw [gF_n e]
      by_cases e2 : t < g
      · rw [if_pos e2] at ih
        rw [if_pos (by omega)]
        omega
      · rw [if_neg e2] at ih
        rw [if_neg (by omega)]
        omega
theorem bg_eq (hn : mn S' = mn (SS t)) : ∀ g, bg (gF SS t S') g = bg SS g := by
  intro g
  refine sm_congr (fun g' _ => ?_)
  show mn (gF SS t S' g') = mn (SS g')
  by_cases e : g' = t
  · rw [e, gF_s, hn]
  · rw [gF_n e]
theorem bg_le {g : Nat} (hg : g < 4) : bg SS g + mn (SS g) ≤ bg SS 4 := by
  have : bg SS (g + 1) ≤ bg SS 4 := sm_mono (by omega)
  exact this
theorem bg_mono {a b : Nat} (h : a ≤ b) : bg SS a ≤ bg SS b := sm_mono h
end
section
variable {G : gG} {N : Option Nat} {h : gH} {R : rA} {a1 a2 a3 a4 f : Nat → Int} {SS : Nat → mS} {S' : mS} {t k : Nat} {x n v w : Int}
theorem sRu_s1 : sR (sRu R a1 a2 a3 a4) 1 f = sRu R f a2 a3 a4 := by
  unfold sRu
  rw [sR_sw (i := 4) (by omega), sR_sw (i := 3) (by omega), sR_sw (i := 2) (by omega), sR_uu]
theorem sRu_s2 : sR (sRu R a1 a2 a3 a4) 2 f = sRu R a1 f a3 a4 := by
  unfold sRu
  rw [sR_sw (i := 4) (by omega), sR_sw (i := 3) (by omega), sR_uu]
theorem sRu_s3 : sR (sRu R a1 a2 a3 a4) 3 f = sRu R a1 a2 f a4 := by
  unfold sRu
  rw [sR_sw (i := 4) (by omega), sR_uu]
theorem sRu_s4 : sR (sRu R a1 a2 a3 a4) 4 f = sRu R a1 a2 a3 f := sR_uu
/-- the beginnings of the files behind one -/
def bgI (b : Nat → Int) (t g : Nat) (z : Int) : Nat → Int := fun x => if t < x ∧ x < g then b x + z else b x
theorem bgI_s {b : Nat → Int} {g : Nat} {z : Int} (hg : t < g) : gF (bgI b t g z) g (bgI b t g z g + z) = bgI b t (g + 1) z := by
  funext x
  have e1 : bgI b t g z g = b g := if_neg (by omega)
  rw [e1]
  by_cases e : x = g
  · rw [e, gF_s]
    exact (if_pos (by omega)).symm
  · rw [gF_n e]
    unfold bgI
    by_cases e2 : t < x ∧ x < g
    · rw [if_pos e2, if_pos (by omega)]
    · rw [if_neg e2, if_neg (by omega)]
theorem bgI_0 {b : Nat → Int} {z : Int} : bgI b t (t + 1) z = b := by
  funext x
  exact if_neg (by omega)
set_option maxHeartbeats 2000000 in
theorem m_insertRun0 {at9 e : Nat} (ht : t < 4) (he : zB R 4 = (e : Int)) (ha : at9 ≤ e) (he2 : e + 1 ≤ 21600) (hw : w = 0 ∨ w = 1) (h01 : ∀ i, i < e → zW R i = 0 ∨ zW R i = 1) : Rd G m_Mod_insertRun [vR 541, vI t, vI at9, vI x, vI n, vI v, vI w] N (hrx R h) none none (hrx (sR (sRu R (gF (shG (zS R) at9 (at9 + 1) (e - at9)) at9 x) (gF (shG (zL R) at9 (at9 + 1) (e - at9)) at9 n) (gF (shG (zV R) at9 (at9 + 1) (e - at9)) at9 v) (gF (shG (zW R) at9 (at9 + 1) (e - at9)) at9 w)) 0 (bgI (zB R) t 5 1)) h) := by
  refine Rn.of rfl rfl rfl ?_
  have hM := ok_Mod_insertRun
  have ta : ((at9 : Nat) : Int).toNat = at9 := by omega
  have sh := m_shift (G := G) (N := N) (h := h) (R := R) (a := at9) (b := at9 + 1) (e := e) he ha (by omega) (by omega) h01
  rw [show ((at9 + 1 : Nat) : Int) = (at9 : Int) + 1 by omega] at sh
  repeat (first | refine go_pure hM rfl ?_ | refine go_get hM rfl hr_o rfl ?_ | refine go_ldc hM rfl ?_)
  refine go_cV hM rfl rfl rfl hr_o rfl sh rfl ?_
  repeat (first | refine go_pure hM rfl ?_ | refine go_get hM rfl hr_o rfl ?_ | refine go_ldc hM rfl ?_)
  refine go_iast hM rfl hr_S (by omega) (by omega) (by omega) ?_
  rw [ta, ur_S, sRu_s1, sRu_1]
  repeat (first | refine go_pure hM rfl ?_ | refine go_get hM rfl hr_o rfl ?_ | refine go_ldc hM rfl ?_)
  refine go_iast hM rfl hr_L (by omega) (by omega) (by omega) ?_
  rw [ta, ur_L, sRu_s2, sRu_2]
  repeat (first | refine go_pure hM rfl ?_ | refine go_get hM rfl hr_o rfl ?_ | refine go_ldc hM rfl ?_)
  refine go_iast hM rfl hr_V (by omega) (by omega) (by omega) ?_
  rw [ta, ur_V, sRu_s3, sRu_3]
  repeat (first | refine go_pure hM rfl ?_ | refine go_get hM rfl hr_o rfl ?_ | refine go_ldc hM rfl ?_)
  refine go_zast hM rfl hr_W (by omega) (by omega) (by omega) hw ?_
  rw [ta, ur_W, sRu_s4, sRu_4]
  obtain ⟨R2, hR2⟩ : ∃ R2, sRu R (gF (shG (zS R) at9 (at9 + 1) (e - at9)) at9 x) (gF (shG (zL R) at9 (at9 + 1) (e - at9)) at9 n) (gF (shG (zV R) at9 (at9 + 1) (e - at9)) at9 v) (gF (shG (zW R) at9 (at9 + 1) (e - at9)) at9 w) = R2 := ⟨_, rfl⟩
  have b0 : zB R2 = zB R := by
    rw [← hR2]
    exact sRu_o (Or.inl rfl)
  rw [hR2]
  have loop : ∀ (q g : Nat) (i : Int), q + g = 5 → t < g → i = g → Go G m_Mod_insertRun (gFin G (gEq none none (hrx (sR R2 0 (bgI (zB R) t 5 1)) h)) gNo) 44 [some (vR 541), some (vI t), some (vI at9), some (vI x), some (vI n), some (vI v), some (vI w), some (vI i)] [] none (hrx (sR R2 0 (bgI (zB R) t g 1)) h) 0 0 := by
    intro q
    induction q with
    | zero =>
      intro g i e1 e2 e3
      subst e3
      have e1 : g = 5 := by omega
      subst e1
      repeat (first | refine go_pure hM rfl ?_ | refine go_get hM rfl hr_o rfl ?_ | refine go_ldc hM rfl ?_)
      refine go_icmp_ge hM rfl (by omega) (by omega) (fun _ => ?_) (fun h9 => absurd h9 (by omega))
      exact go_vret hM rfl rfl ⟨rfl, rfl, rfl⟩
    | succ q ih =>
      intro g i e1 e2 e3
      subst e3
      have nx := ih (g + 1) ((g : Int) + 1) (by omega) (by omega) (by omega)
      have rb : (sR R2 0 (bgI (zB R) t g 1)).2.2 0 = bgI (zB R) t g 1 := sR_s
      repeat (first | refine go_pure hM rfl ?_ | refine go_get hM rfl hr_o rfl ?_ | refine go_ldc hM rfl ?_)
      refine go_icmp_ge hM rfl (by omega) (by omega) (fun h9 => absurd h9 (by omega)) (fun _ => ?_)
      repeat (first | refine go_pure hM rfl ?_ | refine go_get hM rfl hr_o rfl ?_ | refine go_ldc hM rfl ?_)
      refine go_dup2 hM rfl ?_
      refine go_iald hM rfl hr_B (by omega) (by omega) (by omega) ?_
      rw [show ((g : Nat) : Int).toNat = g by omega, rb]
      repeat (first | refine go_pure hM rfl ?_ | refine go_get hM rfl hr_o rfl ?_ | refine go_ldc hM rfl ?_)
      refine go_iast hM rfl hr_B (by omega) (by omega) (by omega) ?_
      rw [show ((g : Nat) : Int).toNat = g by omega, ur_B, sR_uu, rb, bgI_s e2]
      repeat (first | exact nx | refine go_pure hM rfl ?_ | refine go_get hM rfl hr_o rfl ?_ | refine go_ldc hM rfl ?_)
  have nx := loop (4 - t) (t + 1) ((t : Int) + 1) (by omega) (by omega) (by omega)
  rw [bgI_0, ← b0] at nx
  rw [show sR R2 0 (zB R2) = R2 from by show (R2.1, R2.2.1, gF R2.2.2 0 (R2.2.2 0)) = R2; rw [gF_same]] at nx
  rw [b0] at nx
  repeat (first | exact nx | refine go_pure hM rfl ?_ | refine go_get hM rfl hr_o rfl ?_ | refine go_ldc hM rfl ?_)
set_option maxHeartbeats 2000000 in
theorem m_removeRun0 {at9 e : Nat} (ht : t < 4) (he : zB R 4 = (e : Int)) (ha : at9 + 1 ≤ e) (he2 : e ≤ 21600) (h01 : ∀ i, i < e → zW R i = 0 ∨ zW R i = 1) : Rd G m_Mod_removeRun [vR 541, vI t, vI at9] N (hrx R h) none none (hrx (sR (sRu R (shG (zS R) (at9 + 1) at9 (e - (at9 + 1))) (shG (zL R) (at9 + 1) at9 (e - (at9 + 1))) (shG (zV R) (at9 + 1) at9 (e - (at9 + 1))) (shG (zW R) (at9 + 1) at9 (e - (at9 + 1)))) 0 (bgI (zB R) t 5 (-1))) h) := by
  refine Rn.of rfl rfl rfl ?_
  have hM := ok_Mod_removeRun
  have sh := m_shift (G := G) (N := N) (h := h) (R := R) (a := at9 + 1) (b := at9) (e := e) he ha (by omega) (by omega) h01
  rw [show ((at9 + 1 : Nat) : Int) = (at9 : Int) + 1 by omega] at sh
  repeat (first | refine go_pure hM rfl ?_ | refine go_get hM rfl hr_o rfl ?_ | refine go_ldc hM rfl ?_)
  refine go_cV hM rfl rfl rfl hr_o rfl sh rfl ?_
  obtain ⟨R2, hR2⟩ : ∃ R2, sRu R (shG (zS R) (at9 + 1) at9 (e - (at9 + 1))) (shG (zL R) (at9 + 1) at9 (e - (at9 + 1))) (shG (zV R) (at9 + 1) at9 (e - (at9 + 1))) (shG (zW R) (at9 + 1) at9 (e - (at9 + 1))) = R2 := ⟨_, rfl⟩
  have b0 : zB R2 = zB R := by
    rw [← hR2]
    exact sRu_o (Or.inl rfl)
  rw [hR2]
  have loop : ∀ (q g : Nat) (i : Int), q + g = 5 → t < g → i = g → Go G m_Mod_removeRun (gFin G (gEq none none (hrx (sR R2 0 (bgI (zB R) t 5 (-1))) h)) gNo) 12 [some (vR 541), some (vI t), some (vI at9), some (vI i)] [] none (hrx (sR R2 0 (bgI (zB R) t g (-1))) h) 0 0 := by
    intro q
    induction q with
    | zero =>
      intro g i e1 e2 e3
      subst e3
      have e1 : g = 5 := by omega
      subst e1
      repeat (first | refine go_pure hM rfl ?_ | refine go_get hM rfl hr_o rfl ?_ | refine go_ldc hM rfl ?_)
      refine go_icmp_ge hM rfl (by omega) (by omega) (fun _ => ?_) (fun h9 => absurd h9 (by omega))
      exact go_vret hM rfl rfl ⟨rfl, rfl, rfl⟩
    | succ q ih =>
      intro g i e1 e2 e3
      subst e3
      have nx := ih (g + 1) ((g : Int) + 1) (by omega) (by omega) (by omega)
      have rb : (sR R2 0 (bgI (zB R) t g (-1))).2.2 0 = bgI (zB R) t g (-1) := sR_s
      repeat (first | refine go_pure hM rfl ?_ | refine go_get hM rfl hr_o rfl ?_ | refine go_ldc hM rfl ?_)
      refine go_icmp_ge hM rfl (by omega) (by omega) (fun h9 => absurd h9 (by omega)) (fun _ => ?_)
      repeat (first | refine go_pure hM rfl ?_ | refine go_get hM rfl hr_o rfl ?_ | refine go_ldc hM rfl ?_)
      refine go_dup2 hM rfl ?_
      refine go_iald hM rfl hr_B (by omega) (by omega) (by omega) ?_
      rw [show ((g : Nat) : Int).toNat = g by omega, rb]
      repeat (first | refine go_pure hM rfl ?_ | refine go_get hM rfl hr_o rfl ?_ | refine go_ldc hM rfl ?_)
      refine go_iast hM rfl hr_B (by omega) (by omega) (by omega) ?_
      rw [show ((g : Nat) : Int).toNat = g by omega, ur_B, sR_uu, rb, show bgI (zB R) t g (-1) g - 1 = bgI (zB R) t g (-1) g + -1 by omega, bgI_s e2]
      repeat (first | exact nx | refine go_pure hM rfl ?_ | refine go_get hM rfl hr_o rfl ?_ | refine go_ldc hM rfl ?_)
  have nx := loop (4 - t) (t + 1) ((t : Int) + 1) (by omega) (by omega) (by omega)
  rw [bgI_0, ← b0] at nx
  rw [show sR R2 0 (zB R2) = R2 from by show (R2.1, R2.2.1, gF R2.2.2 0 (R2.2.2 0)) = R2; rw [gF_same]] at nx
  rw [b0] at nx
  repeat (first | exact nx | refine go_pure hM rfl ?_ | refine go_get hM rfl hr_o rfl ?_ | refine go_ldc hM rfl ?_)
/-- what the arrays say after a run came in -/
theorem RR.ins (hr : RR R SS) (ht : t < 4) (hk : k ≤ mn (SS t)) (hb : bg SS 4 + 1 ≤ 21500) (hn : mn S' = mn (SS t) + 1) (hS : ∀ i, i < mn S' → ms S' i = insN (ms (SS t)) k x i ∧ ml S' i = insN (ml (SS t)) k n i ∧ mv S' i = insN (mv (SS t)) k v i ∧ mw S' i = insN (mw (SS t)) k w i) : RR (sR (sRu R (gF (shG (zS R) (bg SS t + k) (bg SS t + k + 1) (bg SS 4 - (bg SS t + k))) (bg SS t + k) x) (gF (shG (zL R) (bg SS t + k) (bg SS t + k + 1) (bg SS 4 - (bg SS t + k))) (bg SS t + k) n) (gF (shG (zV R) (bg SS t + k) (bg SS t + k + 1) (bg SS 4 - (bg SS t + k))) (bg SS t + k) v) (gF (shG (zW R) (bg SS t + k) (bg SS t + k + 1) (bg SS 4 - (bg SS t + k))) (bg SS t + k) w)) 0 (bgI (zB R) t 5 1)) (gF SS t S') := by
  obtain ⟨h1, h2, h3⟩ := hr
  have up := bg_up (SS := SS) (t := t) hn
  have bt := bg_le (SS := SS) ht
  refine ⟨by rw [up, if_pos ht]; exact hb, fun g hg => ?_, fun g hg i hi => ?_⟩
  · have e0 : ∀ R9, zB (sR R9 0 (bgI (zB R) t 5 1)) = bgI (zB R) t 5 1 := fun R9 => sR_s
    rw [e0, up]
    unfold bgI
    rw [h2 g hg]
    by_cases e : t < g
    · rw [if_pos (by omega), if_pos e]
      omega
    · rw [if_neg (by omega), if_neg e]
      omega
  · have gen : ∀ (f c : Nat → Int) (y : Int), (∀ i, i < mn (SS t) → f (bg SS t + i) = c i) → (g ≠ t → gF (shG f (bg SS t + k) (bg SS t + k + 1) (bg SS 4 - (bg SS t + k))) (bg SS t + k) y (bg (gF SS t S') g + i) = f (bg SS g + i)) ∧ (g = t → gF (shG f (bg SS t + k) (bg SS t + k + 1) (bg SS 4 - (bg SS t + k))) (bg SS t + k) y (bg (gF SS t S') g + i) = insN c k y i) := by
      intro f c y hf
      have bg9 := bg_le (SS := SS) hg
      refine ⟨fun e => ?_, fun e => ?_⟩
      · rw [gF_n e] at hi
        rw [up]
        by_cases e2 : t < g
        · have := bg_mono (SS := SS) (show t + 1 ≤ g by omega)
          have e3 : bg SS (t + 1) = bg SS t + mn (SS t) := rfl
          rw [if_pos e2, gF_n (by omega)]
          unfold shG gCp
          rw [if_pos (by omega), show bg SS t + k + (bg SS g + 1 + i - (bg SS t + k + 1)) = bg SS g + i by omega]
        · have := bg_mono (SS := SS) (show g + 1 ≤ t by omega)
          have e3 : bg SS (g + 1) = bg SS g + mn (SS g) := rfl
          rw [if_neg e2, Nat.add_zero (bg SS g), gF_n (by omega)]
          unfold shG gCp
          rw [if_neg (by omega)]
      · subst e
        rw [gF_s, hn] at hi
        rw [up, if_neg (by omega), Nat.add_zero (bg SS g)]
        rcases Nat.lt_trichotomy i k with h9 | h9 | h9
        · rw [gF_n (by omega), insN_lo h9]
          unfold shG gCp
          rw [if_neg (by omega), hf i (by omega)]
        · rw [h9, gF_s, insN_at]
        · obtain ⟨r, rfl⟩ : ∃ r, i = r + 1 := ⟨i - 1, by omega⟩
          rw [gF_n (by omega), insN_hi (by omega)]
          unfold shG gCp
          rw [if_pos (by omega), show bg SS g + k + (bg SS g + (r + 1) - (bg SS g + k + 1)) = bg SS g + r by omega, hf r (by omega)]
    have q1 : ∀ R9 b, zS (sR R9 0 b) = zS R9 := fun R9 b => sR_n (by omega)
    have q2 : ∀ R9 b, zL (sR R9 0 b) = zL R9 := fun R9 b => sR_n (by omega)
    have q3 : ∀ R9 b, zV (sR R9 0 b) = zV R9 := fun R9 b => sR_n (by omega)
    have q4 : ∀ R9 b, zW (sR R9 0 b) = zW R9 := fun R9 b => sR_n (by omega)
    rw [q1, q2, q3, q4, sRu_z1, sRu_z2, sRu_z3, sRu_z4]
    have f1 := gen (zS R) (ms (SS t)) x (fun i hi => (h3 t ht i hi).1)
    have f2 := gen (zL R) (ml (SS t)) n (fun i hi => (h3 t ht i hi).2.1)
    have f3 := gen (zV R) (mv (SS t)) v (fun i hi => (h3 t ht i hi).2.2.1)
    have f4 := gen (zW R) (mw (SS t)) w (fun i hi => (h3 t ht i hi).2.2.2)
    by_cases e : g = t
    · rw [f1.2 e, f2.2 e, f3.2 e, f4.2 e]
      subst e
      rw [gF_s] at hi ⊢
      obtain ⟨s1, s2, s3, s4⟩ := hS i hi
      exact ⟨s1.symm, s2.symm, s3.symm, s4.symm⟩
    · rw [f1.1 e, f2.1 e, f3.1 e, f4.1 e]
      rw [gF_n e] at hi ⊢
      exact h3 g hg i hi
end
