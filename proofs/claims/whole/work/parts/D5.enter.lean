/-! the reference: enter -/
def plN (P1 : Nat → Int) (k n : Nat) : Nat → Int := fun l => if l < n then (if l = 0 ∧ k = 0 then 0 else P1 l + 1) else P1 l
theorem plN_s {P1 : Nat → Int} {k n : Nat} : gF (plN P1 k n) n (if n = 0 ∧ k = 0 then 0 else plN P1 k n n + 1) = plN P1 k (n + 1) := by
  funext l
  have e0 : plN P1 k n n = P1 n := if_neg (by omega)
  rw [e0]
  unfold plN
  by_cases e : l = n
  · rw [e, gF_s, if_pos (show n < n + 1 by omega)]
  · rw [gF_n e]
    by_cases e2 : l < n
    · rw [if_pos e2, if_pos (show l < n + 1 by omega)]
    · rw [if_neg e2, if_neg (show ¬ l < n + 1 by omega)]
theorem plN_0 {P1 : Nat → Int} {k : Nat} : plN P1 k 0 = P1 := by
  funext l
  exact if_neg (by omega)
section
variable {G : gG} {N : Option Nat} {h : gH} {R : rA} {SS : Nat → mS} {S' : mS} {t m k tt d : Nat} {x n v w : Int} {Y P1 : Nat → Int}
theorem en_place {Q9 : Option gV → Option Nat → gH → Prop} {X : String → gH → Prop} (hd : d ≤ 5) (hk : k ≤ 100000) {y5 y6 y7 : Option gV}
    (kk : Go G m_Mod_enter (gFin G Q9 X) 65 [some (vR 541), some (vI t), some (vI ((k : Int) - 1)), some (vI d), some (vI ((d : Int) + 1)), y5, y6, y7] [] N (hrx (sWP R Y (plN P1 k (d + 1))) h) 0 0) :
    ∀ (q n : Nat) (j : Int), q + n = d + 1 → j = n → Go G m_Mod_enter (gFin G Q9 X) 24 [some (vR 541), some (vI t), some (vI ((k : Int) - 1)), some (vI d), some (vI j), y5, y6, y7] [] N (hrx (sWP R Y (plN P1 k n)) h) 0 0 := by
  have hM := ok_Mod_enter
  intro q
  induction q with
  | zero =>
    intro n j e1 e2
    have e1 : n = d + 1 := by omega
    subst e1
    have e2 : j = (d : Int) + 1 := by omega
    subst e2
    repeat (first | refine go_pure hM rfl ?_ | refine go_get hM rfl hr_o rfl ?_ | refine go_ldc hM rfl ?_)
    exact go_icmp_gt hM rfl (by omega) (by omega) (fun _ => kk) (fun h9 => absurd (show (d : Int) < (d : Int) + 1 by omega) h9)
  | succ q ih =>
    intro n j e1 e2
    subst e2
    have nx := ih (n + 1) ((n : Int) + 1) (by omega) (by omega)
    have fin : ∀ z : Int, z = (if n = 0 ∧ k = 0 then 0 else plN P1 k n n + 1) → Go G m_Mod_enter (gFin G Q9 X) 58 [some (vR 541), some (vI t), some (vI ((k : Int) - 1)), some (vI d), some (vI n), y5, y6, y7] [vI z, vI n, vR 554] N (hrx (sWP R Y (plN P1 k n)) h) 0 0 := by
      intro z hz
      refine go_iast hM rfl hr_P (by omega) (by omega) (by omega) ?_
      rw [show ((n : Nat) : Int).toNat = n by omega, ur_P, sWP_s12, sWP_12, hz, plN_s]
      repeat (first | exact nx | refine go_pure hM rfl ?_ | refine go_get hM rfl hr_o rfl ?_ | refine go_ldc hM rfl ?_)
    have els : ¬ (n = 0 ∧ k = 0) → Go G m_Mod_enter (gFin G Q9 X) 49 [some (vR 541), some (vI t), some (vI ((k : Int) - 1)), some (vI d), some (vI n), y5, y6, y7] [vI n, vR 554] N (hrx (sWP R Y (plN P1 k n)) h) 0 0 := by
      intro hno
      have f9 := fin (plN P1 k n n + 1) (by rw [if_neg hno])
      repeat (first | refine go_pure hM rfl ?_ | refine go_get hM rfl hr_o rfl ?_ | refine go_ldc hM rfl ?_)
      refine go_iald hM rfl hr_P (by omega) (by omega) (by omega) ?_
      rw [show ((n : Nat) : Int).toNat = n by omega, sWP_12]
      repeat (first | exact f9 | refine go_pure hM rfl ?_ | refine go_get hM rfl hr_o rfl ?_ | refine go_ldc hM rfl ?_)
    repeat (first | refine go_pure hM rfl ?_ | refine go_get hM rfl hr_o rfl ?_ | refine go_ldc hM rfl ?_)
    refine go_icmp_gt hM rfl (by omega) (by omega) (fun h9 => absurd h9 (by omega)) (fun _ => ?_)
    repeat (first | refine go_pure hM rfl ?_ | refine go_get hM rfl hr_o rfl ?_ | refine go_ldc hM rfl ?_)
    refine go_if_ne hM rfl (by omega) (fun h9 => els (fun z => h9 (by omega))) (fun h9 => ?_)
    repeat (first | refine go_pure hM rfl ?_ | refine go_get hM rfl hr_o rfl ?_ | refine go_ldc hM rfl ?_)
    refine go_if_ge hM rfl (by omega) (fun h8 => els (fun z => by omega)) (fun h8 => ?_)
    have f9 := fin 0 (by rw [if_pos ⟨by omega, by omega⟩])
    repeat (first | exact f9 | refine go_pure hM rfl ?_ | refine go_get hM rfl hr_o rfl ?_ | refine go_ldc hM rfl ?_)
set_option maxRecDepth 8000 in
set_option maxHeartbeats 8000000 in
theorem m_enter (hs : RS R SS m) (hg : Gd SS m) (ht : t < 4) (hk : k ≤ mn (SS t)) (hE : EnT SS t m k tt x n v w S') : Rn G m_Mod_enter [vR 541, vI t, vI ((k : Int) - 1)] N (hrx R h) 0 0 (fun v N' h' => v = none ∧ N' = N ∧ ∃ R', RS R' (gF SS t S') m ∧ (∀ j, j < 5 → R'.2.2 j = R.2.2 j) ∧ R'.1 = R.1 ∧ h' = hrx R' h) gNo := by
  refine Rn.of rfl rfl rfl ?_
  have hM := ok_Mod_enter
  obtain ⟨T, e1, e2, e3, e4, e5, e6, e7, e8, e9⟩ := hE
  obtain ⟨s1, s2, s3, s4, s5⟩ := hs
  obtain ⟨hm, hsh', hu, hb4, hbg⟩ := hg
  have hsh := (hsh' t ht).1
  have hd5 := hsh.1
  have nbE : nbT T = nbT (zT R) := nbT_congr e1 s5
  have e6 : Tn (gF SS t S') (tkT (zT R) tt) := fun b h1 h2 => by
    have := (tkT_congr (e1.eq s5) tt).1 b h1 h2
    rw [← this]
    exact e6 b h1 h2
  have e7 : (tt : Int) ≤ cnF (zT R) 255 := by
    rw [← e1.cn s5]
    exact e7
  rw [nbE] at e5
  have h01 : ∀ b, 1 ≤ b → b < 256 → zT R b = 0 ∨ zT R b = 1 := fun b b1 b2 => by
    rcases s5 b b1 b2 with ⟨z, _⟩ | ⟨z, _⟩
    · exact Or.inr z
    · exact Or.inl z
  have hn9 := bg_le (SS := SS) ht
  have hKb : ∀ l, l < md (SS t) → mK (SS t) l ≤ 255 ∧ oF (KS SS) l t + mK (SS t) l ≤ 255 := by
    intro l hl
    have h1 := oF_le (K := KS SS) (l := l) ht
    have h2 := hb4 l
    have h3 : KS SS t l = mK (SS t) l := if_pos hl
    omega
  have hi : k - 1 < mn (SS t) ∨ (md (SS t) = 0 ∧ tt = 0) := by
    by_cases h1 : k - 1 < mn (SS t)
    · exact Or.inl h1
    · have h0 : mn (SS t) = 0 := by omega
      have h2 : md (SS t) = 0 := by
        by_cases h3 : 0 < md (SS t)
        · have := hsh.npos h3
          omega
        · omega
      refine Or.inr ⟨h2, ?_⟩
      by_cases h3 : tt = 0
      · exact h3
      · have h4 := e3 0 (by omega)
        rw [if_pos h2.symm] at h4
        have p1 := (pP_b hsh (i := (k : Int) - 1) (by omega) (k := md (SS t)) (Nat.le_refl _)).1
        rw [Nat.sub_self, show ((k : Int) - 1).toNat = k - 1 by omega] at p1
        have h5 := hsh.off (Nat.zero_le _) p1
        have h6 : mI (SS t) 0 = mn (SS t) := rfl
        rw [h4] at h5
        omega
  have hQ : ∀ l, l < md (SS t) → mQ (SS t) (k - 1) (l + 1) < KS SS t l ∧ sm (CS SS t l) (mQ (SS t) (k - 1) (l + 1)) ≤ mQ (SS t) (k - 1) l ∧ mQ (SS t) (k - 1) l < sm (CS SS t l) (mQ (SS t) (k - 1) (l + 1)) + CS SS t l (mQ (SS t) (k - 1) (l + 1)) := by
    intro l hl
    have h3 : KS SS t l = mK (SS t) l := if_pos hl
    rw [h3]
    exact mQ_in hsh (by omega) (by omega)
  have hQr : ∀ l, l ≤ md (SS t) → mQ (SS t) (k - 1) l ≤ 100000 := by
    intro l hl
    cases l with
    | zero =>
      show k - 1 ≤ 100000
      omega
    | succ l =>
      have h1 := (hQ l (by omega)).1
      have h3 : KS SS t l = mK (SS t) l := if_pos (by omega)
      have := (hKb l (by omega)).1
      omega
  have fw := m_findWay (G := G) (N := N) (h := h) (Q := mQ (SS t) (k - 1)) s3 ht hd5 (s2 t ht).1 hQ hQr (fun l hl p hp => by
    have h3 : KS SS t l = mK (SS t) l := if_pos hl
    have := (hsh.2.2.2.2.1 l hl p (by omega)).2.1
    show mc (SS t) l p ≤ 100000
    omega)
  have fw : Rd G m_Mod_findWay [vR 541, vI t, vI ((k - 1 : Nat) : Int)] N (hrx R h) none N (hrx (sWP R (fwY R (KS SS) t (mQ (SS t) (k - 1)) (md (SS t))) (gF (fwP R (CS SS) t (mQ (SS t) (k - 1)) (md (SS t))) (md (SS t)) (mQ (SS t) (k - 1) (md (SS t)) : Int))) h) := fw
  have D0 : R.2.2 5 t = (md (SS t) : Int) := (s2 t ht).1
  have R0 : R.2.2 6 t = (mc (SS t) (md (SS t)) 0 : Int) := (s2 t ht).2
  obtain ⟨R2, hR2⟩ : ∃ R2, sWP R (fwY R (KS SS) t (mQ (SS t) (k - 1)) (md (SS t))) (plN (gF (fwP R (CS SS) t (mQ (SS t) (k - 1)) (md (SS t))) (md (SS t)) (mQ (SS t) (k - 1) (md (SS t)) : Int)) k (md (SS t) + 1)) = R2 := ⟨_, rfl⟩
  have o2 : ∀ j, j ≠ 11 → j ≠ 12 → R2.2.2 j = R.2.2 j := fun j j1 j2 => by
    rw [← hR2]
    exact sWP_o j1 j2
  have m2 : R2.1 = R.1 ∧ R2.2.1 = (m : Int) := by
    rw [← hR2]
    exact ⟨rfl, s1⟩
  have y2 : ∀ l, l < md (SS t) → zY R2 l = ((256 * l + oF (KS SS) l t + mQ (SS t) (k - 1) (l + 1) : Nat) : Int) := by
    intro l hl
    rw [← hR2]
    refine (congrFun sWP_11 l).trans ?_
    exact if_pos hl
  have p2 : ∀ l, l < md (SS t) → zP R2 l = ((plE (SS t) k l : Nat) : Int) := by
    intro l hl
    rw [← hR2]
    refine (congrFun sWP_12 l).trans ?_
    unfold plN plE
    rw [if_pos (show l < md (SS t) + 1 by omega)]
    by_cases e : l = 0 ∧ k = 0
    · rw [if_pos e, if_pos e]
      rfl
    · rw [if_neg e, if_neg e, gF_n (by omega)]
      have : fwP R (CS SS) t (mQ (SS t) (k - 1)) (md (SS t)) l = ((mQ (SS t) (k - 1) l - sm (CS SS t l) (mQ (SS t) (k - 1) (l + 1)) : Nat) : Int) := if_pos hl
      rw [this]
      show ((mQ (SS t) (k - 1) l - sm (mc (SS t) l) (mQ (SS t) (k - 1) (l + 1)) : Nat) : Int) + 1 = _
      omega
  have rd2 : RD R2 (KS SS) (BS SS) (CS SS) := by
    refine ⟨s3.1, fun g hg l hl => ?_, fun g hg l hl p hp => ?_⟩
    · rw [show zM R2 = zM R from o2 9 (by omega) (by omega)]
      exact s3.2.1 g hg l hl
    · rw [show zN R2 = zN R from o2 7 (by omega) (by omega), show zE R2 = zE R from o2 8 (by omega) (by omega)]
      exact s3.2.2 g hg l hl p hp
  obtain ⟨a, ha⟩ : ∃ a, a = if tt ≤ md (SS t) then tt else md (SS t) := ⟨_, rfl⟩
  have ha2 : a ≤ md (SS t) ∧ a ≤ tt ∧ (a = tt ∨ (a = md (SS t) ∧ tt = md (SS t) + 1)) := by
    split at ha <;> omega
  obtain ⟨R3, hR3⟩ : ∃ R3, sTF R2 (tkT (zT R) a) (frN R2 (nbT (zT R)) a) = R3 := ⟨_, rfl⟩
  have o3 : ∀ j, j ≠ 10 → j ≠ 13 → R3.2.2 j = R2.2.2 j := fun j j1 j2 => by
    rw [← hR3]
    exact sTF_o j1 j2
  have t3 : zT R3 = tkT (zT R) a := by
    rw [← hR3]
    exact sTF_10
  have f3 : ∀ l, l < a → zF R3 l = (nbT (zT R) l : Int) := by
    intro l hl
    rw [← hR3]
    refine (congrFun sTF_13 l).trans ?_
    exact if_pos hl
  have m3 : R3.1 = R.1 ∧ R3.2.1 = (m : Int) := by
    rw [← hR3]
    exact m2
  have rd3 : RD R3 (KS SS) (BS SS) (CS SS) := by
    refine ⟨s3.1, fun g hg l hl => ?_, fun g hg l hl p hp => ?_⟩
    · rw [show zM R3 = zM R2 from o3 9 (by omega) (by omega)]
      exact rd2.2.1 g hg l hl
    · rw [show zN R3 = zN R2 from o3 7 (by omega) (by omega), show zE R3 = zE R2 from o3 8 (by omega) (by omega)]
      exact rd2.2.2 g hg l hl p hp
  -- behind the middle: the splits
  have last : ∀ (R4 : rA) (K0 : Nat → Nat → Nat) (B0 C0 : Nat → Nat → Nat → Nat), RD R4 K0 B0 C0 → (∀ l, l < a → ∀ g, K0 g l = KS SS g l) → (∀ j, 11 ≤ j → R4.2.2 j = R3.2.2 j) → (∀ j, j < 5 → R4.2.2 j = R3.2.2 j) → R4.1 = R.1 → R4.2.1 = (m : Int) → (∀ g l, KS (gF SS t S') g l = eK K0 t a 0 g l) → (∀ g l p, p < eK K0 t a 0 g l → BS (gF SS t S') g l p = eB B0 t a 0 (fun l => mQ (SS t) (k - 1) (l + 1)) (nbT (zT R)) g l p ∧ CS (gF SS t S') g l p = eC C0 t a 0 (fun l => mQ (SS t) (k - 1) (l + 1)) (fun l => (m + 1) / 2 + if plE (SS t) k l ≤ (m + 1) / 2 then 1 else 0) (fun l => m - (m + 1) / 2 + if plE (SS t) k l ≤ (m + 1) / 2 then 0 else 1) g l p) → (∀ g, g < 4 → zD R4 g = (md (gF SS t S' g) : Int) ∧ zR R4 g = (mc (gF SS t S' g) (md (gF SS t S' g)) 0 : Int)) → zT R4 = tkT (zT R) tt → ∀ y5 y6 y7, Go G m_Mod_enter (gFin G (fun v N' h' => v = none ∧ N' = N ∧ ∃ R', RS R' (gF SS t S') m ∧ (∀ j, j < 5 → R'.2.2 j = R.2.2 j) ∧ R'.1 = R.1 ∧ h' = hrx R' h) gNo) 191 [some (vR 541), some (vI t), some (vI ((k : Int) - 1)), some (vI (md (SS t))), some (vI a), y5, y6, y7] [] N (hrx R4 h) 0 0 := by
    intro R4 K0 B0 C0 r4 k0 q11 q5 q1 q2 fK fB fD fT y5 y6 y7
    have oo : ∀ l, l < a → oF K0 l t = oF (KS SS) l t := fun l hl => oF_congr (fun g _ => k0 l hl g)
    have sp := en_split (G := G) (N := N) (h := h) (K := K0) (B := B0) (C := C0) (t := t) (a := a) (m := m) (P := fun l => mQ (SS t) (k - 1) (l + 1)) (nb := nbT (zT R)) (pl := plE (SS t) k) (i := (k : Int) - 1) (d := (md (SS t) : Int)) (Rs := R4) (X := gNo) (Q9 := fun v N' h' => v = none ∧ N' = N ∧ ∃ R', RS R' (gF SS t S') m ∧ (∀ j, j < 5 → R'.2.2 j = R.2.2 j) ∧ R'.1 = R.1 ∧ h' = hrx R' h) ht (by omega) hm q2 (fun l hl => by
        rw [k0 l hl t]
        exact (hQ l (by omega)).1) (fun l hl => by
        rw [oo l hl, show zY R4 = zY R2 from (q11 11 (by omega)).trans (o3 11 (by omega) (by omega))]
        exact y2 l (by omega)) (fun l hl => ⟨by
        rw [show zP R4 = zP R2 from (q11 12 (by omega)).trans (o3 12 (by omega) (by omega))]
        exact p2 l (by omega), by
        unfold plE
        have := hQr l (by omega)
        have hh := (hQ l (by omega)).1
        split
        · omega
        · have q9 := hQr (l + 1) (by omega)
          by_cases l0 : l = 0
          · have : mQ (SS t) (k - 1) l ≤ 21500 := by
              rw [l0]
              show k - 1 ≤ 21500
              omega
            omega
          · obtain ⟨l', rfl⟩ : ∃ l', l = l' + 1 := ⟨l - 1, by omega⟩
            have h1 := (hQ l' (by omega)).1
            have h3 : KS SS t l' = mK (SS t) l' := if_pos (by omega)
            have := (hKb l' (by omega)).1
            omega⟩) (fun l hl => by
        rw [show zF R4 = zF R3 from q11 13 (by omega)]
        exact f3 l hl) (fun l hl => by
        rw [← oF_congr (K := KS (gF SS t S')) (fun g _ => fK g l)]
        exact e9.2.2.2.1 l) a R4 ((a : Int) - 1) y6 y7 (Nat.le_refl _) rfl (r4.congr (fun g hg l hl => if_neg (by omega)) (fun g hg l hl p hp => by
          have b9 : eB B0 t a a (fun l => mQ (SS t) (k - 1) (l + 1)) (nbT (zT R)) g l = B0 g l := if_neg (by omega)
          have c9 : eC C0 t a a (fun l => mQ (SS t) (k - 1) (l + 1)) (fun l => (m + 1) / 2 + if plE (SS t) k l ≤ (m + 1) / 2 then 1 else 0) (fun l => m - (m + 1) / 2 + if plE (SS t) k l ≤ (m + 1) / 2 then 0 else 1) g l = C0 g l := if_neg (by omega)
          rw [b9, c9]
          exact ⟨rfl, rfl⟩)) ⟨rfl, rfl, fun j _ _ _ => rfl⟩ (fun R' rR sR9 => by
          obtain ⟨u1, u2, u3⟩ := sR9
          refine ⟨rfl, rfl, R', ⟨u2.trans q2, fun g hg => ?_, rR.congr (fun g hg l hl => fK g l) (fun g hg l hl p hp => fB g l p hp), ?_, ?_⟩, fun j hj => ?_, u1.trans q1, rfl⟩
          · rw [show zD R' = zD R4 from u3 5 (by omega) (by omega) (by omega), show zR R' = zR R4 from u3 6 (by omega) (by omega) (by omega)]
            exact fD g hg
          · rw [show zT R' = zT R4 from u3 10 (by omega) (by omega) (by omega), fT]
            exact (tk_ok s4 h01 tt e7).1.1
          · rw [show zT R' = zT R4 from u3 10 (by omega) (by omega) (by omega), fT]
            exact e6
          · rw [u3 j (by omega) (by omega) (by omega), q5 j hj, o3 j (by omega) (by omega), o2 j (by omega) (by omega)])
    repeat (first | exact sp | refine go_pure hM rfl ?_ | refine go_get hM rfl hr_o rfl ?_ | refine go_ldc hM rfl ?_)
  have mid : ∀ y5 y6 y7, Go G m_Mod_enter (gFin G (fun v N' h' => v = none ∧ N' = N ∧ ∃ R', RS R' (gF SS t S') m ∧ (∀ j, j < 5 → R'.2.2 j = R.2.2 j) ∧ R'.1 = R.1 ∧ h' = hrx R' h) gNo) 110 [some (vR 541), some (vI t), some (vI ((k : Int) - 1)), some (vI (md (SS t))), some (vI a), y5, y6, y7] [] N (hrx R3 h) 0 0 := by
    intro y5 y6 y7
    have D3 : R3.2.2 5 = R.2.2 5 := (o3 5 (by omega) (by omega)).trans (o2 5 (by omega) (by omega))
    have R3' : R3.2.2 6 = R.2.2 6 := (o3 6 (by omega) (by omega)).trans (o2 6 (by omega) (by omega))
    repeat (first | refine go_pure hM rfl ?_ | refine go_get hM rfl hr_o rfl ?_ | refine go_ldc hM rfl ?_)
    refine go_icmp_ge hM rfl (by omega) (by omega) (fun h9 => ?_) (fun h9 => ?_)
    · have had : a = md (SS t) := by omega
      repeat (first | refine go_pure hM rfl ?_ | refine go_get hM rfl hr_o rfl ?_ | refine go_ldc hM rfl ?_)
      refine go_iald hM rfl hr_R (by omega) (by omega) (by omega) ?_
      rw [show ((t : Nat) : Int).toNat = t by omega, R3', R0]
      have hr4 := hsh.2.2.2.2.2.1
      repeat (first | refine go_pure hM rfl ?_ | refine go_get hM rfl hr_o rfl ?_ | refine go_ldc hM rfl ?_)
      refine go_icmp_ge hM rfl (by omega) (by omega) (fun h8 => ?_) (fun h8 => ?_)
      · -- a new root
        have htt : tt = md (SS t) + 1 := by
          rcases ha2.2.2 with z | z
          · have q0 : mQ (SS t) (k - 1) (tt + 1) = 0 := by
              by_cases h7 : k - 1 < mn (SS t)
              · rw [← z, had]
                exact mQ_top hsh h7
              · have g0 := hsh.2.1
                have h3 := hsh.2.2.2.1 0 (Nat.zero_le _)
                have h6 : mI (SS t) 0 = mn (SS t) := rfl
                have h5 : md (SS t) = 0 := by omega
                rw [h5] at g0 h8
                rw [g0] at h3
                have h2 : sm (mc (SS t) 0) 1 = 0 + mc (SS t) 0 0 := rfl
                omega
            have := e4 (by omega)
            rw [q0, if_pos (by omega), show tt = md (SS t) by omega] at this
            omega
          · exact z.2
        have hi' : k - 1 < mn (SS t) := by omega
        obtain ⟨w1, w2, w3, w4⟩ := en_fin2 (x := x) (n := n) (v := v) (w := w) hsh hi' hm.1 htt e3 e5
        obtain ⟨b1, b2, b3, b4⟩ := (tk_ok s4 h01 a (by omega)).2 (by omega)
        have tb := m_takeBlock (G := G) (N := N) (h := h) (R := R3) (b := nbT (zT R) a) b2 (by rw [t3]; exact b3) (by rw [t3]; exact b4)
        have kd : KS SS t (md (SS t)) = 0 := if_neg (by omega)
        have d4 := e8 htt
        have hl6 : md (SS t) < 6 := by omega
        have ob := hb4 (md (SS t))
        have bnd : oF (KS SS) (md (SS t)) 4 ≤ 254 := by
          have g1 := e9.2.2.2.1 (md (SS t))
          have g2 : oF (KS (gF SS t S')) (md (SS t)) 4 = oF (uF2 (KS SS) t (md (SS t)) (KS SS t (md (SS t)) + 1)) (md (SS t)) 4 := oF_congr (fun g _ => by
            rw [w3]
            exact if_neg (by omega))
          rw [oF_up, if_pos ht] at g2
          omega
        generalize hR4 : sR R3 10 (gF (zT R3) (nbT (zT R) a) 1) = Ra at tb
        have oa : ∀ j, j ≠ 10 → Ra.2.2 j = R3.2.2 j := fun j j1 => by
          rw [← hR4]
          exact sR_n j1
        have rda : RD Ra (KS SS) (BS SS) (CS SS) := by
          refine ⟨s3.1, fun g hg l hl => ?_, fun g hg l hl p hp => ?_⟩
          · rw [show zM Ra = zM R3 from oa 9 (by omega)]
            exact rd3.2.1 g hg l hl
          · rw [show zN Ra = zN R3 from oa 7 (by omega), show zE Ra = zE R3 from oa 8 (by omega)]
            exact rd3.2.2 g hg l hl p hp
        have lvt : lvO R3 t (md (SS t)) = ((256 * md (SS t) + oF (KS SS) (md (SS t)) t : Nat) : Int) := rd3.lv (by omega) hl6
        have lve : lvO Ra 4 (md (SS t)) = ((256 * md (SS t) + oF (KS SS) (md (SS t)) 4 : Nat) : Int) := rda.lv (Nat.le_refl _) hl6
        have ole := oF_le (K := KS SS) (l := md (SS t)) ht
        have ci := m_insertNode (G := G) (N := N) (h := h) (R := Ra) (f := t) (l := md (SS t)) (p := 256 * md (SS t) + oF (KS SS) (md (SS t)) t + 0) (e := 256 * md (SS t) + oF (KS SS) (md (SS t)) 4) (x := (nbT (zT R) a : Int)) (n := ((5 : Nat) : Int)) ht hl6 lve (by omega) (by omega)
        have rdi := rda.ins (g := t) (l := md (SS t)) (q := 0) (x := nbT (zT R) a) (n := 5) ht hl6 (Nat.zero_le _) bnd
        rw [Nat.add_zero (256 * md (SS t) + oF (KS SS) (md (SS t)) t)] at ci rdi
        generalize hR5 : sR (sNE Ra (gF (shU (zN Ra) (256 * md (SS t) + oF (KS SS) (md (SS t)) t) (256 * md (SS t) + oF (KS SS) (md (SS t)) 4)) (256 * md (SS t) + oF (KS SS) (md (SS t)) t) (nbT (zT R) a : Int)) (gF (shU (zE Ra) (256 * md (SS t) + oF (KS SS) (md (SS t)) t) (256 * md (SS t) + oF (KS SS) (md (SS t)) 4)) (256 * md (SS t) + oF (KS SS) (md (SS t)) t) ((5 : Nat) : Int))) 9 (gF (zM Ra) (6 * t + md (SS t)) (zM Ra (6 * t + md (SS t)) + 1)) = Rb at ci rdi
        have ob2 : ∀ j, j ≠ 7 → j ≠ 8 → j ≠ 9 → Rb.2.2 j = Ra.2.2 j := fun j j1 j2 j3 => by
          rw [← hR5]
          exact (sR_n j3).trans (sNE_o j1 j2)
        have fin := last (sR (sR Rb 5 (gF (zD Rb) t ((md (SS t) : Int) + 1))) 6 (gF (zR Rb) t 1)) (uF2 (KS SS) t (md (SS t)) (KS SS t (md (SS t)) + 1)) (uF2 (BS SS) t (md (SS t)) (insN (BS SS t (md (SS t))) 0 (nbT (zT R) a))) (uF2 (CS SS) t (md (SS t)) (insN (CS SS t (md (SS t))) 0 5)) (by
            refine ⟨rdi.1, fun g hg l hl => ?_, fun g hg l hl p hp => ?_⟩
            · rw [show zM (sR (sR Rb 5 (gF (zD Rb) t ((md (SS t) : Int) + 1))) 6 (gF (zR Rb) t 1)) = zM Rb from (sR_n (by omega)).trans (sR_n (by omega))]
              exact rdi.2.1 g hg l hl
            · rw [show zN (sR (sR Rb 5 (gF (zD Rb) t ((md (SS t) : Int) + 1))) 6 (gF (zR Rb) t 1)) = zN Rb from (sR_n (by omega)).trans (sR_n (by omega)), show zE (sR (sR Rb 5 (gF (zD Rb) t ((md (SS t) : Int) + 1))) 6 (gF (zR Rb) t 1)) = zE Rb from (sR_n (by omega)).trans (sR_n (by omega))]
              exact rdi.2.2 g hg l hl p hp) (fun l hl g => uF2_l (by omega)) (fun j hj => by
            rw [sR_n (by omega), sR_n (by omega), ob2 j (by omega) (by omega) (by omega), oa j (by omega)]) (fun j hj => by
            rw [sR_n (by omega), sR_n (by omega), ob2 j (by omega) (by omega) (by omega), oa j (by omega)]) (by
            show Rb.1 = R.1
            rw [← hR5]
            show Ra.1 = R.1
            rw [← hR4]
            exact m3.1) (by
            show Rb.2.1 = _
            rw [← hR5]
            show Ra.2.1 = _
            rw [← hR4]
            exact m3.2) (by
            rw [had]
            exact w3) (by
            rw [had]
            exact w4) (fun g hg => by
            have z5 : zD (sR (sR Rb 5 (gF (zD Rb) t ((md (SS t) : Int) + 1))) 6 (gF (zR Rb) t 1)) = gF (zD Rb) t ((md (SS t) : Int) + 1) := (sR_n (by omega)).trans sR_s
            have z6 : zR (sR (sR Rb 5 (gF (zD Rb) t ((md (SS t) : Int) + 1))) 6 (gF (zR Rb) t 1)) = gF (zR Rb) t 1 := sR_s
            rw [z5, z6]
            by_cases eg : g = t
            · subst eg
              rw [gF_s, gF_s, gF_s, w2, w1]
              exact ⟨by omega, rfl⟩
            · rw [gF_n eg, gF_n eg, gF_n eg, show zD Rb = zD R from (ob2 5 (by omega) (by omega) (by omega)).trans ((oa 5 (by omega)).trans D3), show zR Rb = zR R from (ob2 6 (by omega) (by omega) (by omega)).trans ((oa 6 (by omega)).trans R3')]
              exact s2 g hg) (by
            rw [show zT (sR (sR Rb 5 (gF (zD Rb) t ((md (SS t) : Int) + 1))) 6 (gF (zR Rb) t 1)) = zT Rb from (sR_n (by omega)).trans (sR_n (by omega)), show zT Rb = zT Ra from ob2 10 (by omega) (by omega) (by omega), ← hR4, show zT (sR R3 10 (gF (zT R3) (nbT (zT R) a) 1)) = gF (zT R3) (nbT (zT R) a) 1 from sR_s, t3, htt, had]
            rfl) y5 y6 y7
        repeat (first | refine go_pure hM rfl ?_ | refine go_get hM rfl hr_o rfl ?_ | refine go_ldc hM rfl ?_)
        refine go_cV hM rfl rfl rfl hr_o rfl (m_levelOf (f := t) (by omega) hl6) rfl ?_
        rw [lvt]
        repeat (first | refine go_pure hM rfl ?_ | refine go_get hM rfl hr_o rfl ?_ | refine go_ldc hM rfl ?_)
        refine go_cV hM rfl rfl rfl hr_o rfl tb rfl ?_
        repeat (first | refine go_pure hM rfl ?_ | refine go_get hM rfl hr_o rfl ?_ | refine go_ldc hM rfl ?_)
        refine go_cV hM rfl rfl rfl hr_o rfl ci rfl ?_
        repeat (first | refine go_pure hM rfl ?_ | refine go_get hM rfl hr_o rfl ?_ | refine go_ldc hM rfl ?_)
        refine go_iast hM rfl hr_D (by omega) (by omega) (by omega) ?_
        rw [show ((t : Nat) : Int).toNat = t by omega, ur_D]
        repeat (first | refine go_pure hM rfl ?_ | refine go_get hM rfl hr_o rfl ?_ | refine go_ldc hM rfl ?_)
        refine go_iast hM rfl hr_R (by omega) (by omega) (by omega) ?_
        rw [show ((t : Nat) : Int).toNat = t by omega, ur_R, sR_n (by omega)]
        exact fin
      · -- room in the root
        have htt : tt = md (SS t) := by
          rcases ha2.2.2 with z | z
          · omega
          · have := e3 (md (SS t)) (by omega)
            rw [mQ_top hsh (by omega), if_pos rfl] at this
            omega
        obtain ⟨w1, w2, w3, w4⟩ := en_fin1 (x := x) (n := n) (v := v) (w := w) (C0 := CS SS) hsh (by omega) hm.1 (by omega) e3 e5 (fun g l _ => rfl) (fun h7 => absurd h7 (by omega))
        have fin := last (sR R3 6 (gF (zR R3) t ((mc (SS t) (md (SS t)) 0 : Int) + 1))) (KS SS) (BS SS) (CS SS) (by
            refine ⟨rd3.1, fun g hg l hl => ?_, fun g hg l hl p hp => ?_⟩
            · rw [show zM (sR R3 6 (gF (zR R3) t ((mc (SS t) (md (SS t)) 0 : Int) + 1))) = zM R3 from sR_n (by omega)]
              exact rd3.2.1 g hg l hl
            · rw [show zN (sR R3 6 (gF (zR R3) t ((mc (SS t) (md (SS t)) 0 : Int) + 1))) = zN R3 from sR_n (by omega), show zE (sR R3 6 (gF (zR R3) t ((mc (SS t) (md (SS t)) 0 : Int) + 1))) = zE R3 from sR_n (by omega)]
              exact rd3.2.2 g hg l hl p hp) (fun l hl g => rfl) (fun j hj => sR_n (by omega)) (fun j hj => sR_n (by omega)) m3.1 m3.2 (by
            rw [had, ← htt]
            exact w3) (by
            rw [had, ← htt]
            exact w4) (fun g hg => by
            have z5 : zD (sR R3 6 (gF (zR R3) t ((mc (SS t) (md (SS t)) 0 : Int) + 1))) = zD R := (sR_n (by omega)).trans D3
            have z6 : zR (sR R3 6 (gF (zR R3) t ((mc (SS t) (md (SS t)) 0 : Int) + 1))) = gF (zR R3) t ((mc (SS t) (md (SS t)) 0 : Int) + 1) := sR_s
            rw [z5, z6]
            by_cases eg : g = t
            · subst eg
              rw [gF_s, gF_s, w2, w1, if_pos htt]
              exact ⟨D0, by omega⟩
            · rw [gF_n eg, gF_n eg, show zR R3 = zR R from R3']
              exact s2 g hg) (by
            rw [show zT (sR R3 6 (gF (zR R3) t ((mc (SS t) (md (SS t)) 0 : Int) + 1))) = zT R3 from sR_n (by omega), t3, had, htt]) y5 y6 y7
        repeat (first | refine go_pure hM rfl ?_ | refine go_get hM rfl hr_o rfl ?_ | refine go_ldc hM rfl ?_)
        refine go_dup2 hM rfl ?_
        refine go_iald hM rfl hr_R (by omega) (by omega) (by omega) ?_
        rw [show ((t : Nat) : Int).toNat = t by omega, R3', R0]
        repeat (first | refine go_pure hM rfl ?_ | refine go_get hM rfl hr_o rfl ?_ | refine go_ldc hM rfl ?_)
        refine go_iast hM rfl hr_R (by omega) (by omega) (by omega) ?_
        rw [show ((t : Nat) : Int).toNat = t by omega, ur_R]
        repeat (first | exact fin | refine go_pure hM rfl ?_ | refine go_get hM rfl hr_o rfl ?_ | refine go_ldc hM rfl ?_)
    · -- room in a block
      have htt : a = tt := by omega
      have hl6 : tt < 6 := by omega
      have yv : R3.2.2 11 tt = ((256 * tt + oF (KS SS) tt t + mQ (SS t) (k - 1) (tt + 1) : Nat) : Int) := by
        rw [o3 11 (by omega) (by omega)]
        exact y2 tt (by omega)
      have hq9 := (hQ tt (by omega)).1
      have ev : R3.2.2 8 (256 * tt + oF (KS SS) tt t + mQ (SS t) (k - 1) (tt + 1)) = (mc (SS t) tt (mQ (SS t) (k - 1) (tt + 1)) : Int) := (rd3.2.2 t ht tt hl6 _ hq9).2
      have ole := oF_le (K := KS SS) (l := tt) ht
      have ob := hb4 tt
      have rc := rd3.cnt (g := t) (l := tt) (q := mQ (SS t) (k - 1) (tt + 1)) (x := mc (SS t) tt (mQ (SS t) (k - 1) (tt + 1)) + 1) ht hl6 hq9
      obtain ⟨w1, w2, w3, w4⟩ := en_fin1 (x := x) (n := n) (v := v) (w := w) (C0 := uF2 (CS SS) t tt (gF (CS SS t tt) (mQ (SS t) (k - 1) (tt + 1)) (mc (SS t) tt (mQ (SS t) (k - 1) (tt + 1)) + 1))) hsh (by omega) hm.1 (by omega) e3 e5 (fun g l hgl => by
        by_cases eg : g = t
        · exact uF2_l (fun z => hgl ⟨eg, z⟩)
        · rw [uF2_g eg]) (fun _ => uF2_s)
      have fin := last _ (KS SS) (BS SS) _ rc (fun l hl g => rfl) (fun j hj => sR_n (by omega)) (fun j hj => sR_n (by omega)) m3.1 m3.2 (by
          rw [htt]
          exact w3) (by
          rw [htt]
          exact w4) (fun g hg => by
          have z5 : ∀ f, zD (sR R3 8 f) = zD R := fun f => (sR_n (by omega)).trans D3
          have z6 : ∀ f, zR (sR R3 8 f) = zR R := fun f => (sR_n (by omega)).trans R3'
          rw [z5, z6]
          by_cases eg : g = t
          · subst eg
            rw [gF_s, w2, w1, if_neg (by omega)]
            exact s2 g hg
          · rw [gF_n eg]
            exact s2 g hg) (by
          have z9 : ∀ f, zT (sR R3 8 f) = zT R3 := fun f => sR_n (by omega)
          rw [z9, t3, htt]) y5 y6 y7
      rw [htt] at fin ⊢
      repeat (first | refine go_pure hM rfl ?_ | refine go_get hM rfl hr_o rfl ?_ | refine go_ldc hM rfl ?_)
      refine go_iald hM rfl hr_Y (by omega) (by omega) (by omega) ?_
      rw [show ((tt : Nat) : Int).toNat = tt by omega, yv]
      refine go_dup2 hM rfl ?_
      refine go_iald hM rfl hr_E (by omega) (by omega) (by omega) ?_
      rw [show ((256 * tt + oF (KS SS) tt t + mQ (SS t) (k - 1) (tt + 1) : Nat) : Int).toNat = 256 * tt + oF (KS SS) tt t + mQ (SS t) (k - 1) (tt + 1) by omega, ev]
      repeat (first | refine go_pure hM rfl ?_ | refine go_get hM rfl hr_o rfl ?_ | refine go_ldc hM rfl ?_)
      refine go_iast hM rfl hr_E (by omega) (by omega) (by omega) ?_
      rw [show ((256 * tt + oF (KS SS) tt t + mQ (SS t) (k - 1) (tt + 1) : Nat) : Int).toNat = 256 * tt + oF (KS SS) tt t + mQ (SS t) (k - 1) (tt + 1) by omega, ur_E]
      repeat (first | exact fin | refine go_pure hM rfl ?_ | refine go_get hM rfl hr_o rfl ?_ | refine go_ldc hM rfl ?_)
  have tkl := fun y5 y6 y7 => en_take (G := G) (N := N) (h := h) (R := R2) (t := t) (d := md (SS t)) (a := a) (m := m) (i := (k : Int) - 1) (T := zT R) (y5 := y5) (y6 := y6) (y7 := y7) (Q9 := fun v N' h' => v = none ∧ N' = N ∧ ∃ R', RS R' (gF SS t S') m ∧ (∀ j, j < 5 → R'.2.2 j = R.2.2 j) ∧ R'.1 = R.1 ∧ h' = hrx R' h) (X := gNo) (o2 10 (by omega) (by omega)) s4 h01 (by omega) hd5 ha2.1 hm m2.2 (fun l hl => by
    have hq9 := (hQ l hl).1
    have ole := oF_le (K := KS SS) (l := l) ht
    have ob := hb4 l
    have h3 : KS SS t l = mK (SS t) l := if_pos hl
    have cb := (hsh.2.2.2.2.1 l hl (mQ (SS t) (k - 1) (l + 1)) (by omega)).2.1
    refine ⟨256 * l + oF (KS SS) l t + mQ (SS t) (k - 1) (l + 1), mc (SS t) l (mQ (SS t) (k - 1) (l + 1)), y2 l hl, by omega, (rd2.2.2 t ht l (by omega) _ hq9).2, by omega, fun hla => ?_, fun hla => ?_⟩
    · rw [e3 l (by omega), if_neg (by omega)]
    · have z : a = tt := by omega
      have := e4 (by omega)
      rw [if_neg (by omega), ← z, ← hla] at this
      omega) (by
    rw [hR3]
    exact mid y5 y6 y7) a 0 0 (by omega) rfl
  have plc := fun y5 y6 y7 => en_place (G := G) (N := N) (h := h) (R := R) (t := t) (k := k) (d := md (SS t)) (Y := fwY R (KS SS) t (mQ (SS t) (k - 1)) (md (SS t))) (P1 := gF (fwP R (CS SS) t (mQ (SS t) (k - 1)) (md (SS t))) (md (SS t)) (mQ (SS t) (k - 1) (md (SS t)) : Int)) (Q9 := fun v N' h' => v = none ∧ N' = N ∧ ∃ R', RS R' (gF SS t S') m ∧ (∀ j, j < 5 → R'.2.2 j = R.2.2 j) ∧ R'.1 = R.1 ∧ h' = hrx R' h) (X := gNo) hd5 (by omega) (y5 := y5) (y6 := y6) (y7 := y7) (by
    rw [hR2]
    have tk0 := tkl y5 y6 y7
    have z10 : tkT (zT R) 0 = zT R2 := (o2 10 (by omega) (by omega)).symm
    rw [frN_0, z10, sTF_0] at tk0
    repeat (first | exact tk0 | refine go_pure hM rfl ?_ | refine go_get hM rfl hr_o rfl ?_ | refine go_ldc hM rfl ?_)) (md (SS t) + 1) 0 0 (by omega) rfl
  have p0 := plc none none none
  rw [plN_0] at p0
  repeat (first | refine go_pure hM rfl ?_ | refine go_get hM rfl hr_o rfl ?_ | refine go_ldc hM rfl ?_)
  refine go_iald hM rfl hr_D (by omega) (by omega) (by omega) ?_
  rw [show ((t : Nat) : Int).toNat = t by omega, D0]
  repeat (first | refine go_pure hM rfl ?_ | refine go_get hM rfl hr_o rfl ?_ | refine go_ldc hM rfl ?_)
  refine go_if_ge hM rfl (by omega) (fun h9 => ?_) (fun h9 => ?_)
  · repeat (first | refine go_pure hM rfl ?_ | refine go_get hM rfl hr_o rfl ?_ | refine go_ldc hM rfl ?_)
    rw [show (k : Int) - 1 = ((k - 1 : Nat) : Int) by omega] at p0 ⊢
    refine go_cV hM rfl rfl rfl hr_o rfl fw rfl ?_
    repeat (first | exact p0 | refine go_pure hM rfl ?_ | refine go_get hM rfl hr_o rfl ?_ | refine go_ldc hM rfl ?_)
  · have k0 : k = 0 := by omega
    repeat (first | refine go_pure hM rfl ?_ | refine go_get hM rfl hr_o rfl ?_ | refine go_ldc hM rfl ?_)
    have fw : Rd G m_Mod_findWay [vR 541, vI t, vI 0] N (hrx R h) none N (hrx (sWP R (fwY R (KS SS) t (mQ (SS t) (k - 1)) (md (SS t))) (gF (fwP R (CS SS) t (mQ (SS t) (k - 1)) (md (SS t))) (md (SS t)) (mQ (SS t) (k - 1) (md (SS t)) : Int))) h) := by
      have z : ((k - 1 : Nat) : Int) = 0 := by omega
      rw [z] at fw
      exact fw
    refine go_cV hM rfl rfl rfl hr_o rfl fw rfl ?_
    repeat (first | exact p0 | refine go_pure hM rfl ?_ | refine go_get hM rfl hr_o rfl ?_ | refine go_ldc hM rfl ?_)
end
