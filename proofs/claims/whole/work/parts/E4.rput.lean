/-! the reference: tryPut, put, spread -/
abbrev qX (SS' : Nat → mS) (m : Nat) (h : gH) (c r : Int) : Option gV → Option Nat → gH → Prop := fun v' N' h' => v' = some (vI r) ∧ N' = none ∧ ∃ R', RX R' SS' m ∧ R'.1 = c ∧ h' = hrx R' h
section
variable {G : gG} {N : Option Nat} {h : gH} {R : rA} {SS SS' : Nat → mS} {S : mS} {t m k : Nat} {f x n v w st c r : Int}
theorem RX.th (hx : RX R SS m) (c : Int) : RX (sTh R c) SS m := hx
theorem fr_bh (hr : mRn S) (hn : 1 ≤ n) (hk : Bh S k x) : (∃ k, Fr S k x n) ↔ ¬ (k < mn S ∧ ms S k < x + n) := by
  constructor
  · rintro ⟨k', hf⟩ ⟨a1, a2⟩
    have hb : Bh S k' x := ⟨hf.1, hf.2.1, fun p p1 p2 => by
      have h1 := hf.2.2 p p1 p2
      have h2 := (hr.1 p p2).2.1
      omega⟩
    have := bh_un hk hb
    subst this
    have := hf.2.2 k (Nat.le_refl _) a1
    omega
  · intro h9
    refine ⟨k, hk.1, hk.2.1, fun p p1 p2 => ?_⟩
    by_cases e : p = k
    · rw [e] at p2 ⊢
      have : ¬ ms S k < x + n := fun z => h9 ⟨p2, z⟩
      omega
    · have h1 := hr.lt (show k < p by omega) p2
      have : ¬ ms S k < x + n := fun z => h9 ⟨by omega, z⟩
      omega
/-- what an attempt answers -/
def tpC (SS : Nat → mS) (t m : Nat) (x n v w : Int) (SS' : Nat → mS) (c : Int) : Prop := (¬ (∃ k, Fr (SS t) k x n) ∧ c = 2 ∧ SS' = SS) ∨ ((∃ k, Fr (SS t) k x n) ∧ ¬ Ro SS t 1 1 5 ∧ c = 3 ∧ SS' = SS) ∨ ((∃ k, Fr (SS t) k x n) ∧ Ro SS t 1 1 5 ∧ c = 0 ∧ PutO SS t m x n v w SS')
set_option maxHeartbeats 4000000 in
theorem m_tryPut (hx : RX R SS m) (hg : Gd SS m) (ht : t < 4) (ho : rOk x n v w) (hc : tpC SS t m x n v w SS' c) : Rn G m_Mod_tryPut [vR 541, vI t, vI x, vI n, vI v, vI w] N (hrx R h) 0 0 (qR R SS' m h (some (vI c))) gNo := by
  refine Rn.of rfl rfl rfl ?_
  have hM := ok_Mod_tryPut
  have hnn := (hg.2.1 t ht).2
  have hsh := (hg.2.1 t ht).1
  have hx' := hx
  obtain ⟨hs, hr⟩ := hx'
  have ho' := ho
  obtain ⟨o1, o2, o3, o4, o5, o6, o7⟩ := ho'
  obtain ⟨k, hk⟩ := bh_ex hnn x
  have hkle := hk.1
  have fb := fr_bh (n := n) hnn o2 hk
  have hr' := hr
  obtain ⟨r1, r2, r3⟩ := hr'
  have bt := bg_le (SS := SS) ht
  have b2 : R.2.2 0 (t + 1) = ((bg SS t + mn (SS t) : Nat) : Int) := r2 (t + 1) (by omega)
  have tt1 : (((t : Nat) : Int) + 1).toNat = t + 1 := by omega
  have tk : ((bg SS t + k : Nat) : Int).toNat = bg SS t + k := by omega
  have c3 : c = 2 ∨ c = 3 ∨ c = 0 := by
    rcases hc with ⟨_, z, _⟩ | ⟨_, _, z, _⟩ | ⟨_, _, z, _⟩
    · exact Or.inl z
    · exact Or.inr (Or.inl z)
    · exact Or.inr (Or.inr z)
  have go66 : ∀ y7, Go G m_Mod_tryPut (gFin G (qR R SS' m h (some (vI c))) gNo) 66 [some (vR 541), some (vI t), some (vI x), some (vI n), some (vI v), some (vI w), some (vI ((bg SS t + k : Nat) : Int)), y7, none] [vI c] none (hrx R h) 0 0 := by
    intro y7
    have ex : SS' = SS → Go G m_Mod_tryPut (gFin G (qR R SS' m h (some (vI c))) gNo) 89 [some (vR 541), some (vI t), some (vI x), some (vI n), some (vI v), some (vI w), some (vI ((bg SS t + k : Nat) : Int)), y7, some (vI c)] [] none (hrx R h) 0 0 := by
      intro e
      repeat (first | refine go_pure hM rfl ?_ | refine go_get hM rfl hr_o rfl ?_ | refine go_ldc hM rfl ?_)
      exact go_iret hM rfl rfl ⟨rfl, rfl, R, by rw [e]; exact hx, rfl, rfl⟩
    repeat (first | refine go_pure hM rfl ?_ | refine go_get hM rfl hr_o rfl ?_ | refine go_ldc hM rfl ?_)
    refine go_if_ne hM rfl (by omega) (fun h9 => ex ?_) (fun h9 => ?_)
    · rcases hc with ⟨_, _, z⟩ | ⟨_, _, _, z⟩ | ⟨_, _, z, _⟩
      · exact z
      · exact z
      · exact absurd z h9
    · rcases hc with ⟨_, z, _⟩ | ⟨_, _, z, _⟩ | ⟨_, _, z, k2, S1, p1, p2, p3⟩
      · omega
      · omega
      · have er := m_enterRun (G := G) (N := none) (h := h) hx hg ht ho p1 p2
        repeat (first | refine go_pure hM rfl ?_ | refine go_get hM rfl hr_o rfl ?_ | refine go_ldc hM rfl ?_)
        refine go_callV (mc := 0) (ms := 0) hM rfl rfl rfl hr_o rfl er rfl (fun v9 N9 h9 hq => ?_) (fun _ _ q => q.elim)
        obtain ⟨rfl, rfl, R2, ⟨u1, u2⟩, u3, rfl⟩ := hq
        have sh := m_shrink (G := G) (N := none) (h := h) u1 ht p3
        repeat (first | refine go_pure hM rfl ?_ | refine go_get hM rfl hr_o rfl ?_ | refine go_ldc hM rfl ?_)
        refine go_callV (mc := 0) (ms := 0) hM rfl rfl rfl hr_o rfl sh rfl (fun v9 N9 h9 hq => ?_) (fun _ _ q => q.elim)
        obtain ⟨rfl, rfl, R4, w1, w2, w3, rfl⟩ := hq
        obtain ⟨j, _, _, j3, _⟩ := p3
        have rr4 : RR R4 SS' := by
          rw [j3]
          refine RR.congr (R' := R4) u2 (stM_run j).1 ht (fun i _ => ?_) w2
          obtain ⟨_, q2, q3, q4, q5⟩ := stM_run (S := gF SS t S1 t) (t := t) j
          rw [q2, q3, q4, q5]
          exact ⟨rfl, rfl, rfl, rfl⟩
        repeat (first | refine go_pure hM rfl ?_ | refine go_get hM rfl hr_o rfl ?_ | refine go_ldc hM rfl ?_)
        exact go_iret hM rfl rfl ⟨rfl, rfl, R4, ⟨w1, rr4⟩, w3.trans u3, rfl⟩
  have go39 : ∀ z : Int, (z = 0 ∧ (∃ k, Fr (SS t) k x n)) ∨ (z = 1 ∧ ¬ (∃ k, Fr (SS t) k x n)) → Go G m_Mod_tryPut (gFin G (qR R SS' m h (some (vI c))) gNo) 39 [some (vR 541), some (vI t), some (vI x), some (vI n), some (vI v), some (vI w), some (vI ((bg SS t + k : Nat) : Int)), none, none] [vI z] none (hrx R h) 0 0 := by
    intro z hz
    have n1 := go66 (some (vI z))
    repeat (first | refine go_pure hM rfl ?_ | refine go_get hM rfl hr_o rfl ?_ | refine go_ldc hM rfl ?_)
    refine go_if_eq hM rfl (by omega) (fun h9 => ?_) (fun h9 => ?_)
    · have hF : ∃ k, Fr (SS t) k x n := by
        rcases hz with ⟨_, q⟩ | ⟨q, _⟩
        · exact q
        · omega
      repeat (first | refine go_pure hM rfl ?_ | refine go_get hM rfl hr_o rfl ?_ | refine go_ldc hM rfl ?_)
      rcases m_isTight (G := G) (N := none) (h := h) (a := 1) (b := 1) (c := 5) hs hsh ht (by omega) (by omega) (by omega) with ⟨ro, it⟩ | ⟨ro, it⟩
      · refine go_cV hM rfl rfl rfl hr_o rfl it rfl ?_
        refine go_if_eq hM rfl (by omega) (fun _ => ?_) (fun h8 => absurd rfl h8)
        have ec : c = 0 := by
          rcases hc with ⟨q, _⟩ | ⟨_, q, _⟩ | ⟨_, _, q, _⟩
          · exact absurd hF q
          · exact absurd ro q
          · exact q
        rw [ec] at n1 ⊢
        repeat (first | exact n1 | refine go_pure hM rfl ?_ | refine go_get hM rfl hr_o rfl ?_ | refine go_ldc hM rfl ?_)
      · refine go_cV hM rfl rfl rfl hr_o rfl it rfl ?_
        refine go_if_eq hM rfl (by omega) (fun h8 => absurd h8 (by omega)) (fun _ => ?_)
        have ec : c = 3 := by
          rcases hc with ⟨q, _⟩ | ⟨_, _, q, _⟩ | ⟨_, q, _⟩
          · exact absurd hF q
          · exact q
          · exact absurd q ro
        rw [ec] at n1 ⊢
        repeat (first | exact n1 | refine go_pure hM rfl ?_ | refine go_get hM rfl hr_o rfl ?_ | refine go_ldc hM rfl ?_)
    · have hF : ¬ ∃ k, Fr (SS t) k x n := by
        rcases hz with ⟨q, _⟩ | ⟨_, q⟩
        · exact absurd q h9
        · exact q
      have ec : c = 2 := by
        rcases hc with ⟨_, q, _⟩ | ⟨q, _⟩ | ⟨q, _⟩
        · exact q
        · exact absurd q hF
        · exact absurd q hF
      rw [ec] at n1 ⊢
      repeat (first | exact n1 | refine go_pure hM rfl ?_ | refine go_get hM rfl hr_o rfl ?_ | refine go_ldc hM rfl ?_)
  have no : (∃ k, Fr (SS t) k x n) → Go G m_Mod_tryPut (gFin G (qR R SS' m h (some (vI c))) gNo) 38 [some (vR 541), some (vI t), some (vI x), some (vI n), some (vI v), some (vI w), some (vI ((bg SS t + k : Nat) : Int)), none, none] [] none (hrx R h) 0 0 := by
    intro hF
    have n1 := go39 0 (Or.inl ⟨rfl, hF⟩)
    repeat (first | exact n1 | refine go_pure hM rfl ?_ | refine go_get hM rfl hr_o rfl ?_ | refine go_ldc hM rfl ?_)
  refine go_drop ?_
  repeat (first | refine go_pure hM rfl ?_ | refine go_get hM rfl hr_o rfl ?_ | refine go_ldc hM rfl ?_)
  refine go_cV hM rfl rfl rfl hr_o rfl (m_behind hr hnn ht hk (by omega)) rfl ?_
  repeat (first | refine go_pure hM rfl ?_ | refine go_get hM rfl hr_o rfl ?_ | refine go_ldc hM rfl ?_)
  refine go_iald hM rfl hr_B (by omega) (by omega) (by omega) ?_
  rw [tt1, b2]
  refine go_icmp_ge hM rfl (by omega) (by omega) (fun h9 => no (fb.mpr (fun q => by omega))) (fun h9 => ?_)
  obtain ⟨d1, -⟩ := r3 t ht k (by omega)
  have d1 : R.2.2 1 (bg SS t + k) = ms (SS t) k := d1
  have c0 := hnn.1 k (by omega)
  repeat (first | refine go_pure hM rfl ?_ | refine go_get hM rfl hr_o rfl ?_ | refine go_ldc hM rfl ?_)
  refine go_iald hM rfl hr_S (by omega) (by omega) (by omega) ?_
  rw [tk, d1]
  repeat (first | refine go_pure hM rfl ?_ | refine go_get hM rfl hr_o rfl ?_ | refine go_ldc hM rfl ?_)
  refine go_icmp_ge hM rfl (by omega) (by omega) (fun h8 => no (fb.mpr (fun q => by omega))) (fun h8 => ?_)
  have n1 := go39 1 (Or.inr ⟨rfl, fun q => fb.mp q ⟨by omega, by omega⟩⟩)
  repeat (first | exact n1 | refine go_pure hM rfl ?_ | refine go_get hM rfl hr_o rfl ?_ | refine go_ldc hM rfl ?_)
set_option maxHeartbeats 4000000 in
theorem m_put (hx : RX R SS m) (hg : Gd SS m) (rf : (-2147483648 ≤ f ∧ f ≤ 2147483647)) (rx : (-2147483648 ≤ x ∧ x ≤ 2147483647)) (rn : (-2147483648 ≤ n ∧ n ≤ 2147483647)) (rv : (-2147483648 ≤ v ∧ v ≤ 2147483647)) (hw : w = 0 ∨ w = 1) (hc : (¬ okPut f x n v w ∧ c = 1 ∧ SS' = SS ∧ r = 0) ∨ (okPut f x n v w ∧ tpC SS f.toNat m x n v w SS' c ∧ r = if c = 0 then (mn (SS' f.toNat) : Int) else 0)) : Rn G m_Mod_put [vR 541, vI f, vI x, vI n, vI v, vI w] N (hrx R h) 0 0 (qX SS' m h c r) gNo := by
  refine Rn.of rfl rfl rfl ?_
  have hM := ok_Mod_put
  have go68 : ∀ (R2 : rA), RX R2 SS' m → R2.1 = c → (c ≠ 0 → r = 0) → (c = 0 → (0 ≤ f ∧ f < 4) ∧ r = mn (SS' f.toNat)) → (-2147483648 ≤ c ∧ c ≤ 2147483647) → Go G m_Mod_put (gFin G (qX SS' m h c r) gNo) 68 [some (vR 541), some (vI f), some (vI x), some (vI n), some (vI v), some (vI w)] [] none (hrx R2 h) 0 0 := by
    intro R2 x2 e2 e3 e4 rc
    repeat (first | refine go_pure hM rfl ?_ | refine go_get hM rfl hr_o rfl ?_ | refine go_ldc hM rfl ?_)
    rw [e2]
    refine go_if_eq hM rfl rc (fun h9 => ?_) (fun h9 => ?_)
    · obtain ⟨hf, er⟩ := e4 h9
      obtain ⟨t, rfl⟩ : ∃ t : Nat, f = t := ⟨f.toNat, by omega⟩
      rw [show ((t : Nat) : Int).toNat = t by omega] at er
      repeat (first | refine go_pure hM rfl ?_ | refine go_get hM rfl hr_o rfl ?_ | refine go_ldc hM rfl ?_)
      refine go_cV hM rfl rfl rfl hr_o rfl (m_runs x2.2 (by omega)) rfl ?_
      exact go_iret hM rfl rfl ⟨by rw [er], rfl, R2, x2, e2, rfl⟩
    · repeat (first | refine go_pure hM rfl ?_ | refine go_get hM rfl hr_o rfl ?_ | refine go_ldc hM rfl ?_)
      exact go_iret hM rfl rfl ⟨by rw [e3 h9], rfl, R2, x2, e2, rfl⟩
  have bad : ¬ okPut f x n v w → Go G m_Mod_put (gFin G (qX SS' m h c r) gNo) 34 [some (vR 541), some (vI f), some (vI x), some (vI n), some (vI v), some (vI w)] [vR 541] none (hrx R h) 0 0 := by
    intro hno
    rcases hc with ⟨_, e1, e2, e3⟩ | ⟨z, _⟩
    · have n1 := go68 (sTh (sTh R 1) 1) (by rw [e2]; exact hx) e1.symm (fun _ => e3) (fun z => by omega) (by omega)
      repeat (first | refine go_pure hM rfl ?_ | refine go_get hM rfl hr_o rfl ?_ | refine go_ldc hM rfl ?_)
      refine go_put hM rfl hr_o rfl rfl ?_
      have u1 := ur_o (R := R) (h := h) (x := 1)
      rw [u1]
      repeat (first | refine go_pure hM rfl ?_ | refine go_get hM rfl hr_o rfl ?_ | refine go_ldc hM rfl ?_)
      refine go_if_eq hM rfl (by show _ ≤ (1 : Int) ∧ (1 : Int) ≤ _; omega) (fun h9 => absurd h9 (by show ¬ (1 : Int) = 0; omega)) (fun _ => ?_)
      repeat (first | refine go_pure hM rfl ?_ | refine go_get hM rfl hr_o rfl ?_ | refine go_ldc hM rfl ?_)
      refine go_put hM rfl hr_o rfl rfl ?_
      have u2 := ur_o (R := sTh R 1) (h := h) (x := 1)
      rw [u2]
      exact n1
    · exact absurd z hno
  have lw : (if w = 1 then 32768 else 32767 : Int) = 32767 + w := by
    rcases hw with rfl | rfl <;> rfl
  have go18 : ∀ L : Int, L = 32767 + w → Go G m_Mod_put (gFin G (qX SS' m h c r) gNo) 18 [some (vR 541), some (vI f), some (vI x), some (vI n), some (vI v), some (vI w)] [vI L, vI n, vI x, vI f, vR 541, vR 541] none (hrx R h) 0 0 := by
    intro L hL
    rcases m_noRange (G := G) (N := none) (h := h) (R := R) (L := L) rf rx rn (by omega) with ⟨g1, g2⟩ | ⟨g1, g2⟩
    · refine go_cV hM rfl rfl rfl hr_o rfl g2 rfl ?_
      refine go_if_ne hM rfl (by omega) (fun h9 => absurd rfl h9) (fun _ => ?_)
      repeat (first | refine go_pure hM rfl ?_ | refine go_get hM rfl hr_o rfl ?_ | refine go_ldc hM rfl ?_)
      have g1' := g1.1
      rcases m_noVolume (G := G) (N := none) (h := h) (R := R) rv (show 0 ≤ n ∧ n ≤ 100000 by omega) with ⟨q1, q2⟩ | ⟨q1, q2⟩
      · have hok : okPut f x n v w := ⟨g1.1.1, g1.1.2, by omega, q1⟩
        rcases hc with ⟨z, _⟩ | ⟨_, tp, er⟩
        · exact absurd hok z
        · obtain ⟨t, rfl⟩ : ∃ t : Nat, f = t := ⟨f.toNat, by omega⟩
          have e0 : ((t : Nat) : Int).toNat = t := by omega
          rw [e0] at tp er
          have ht : t < 4 := by omega
          have c3 : c = 2 ∨ c = 3 ∨ c = 0 := by
            rcases tp with ⟨_, z, _⟩ | ⟨_, _, z, _⟩ | ⟨_, _, z, _⟩
            · exact Or.inl z
            · exact Or.inr (Or.inl z)
            · exact Or.inr (Or.inr z)
          have tr := m_tryPut (G := G) (N := none) (h := h) (R := sTh R 0) (hx.th 0) hg ht ⟨g1.1.2.1, g1.1.2.2.2.1, g1.1.2.2.2.2, hw, by omega, q1.1, q1.2.2⟩ tp
          refine go_cV hM rfl rfl rfl hr_o rfl q2 rfl ?_
          refine go_if_eq hM rfl (by omega) (fun _ => ?_) (fun h9 => absurd rfl h9)
          repeat (first | refine go_pure hM rfl ?_ | refine go_get hM rfl hr_o rfl ?_ | refine go_ldc hM rfl ?_)
          refine go_put hM rfl hr_o rfl rfl ?_
          have u1 := ur_o (R := R) (h := h) (x := 0)
          rw [u1]
          repeat (first | refine go_pure hM rfl ?_ | refine go_get hM rfl hr_o rfl ?_ | refine go_ldc hM rfl ?_)
          refine go_if_eq hM rfl (by show _ ≤ (0 : Int) ∧ (0 : Int) ≤ _; omega) (fun _ => ?_) (fun h9 => absurd rfl h9)
          repeat (first | refine go_pure hM rfl ?_ | refine go_get hM rfl hr_o rfl ?_ | refine go_ldc hM rfl ?_)
          refine go_callV (mc := 0) (ms := 0) hM rfl rfl rfl hr_o rfl tr rfl (fun v9 N9 h9 hq => ?_) (fun _ _ q => q.elim)
          obtain ⟨rfl, rfl, R2, w1, w2, rfl⟩ := hq
          have n1 := go68 (sTh R2 c) (w1.th c) rfl (fun z => by rw [er, if_neg z]) (fun z => by
            rw [e0]
            refine ⟨⟨by omega, by omega⟩, ?_⟩
            rw [er, if_pos z]) (by omega)
          refine go_put hM rfl hr_o rfl rfl ?_
          have u2 := ur_o (R := R2) (h := h) (x := c)
          rw [u2]
          exact n1
      · refine go_cV hM rfl rfl rfl hr_o rfl q2 rfl ?_
        refine go_if_eq hM rfl (by omega) (fun h9 => absurd h9 (by omega)) (fun _ => bad (fun q => q1 q.2.2.2))
    · refine go_cV hM rfl rfl rfl hr_o rfl g2 rfl ?_
      refine go_if_ne hM rfl (by omega) (fun _ => bad (fun q => g1 ⟨⟨q.1, q.2.1⟩, by have := q.2.2.1; omega⟩)) (fun h9 => absurd h9 (by omega))
  refine go_drop ?_
  repeat (first | refine go_pure hM rfl ?_ | refine go_get hM rfl hr_o rfl ?_ | refine go_ldc hM rfl ?_)
  refine go_if_eq hM rfl (by omega) (fun h9 => ?_) (fun h9 => ?_)
  · have n1 := go18 32767 (by omega)
    repeat (first | exact n1 | refine go_pure hM rfl ?_ | refine go_get hM rfl hr_o rfl ?_ | refine go_ldc hM rfl ?_)
  · have n1 := go18 32768 (by omega)
    repeat (first | exact n1 | refine go_pure hM rfl ?_ | refine go_get hM rfl hr_o rfl ?_ | refine go_ldc hM rfl ?_)
end
