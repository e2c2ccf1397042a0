/-! the reference: enterRun -/
section
variable {R R' : rA} {SS SS2 : Nat → mS} {m t : Nat} {S' : mS}
theorem RS.mv (hs : RS R SS m) (e : ∀ j, 5 ≤ j → R'.2.2 j = R.2.2 j) (e1 : R'.2.1 = R.2.1) (hS : ∀ g, md (SS2 g) = md (SS g) ∧ mK (SS2 g) = mK (SS g) ∧ mb (SS2 g) = mb (SS g) ∧ mc (SS2 g) = mc (SS g)) : RS R' SS2 m := by
  obtain ⟨s1, s2, s3, s4, s5⟩ := hs
  have kE : KS SS2 = KS SS := by
    funext g l
    unfold KS
    rw [(hS g).1, (hS g).2.1]
  have bE : BS SS2 = BS SS := by
    funext g l
    unfold BS
    rw [(hS g).2.2.1]
  have cE : CS SS2 = CS SS := by
    funext g l
    unfold CS
    rw [(hS g).2.2.2]
  have oE : ∀ b t l p, mOwn SS2 b t l p ↔ mOwn SS b t l p := by
    intro b t l p
    unfold mOwn
    rw [(hS t).1, (hS t).2.1, (hS t).2.2.1]
  refine ⟨e1.trans s1, fun g hg => ?_, ?_, ?_, fun b b1 b2 => ?_⟩
  · rw [show zD R' = zD R from e 5 (by omega), show zR R' = zR R from e 6 (by omega), (hS g).1, (hS g).2.2.2]
    exact s2 g hg
  · rw [kE, bE, cE]
    refine ⟨s3.1, fun g hg l hl => ?_, fun g hg l hl p hp => ?_⟩
    · rw [show zM R' = zM R from e 9 (by omega)]
      exact s3.2.1 g hg l hl
    · rw [show zN R' = zN R from e 7 (by omega), show zE R' = zE R from e 8 (by omega)]
      exact s3.2.2 g hg l hl p hp
  · rw [show zT R' = zT R from e 10 (by omega)]
    exact s4
  · rw [show zT R' = zT R from e 10 (by omega)]
    have := s5 b b1 b2
    simp only [oE]
    exact this
theorem str_g (h : md S' = md (SS t) ∧ mK S' = mK (SS t) ∧ mb S' = mb (SS t) ∧ mc S' = mc (SS t)) : ∀ g, md (gF SS t S' g) = md (SS g) ∧ mK (gF SS t S' g) = mK (SS g) ∧ mb (gF SS t S' g) = mb (SS g) ∧ mc (gF SS t S' g) = mc (SS g) := by
  intro g
  by_cases e : g = t
  · subst e
    rw [gF_s]
    exact h
  · rw [gF_n e]
    exact ⟨rfl, rfl, rfl, rfl⟩
end
section
variable {G : gG} {N : Option Nat} {h : gH} {R : rA} {SS : Nat → mS} {S' : mS} {t m k : Nat} {x n v w : Int}
theorem Fr.bh (hr : mRn (SS t)) (hf : Fr (SS t) k x n) (hn : 1 ≤ n) : Bh (SS t) k x := ⟨hf.1, hf.2.1, fun p p1 p2 => by
  have h1 := hf.2.2 p p1 p2
  have h2 := (hr.1 p p2).2.1
  omega⟩
set_option maxRecDepth 8000 in
set_option maxHeartbeats 4000000 in
theorem er_pre {E : gK → State → Prop} (hr : RR R SS) (hn : mRn (SS t)) (ht : t < 4) (ho : rOk x n v w) (hf : Fr (SS t) k x n) {b st fr sz nx : Int} (hB : (jB (SS t) k x n v w ∧ b = 1 ∧ st = ms (SS t) (k - 1) ∧ fr = mv (SS t) (k - 1) ∧ sz = ml (SS t) (k - 1) + n) ∨ (¬ jB (SS t) k x n v w ∧ b = 0 ∧ st = x ∧ fr = v ∧ sz = n)) (hA : (jA (SS t) k x n v w (sz - n) ∧ nx = 1) ∨ (¬ jA (SS t) k x n v w (sz - n) ∧ nx = 0))
    (kk : Go G m_Mod_enterRun E 201 [some (vR 541), some (vI t), some (vI x), some (vI n), some (vI v), some (vI w), some (vI ((bg SS t + k : Nat) : Int)), some (vI b), some (vI st), some (vI fr), some (vI sz), some (vI nx)] [] none (hrx R h) 0 0) : Go G m_Mod_enterRun E 0 [some (vR 541), some (vI t), some (vI x), some (vI n), some (vI v), some (vI w), none, none, none, none, none, none] [] N (hrx R h) 0 0 := by
  have hM := ok_Mod_enterRun
  obtain ⟨o1, o2, o3, o4, o5, o6, o7⟩ := ho
  have hk := hf.1
  obtain ⟨r1, r2, r3⟩ := hr
  have bt := bg_le (SS := SS) ht
  have b1 : R.2.2 0 t = ((bg SS t : Nat) : Int) := r2 t (by omega)
  have b2 : R.2.2 0 (t + 1) = ((bg SS t + mn (SS t) : Nat) : Int) := r2 (t + 1) (by omega)
  have tt : ((t : Nat) : Int).toNat = t := by omega
  have tt1 : (((t : Nat) : Int) + 1).toNat = t + 1 := by omega
  have ta : ((bg SS t + k : Nat) : Int).toNat = bg SS t + k := by omega
  have rd : ∀ p, p < mn (SS t) → R.2.2 1 (bg SS t + p) = ms (SS t) p ∧ R.2.2 2 (bg SS t + p) = ml (SS t) p ∧ R.2.2 3 (bg SS t + p) = mv (SS t) p ∧ R.2.2 4 (bg SS t + p) = mw (SS t) p := r3 t ht
  have kb : (b = 1 → 0 < k) ∧ (b = 0 ∨ b = 1) := by
    rcases hB with ⟨z, z1, _⟩ | ⟨_, z1, _⟩
    · exact ⟨fun _ => z.1, Or.inr z1⟩
    · exact ⟨fun q => by omega, Or.inl z1⟩
  -- pc 138
  have C : Go G m_Mod_enterRun E 138 [some (vR 541), some (vI t), some (vI x), some (vI n), some (vI v), some (vI w), some (vI ((bg SS t + k : Nat) : Int)), some (vI b), some (vI st), some (vI fr), some (vI sz), none] [] none (hrx R h) 0 0 := by
    have rng : (0 ≤ st ∧ st ≤ 100000) ∧ (0 ≤ fr ∧ fr ≤ 20000000) ∧ (0 ≤ sz ∧ sz ≤ 200000) := by
      rcases hB with ⟨z, _, z1, z2, z3⟩ | ⟨_, _, z1, z2, z3⟩
      · have c := hn.1 (k - 1) (by have := z.1; omega)
        omega
      · omega
    have sA : jA (SS t) k x n v w (sz - n) ↔ k < mn (SS t) ∧ jnR st sz fr w (ms (SS t) k) (ml (SS t) k) (mv (SS t) k) (mw (SS t) k) := by
      unfold jA jnR
      rcases hB with ⟨⟨z0, z1, z2, z3, z4⟩, _, z5, z6, z7⟩ | ⟨_, _, z5, z6, z7⟩
      · rw [z5, z6, z7]
        constructor
        · rintro ⟨a1, a2, a3, a4, a5⟩
          exact ⟨a1, by omega, by omega, by omega, by omega⟩
        · rintro ⟨a1, a2, a3, a4, a5⟩
          exact ⟨a1, by omega, by omega, by omega, by omega⟩
      · rw [z5, z6, z7]
        constructor
        · rintro ⟨a1, a2, a3, a4, a5⟩
          exact ⟨a1, by omega, by omega, by omega, by omega⟩
        · rintro ⟨a1, a2, a3, a4, a5⟩
          exact ⟨a1, by omega, by omega, by omega, by omega⟩
    have no : ¬ jA (SS t) k x n v w (sz - n) → Go G m_Mod_enterRun E 198 [some (vR 541), some (vI t), some (vI x), some (vI n), some (vI v), some (vI w), some (vI ((bg SS t + k : Nat) : Int)), some (vI b), some (vI st), some (vI fr), some (vI sz), none] [] none (hrx R h) 0 0 := by
      intro hno
      rcases hA with ⟨z, _⟩ | ⟨_, rfl⟩
      · exact absurd z hno
      · repeat (first | exact kk | refine go_pure hM rfl ?_ | refine go_get hM rfl hr_o rfl ?_ | refine go_ldc hM rfl ?_)
    repeat (first | refine go_pure hM rfl ?_ | refine go_get hM rfl hr_o rfl ?_ | refine go_ldc hM rfl ?_)
    refine go_iald hM rfl hr_B (by omega) (by omega) (by omega) ?_
    rw [tt1, b2]
    refine go_icmp_ge hM rfl (by omega) (by omega) (fun h9 => no (fun q => absurd q.1 (by omega))) (fun h9 => ?_)
    have hkn : k < mn (SS t) := by omega
    obtain ⟨d1, d2, d3, d4⟩ := rd k hkn
    have c := hn.1 k hkn
    repeat (first | refine go_pure hM rfl ?_ | refine go_get hM rfl hr_o rfl ?_ | refine go_ldc hM rfl ?_)
    refine go_iald hM rfl hr_S (by omega) (by omega) (by omega) ?_
    rw [ta, d1]
    repeat (first | refine go_pure hM rfl ?_ | refine go_get hM rfl hr_o rfl ?_ | refine go_ldc hM rfl ?_)
    refine go_iald hM rfl hr_L (by omega) (by omega) (by omega) ?_
    rw [ta, d2]
    repeat (first | refine go_pure hM rfl ?_ | refine go_get hM rfl hr_o rfl ?_ | refine go_ldc hM rfl ?_)
    refine go_iald hM rfl hr_V (by omega) (by omega) (by omega) ?_
    rw [ta, d3]
    repeat (first | refine go_pure hM rfl ?_ | refine go_get hM rfl hr_o rfl ?_ | refine go_ldc hM rfl ?_)
    refine go_zald hM rfl hr_W (by omega) (by omega) (by omega) ?_
    rw [ta, d4]
    rcases m_joins (G := G) (N := none) (h := h) (R := R) (s := st) (l := sz) (v := fr) (w := w) (s2 := ms (SS t) k) (l2 := ml (SS t) k) (v2 := mv (SS t) k) (w2 := mw (SS t) k) (by omega) (by omega) (by omega) o4 (by omega) (by omega) (by omega) c.2.2.2.1 with ⟨j1, j2⟩ | ⟨j1, j2⟩
    · refine go_cV hM rfl rfl rfl hr_o rfl j2 rfl ?_
      refine go_if_eq hM rfl (by omega) (fun h8 => absurd h8 (by omega)) (fun _ => ?_)
      rcases hA with ⟨_, rfl⟩ | ⟨z, _⟩
      · repeat (first | exact kk | refine go_pure hM rfl ?_ | refine go_get hM rfl hr_o rfl ?_ | refine go_ldc hM rfl ?_)
      · exact absurd (sA.mpr ⟨hkn, j1⟩) z
    · refine go_cV hM rfl rfl rfl hr_o rfl j2 rfl ?_
      refine go_if_eq hM rfl (by omega) (fun _ => no (fun q => j1 (sA.mp q).2)) (fun h8 => absurd rfl h8)
  -- pc 75
  have B : Go G m_Mod_enterRun E 75 [some (vR 541), some (vI t), some (vI x), some (vI n), some (vI v), some (vI w), some (vI ((bg SS t + k : Nat) : Int)), some (vI b), none, none, none, none] [] none (hrx R h) 0 0 := by
    rcases hB with ⟨z, rfl, z1, z2, z3⟩ | ⟨z, rfl, z1, z2, z3⟩
    · have hk0 := z.1
      obtain ⟨d1, d2, d3, d4⟩ := rd (k - 1) (by omega)
      have ta1 : (((bg SS t + k : Nat) : Int) - 1).toNat = bg SS t + (k - 1) := by omega
      repeat (first | refine go_pure hM rfl ?_ | refine go_get hM rfl hr_o rfl ?_ | refine go_ldc hM rfl ?_)
      refine go_if_eq hM rfl (by omega) (fun h8 => absurd h8 (by omega)) (fun _ => ?_)
      repeat (first | refine go_pure hM rfl ?_ | refine go_get hM rfl hr_o rfl ?_ | refine go_ldc hM rfl ?_)
      refine go_iald hM rfl hr_S (by omega) (by omega) (by omega) ?_
      rw [ta1, d1, ← z1]
      repeat (first | refine go_pure hM rfl ?_ | refine go_get hM rfl hr_o rfl ?_ | refine go_ldc hM rfl ?_)
      refine go_if_eq hM rfl (by omega) (fun h8 => absurd h8 (by omega)) (fun _ => ?_)
      repeat (first | refine go_pure hM rfl ?_ | refine go_get hM rfl hr_o rfl ?_ | refine go_ldc hM rfl ?_)
      refine go_iald hM rfl hr_V (by omega) (by omega) (by omega) ?_
      rw [ta1, d3, ← z2]
      repeat (first | refine go_pure hM rfl ?_ | refine go_get hM rfl hr_o rfl ?_ | refine go_ldc hM rfl ?_)
      refine go_if_eq hM rfl (by omega) (fun h8 => absurd h8 (by omega)) (fun _ => ?_)
      repeat (first | refine go_pure hM rfl ?_ | refine go_get hM rfl hr_o rfl ?_ | refine go_ldc hM rfl ?_)
      refine go_iald hM rfl hr_L (by omega) (by omega) (by omega) ?_
      rw [ta1, d2]
      rw [z3] at C
      repeat (first | exact C | refine go_pure hM rfl ?_ | refine go_get hM rfl hr_o rfl ?_ | refine go_ldc hM rfl ?_)
    · subst z1
      subst z2
      subst z3
      repeat (first | refine go_pure hM rfl ?_ | refine go_get hM rfl hr_o rfl ?_ | refine go_ldc hM rfl ?_)
      refine go_if_eq hM rfl (by omega) (fun _ => ?_) (fun h8 => absurd rfl h8)
      repeat (first | refine go_pure hM rfl ?_ | refine go_get hM rfl hr_o rfl ?_ | refine go_ldc hM rfl ?_)
      refine go_if_eq hM rfl (by omega) (fun _ => ?_) (fun h8 => absurd rfl h8)
      repeat (first | refine go_pure hM rfl ?_ | refine go_get hM rfl hr_o rfl ?_ | refine go_ldc hM rfl ?_)
      refine go_if_eq hM rfl (by omega) (fun _ => ?_) (fun h8 => absurd rfl h8)
      repeat (first | exact C | refine go_pure hM rfl ?_ | refine go_get hM rfl hr_o rfl ?_ | refine go_ldc hM rfl ?_)
  have no : ¬ jB (SS t) k x n v w → Go G m_Mod_enterRun E 72 [some (vR 541), some (vI t), some (vI x), some (vI n), some (vI v), some (vI w), some (vI ((bg SS t + k : Nat) : Int)), none, none, none, none, none] [] none (hrx R h) 0 0 := by
    intro hno
    rcases hB with ⟨z, _⟩ | ⟨_, rfl, _⟩
    · exact absurd z hno
    · repeat (first | exact B | refine go_pure hM rfl ?_ | refine go_get hM rfl hr_o rfl ?_ | refine go_ldc hM rfl ?_)
  refine go_drop ?_
  repeat (first | refine go_pure hM rfl ?_ | refine go_get hM rfl hr_o rfl ?_ | refine go_ldc hM rfl ?_)
  refine go_cV hM rfl rfl rfl hr_o rfl (m_behind ⟨r1, r2, r3⟩ hn ht (hf.bh hn o2) (by omega)) rfl ?_
  repeat (first | refine go_pure hM rfl ?_ | refine go_get hM rfl hr_o rfl ?_ | refine go_ldc hM rfl ?_)
  refine go_iald hM rfl hr_B (by omega) (by omega) (by omega) ?_
  rw [tt, b1]
  refine go_icmp_le hM rfl (by omega) (by omega) (fun h9 => no (fun q => absurd q.1 (by omega))) (fun h9 => ?_)
  have hk0 : 0 < k := by omega
  obtain ⟨d1, d2, d3, d4⟩ := rd (k - 1) (by omega)
  have c := hn.1 (k - 1) (by omega)
  have ta1 : (((bg SS t + k : Nat) : Int) - 1).toNat = bg SS t + (k - 1) := by omega
  repeat (first | refine go_pure hM rfl ?_ | refine go_get hM rfl hr_o rfl ?_ | refine go_ldc hM rfl ?_)
  refine go_iald hM rfl hr_S (by omega) (by omega) (by omega) ?_
  rw [ta1, d1]
  repeat (first | refine go_pure hM rfl ?_ | refine go_get hM rfl hr_o rfl ?_ | refine go_ldc hM rfl ?_)
  refine go_iald hM rfl hr_L (by omega) (by omega) (by omega) ?_
  rw [ta1, d2]
  repeat (first | refine go_pure hM rfl ?_ | refine go_get hM rfl hr_o rfl ?_ | refine go_ldc hM rfl ?_)
  refine go_iald hM rfl hr_V (by omega) (by omega) (by omega) ?_
  rw [ta1, d3]
  repeat (first | refine go_pure hM rfl ?_ | refine go_get hM rfl hr_o rfl ?_ | refine go_ldc hM rfl ?_)
  refine go_zald hM rfl hr_W (by omega) (by omega) (by omega) ?_
  rw [ta1, d4]
  repeat (first | refine go_pure hM rfl ?_ | refine go_get hM rfl hr_o rfl ?_ | refine go_ldc hM rfl ?_)
  rcases m_joins (G := G) (N := none) (h := h) (R := R) (s := ms (SS t) (k - 1)) (l := ml (SS t) (k - 1)) (v := mv (SS t) (k - 1)) (w := mw (SS t) (k - 1)) (s2 := x) (l2 := n) (v2 := v) (w2 := w) (by omega) (by omega) (by omega) c.2.2.2.1 (by omega) (by omega) (by omega) o4 with ⟨j1, j2⟩ | ⟨j1, j2⟩
  · refine go_cV hM rfl rfl rfl hr_o rfl j2 rfl ?_
    refine go_if_eq hM rfl (by omega) (fun h8 => absurd h8 (by omega)) (fun _ => ?_)
    rcases hB with ⟨z, rfl, _⟩ | ⟨z, _⟩
    · repeat (first | exact B | refine go_pure hM rfl ?_ | refine go_get hM rfl hr_o rfl ?_ | refine go_ldc hM rfl ?_)
    · refine absurd ⟨hk0, j1.1, j1.2.1, j1.2.2.1, ?_⟩ z
      have := j1.2.2
      omega
  · refine go_cV hM rfl rfl rfl hr_o rfl j2 rfl ?_
    refine go_if_eq hM rfl (by omega) (fun _ => no (fun q => j1 ⟨q.2.1, q.2.2.1, q.2.2.2.1, by have := q.2.2.2; omega⟩)) (fun h8 => absurd rfl h8)
end
